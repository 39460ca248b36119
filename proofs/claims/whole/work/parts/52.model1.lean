def k11_thrown  (g : G) : Option (Int32) :=
  some (g 47 0)
set_option maxRecDepth 100000 in
set_option maxHeartbeats 4000000 in
theorem m11_thrown (E : EV) (l : Launch) (g : G) : ∀ u, k11_thrown g = some u → MI E l yX11_thrown cX11_thrown 1 (some .int) 0 0 0 [.ref (E.ad 47)] g (u, g) := by
  intro u h
  refine MG.of (by decide +kernel) (Nat.le_of_ble_eq_true rfl) ?_
  intro p e s m args below meth c C hr hnm ls hl hG
  have C : Cx p s m args meth c cX11_thrown 1 RX11 E := C
  have hx := C.1
  have hb := C.2.1
  have hl : lv_has ls 1 [(0, .ref (E.ad 47))] := hl
  unfold k11_thrown at h
  refine lv_aload_n hx hb dX11_thrown_0 rfl (lv_at hl 0 rfl) ?_
  refine r_getI C hG FX11_64 rfl rfl dX11_thrown_1 ?_
  exact r_iretP C hG hr rfl dX11_thrown_4 h
def k11_no  (a1 : Int32) (g : G) : Option (Int32 × G) :=
  bd (up g 47 0 a1) fun g1 =>
  some (0, g1)
set_option maxRecDepth 100000 in
set_option maxHeartbeats 4000000 in
theorem m11_no (E : EV) (l : Launch) (a1 : Int32) (g : G) : ∀ u, k11_no a1 g = some u → MI E l yX11_no cX11_no 2 (some .int) 0 0 0 [.ref (E.ad 47), .int a1] g u := by
  intro u h
  refine MG.of (by decide +kernel) (Nat.le_of_ble_eq_true rfl) ?_
  intro p e s m args below meth c C hr hnm ls hl hG
  have C : Cx p s m args meth c cX11_no 2 RX11 E := C
  have hx := C.1
  have hb := C.2.1
  have hl : lv_has ls 2 [(0, .ref (E.ad 47)), (1, .int a1)] := hl
  unfold k11_no at h
  refine lv_aload_n hx hb dX11_no_0 rfl (lv_at hl 0 rfl) ?_
  refine lv_iload_n hx hb dX11_no_1 rfl (lv_at hl 1 rfl) ?_
  refine r_putI C hG FX11_64 rfl rfl dX11_no_2 h (fun H locs g1 hG h => ?_)
  refine lv_iconst (v := 0) hx hb dX11_no_5 (by decide) ?_
  exact r_iret C hG hr rfl dX11_no_6 h
def k11_ok  (a1 : Int32) (g : G) : Option (Int32 × G) :=
  bd (up g 47 0 0) fun g1 =>
  some (a1, g1)
set_option maxRecDepth 100000 in
set_option maxHeartbeats 4000000 in
theorem m11_ok (E : EV) (l : Launch) (a1 : Int32) (g : G) : ∀ u, k11_ok a1 g = some u → MI E l yX11_ok cX11_ok 2 (some .int) 0 0 0 [.ref (E.ad 47), .int a1] g u := by
  intro u h
  refine MG.of (by decide +kernel) (Nat.le_of_ble_eq_true rfl) ?_
  intro p e s m args below meth c C hr hnm ls hl hG
  have C : Cx p s m args meth c cX11_ok 2 RX11 E := C
  have hx := C.1
  have hb := C.2.1
  have hl : lv_has ls 2 [(0, .ref (E.ad 47)), (1, .int a1)] := hl
  unfold k11_ok at h
  refine lv_aload_n hx hb dX11_ok_0 rfl (lv_at hl 0 rfl) ?_
  refine lv_iconst (v := 0) hx hb dX11_ok_1 (by decide) ?_
  refine r_putI C hG FX11_64 rfl rfl dX11_ok_2 h (fun H locs g1 hG h => ?_)
  refine lv_iload_n hx hb dX11_ok_5 rfl (lv_at hl 1 rfl) ?_
  exact r_iret C hG hr rfl dX11_ok_6 h
def k11_isIn  (a0 : Int32) (a1 : Int32) (a2 : Int32) (g : G) : Option (Int32) :=
  if a0 < a1 then
    some 0
  else
    if a2 < a0 then
      some 0
    else
      some 1
set_option maxRecDepth 100000 in
set_option maxHeartbeats 4000000 in
theorem m11_isIn (E : EV) (l : Launch) (a0 : Int32) (a1 : Int32) (a2 : Int32) (g : G) : ∀ u, k11_isIn a0 a1 a2 g = some u → MI E l yX11_isIn cX11_isIn 3 (some .boolean) 0 0 0 [.int a0, .int a1, .int a2] g (u, g) := by
  intro u h
  refine MG.of (by decide +kernel) (Nat.le_of_ble_eq_true rfl) ?_
  intro p e s m args below meth c C hr hnm ls hl hG
  have C : Cx p s m args meth c cX11_isIn 3 RX11 E := C
  have hx := C.1
  have hb := C.2.1
  have hl : lv_has ls 3 [(0, .int a0), (1, .int a1), (2, .int a2)] := hl
  unfold k11_isIn at h
  refine lv_iload_n hx hb dX11_isIn_0 rfl (lv_at hl 0 rfl) ?_
  refine lv_iload_n hx hb dX11_isIn_1 rfl (lv_at hl 1 rfl) ?_
  refine lv_icmp_lt (tgt := 14) hx hb dX11_isIn_2 (by decide) (fun c1 => ?_) (fun c1 => ?_)
  · have h := (if_inv h).1 c1
    refine lv_iconst (v := 0) hx hb dX11_isIn_14 (by decide) ?_
    exact r_iretP C hG hr rfl dX11_isIn_15 h
  · have h := (if_inv h).2 c1
    refine lv_iload_n hx hb dX11_isIn_5 rfl (lv_at hl 0 rfl) ?_
    refine lv_iload_n hx hb dX11_isIn_6 rfl (lv_at hl 2 rfl) ?_
    refine lv_icmp_gt (tgt := 14) hx hb dX11_isIn_7 (by decide) (fun c2 => ?_) (fun c2 => ?_)
    · have h := (if_inv h).1 c2
      refine lv_iconst (v := 0) hx hb dX11_isIn_14 (by decide) ?_
      exact r_iretP C hG hr rfl dX11_isIn_15 h
    · have h := (if_inv h).2 c2
      refine lv_iconst (v := 1) hx hb dX11_isIn_10 (by decide) ?_
      refine lv_goto (tgt := 15) hx hb dX11_isIn_11 (by decide) ?_
      exact r_iretP C hG hr rfl dX11_isIn_15 h
def k11_isLetter  (a0 : Int32) (g : G) : Option (Int32) :=
  (k11_isIn a0 97 122 g).bind fun u1 =>
  zrP u1
set_option maxRecDepth 100000 in
set_option maxHeartbeats 4000000 in
theorem m11_isLetter (E : EV) (l : Launch) (a0 : Int32) (g : G) : ∀ u, k11_isLetter a0 g = some u → MI E l yX11_isLetter cX11_isLetter 1 (some .boolean) 1 0 0 [.int a0] g (u, g) := by
  intro u h
  refine MG.of (by decide +kernel) (Nat.le_of_ble_eq_true rfl) ?_
  intro p e s m args below meth c C hr hnm ls hl hG
  have C : Cx p s m args meth c cX11_isLetter 1 RX11 E := C
  have hx := C.1
  have hb := C.2.1
  have hl : lv_has ls 1 [(0, .int a0)] := hl
  unfold k11_isLetter at h
  refine lv_iload_n hx hb dX11_isLetter_0 rfl (lv_at hl 0 rfl) ?_
  refine lv_bipush (v := 97) hx hb dX11_isLetter_1 (by decide) ?_
  refine lv_bipush (v := 122) hx hb dX11_isLetter_3 (by decide) ?_
  refine r_callSIP C hl.1 hG [.int a0, .int 97, .int 122] [] (m11_isIn E l a0 97 122 g) LX11_67 rfl (rm_ok (by decide) (by decide)) (Nat.le_of_ble_eq_true rfl) ⟨Nat.le_refl _, Nat.le_refl _⟩ rfl dX11_isLetter_5 h (fun u1 H locs hG h => ?_)
  exact r_zretP C hG hr dX11_isLetter_8 h
def k11_isDigit  (a0 : Int32) (g : G) : Option (Int32) :=
  (k11_isIn a0 48 57 g).bind fun u1 =>
  zrP u1
set_option maxRecDepth 100000 in
set_option maxHeartbeats 4000000 in
theorem m11_isDigit (E : EV) (l : Launch) (a0 : Int32) (g : G) : ∀ u, k11_isDigit a0 g = some u → MI E l yX11_isDigit cX11_isDigit 1 (some .boolean) 1 0 0 [.int a0] g (u, g) := by
  intro u h
  refine MG.of (by decide +kernel) (Nat.le_of_ble_eq_true rfl) ?_
  intro p e s m args below meth c C hr hnm ls hl hG
  have C : Cx p s m args meth c cX11_isDigit 1 RX11 E := C
  have hx := C.1
  have hb := C.2.1
  have hl : lv_has ls 1 [(0, .int a0)] := hl
  unfold k11_isDigit at h
  refine lv_iload_n hx hb dX11_isDigit_0 rfl (lv_at hl 0 rfl) ?_
  refine lv_bipush (v := 48) hx hb dX11_isDigit_1 (by decide) ?_
  refine lv_bipush (v := 57) hx hb dX11_isDigit_3 (by decide) ?_
  refine r_callSIP C hl.1 hG [.int a0, .int 48, .int 57] [] (m11_isIn E l a0 48 57 g) LX11_67 rfl (rm_ok (by decide) (by decide)) (Nat.le_of_ble_eq_true rfl) ⟨Nat.le_refl _, Nat.le_refl _⟩ rfl dX11_isDigit_5 h (fun u1 H locs hG h => ?_)
  exact r_zretP C hG hr dX11_isDigit_8 h
def k11_byteAt  (a1 : Int32) (g : G) : Option (Int32) :=
  if (g 47 2) ≤ a1 then
    some (-1)
  else
    ld g 48 2000 a1 fun x2 =>
    some x2
set_option maxRecDepth 100000 in
set_option maxHeartbeats 4000000 in
theorem m11_byteAt (E : EV) (l : Launch) (a1 : Int32) (g : G) : ∀ u, k11_byteAt a1 g = some u → MI E l yX11_byteAt cX11_byteAt 2 (some .int) 0 0 0 [.ref (E.ad 47), .int a1] g (u, g) := by
  intro u h
  refine MG.of (by decide +kernel) (Nat.le_of_ble_eq_true rfl) ?_
  intro p e s m args below meth c C hr hnm ls hl hG
  have C : Cx p s m args meth c cX11_byteAt 2 RX11 E := C
  have hx := C.1
  have hb := C.2.1
  have hl : lv_has ls 2 [(0, .ref (E.ad 47)), (1, .int a1)] := hl
  unfold k11_byteAt at h
  refine lv_iload_n hx hb dX11_byteAt_0 rfl (lv_at hl 1 rfl) ?_
  refine lv_aload_n hx hb dX11_byteAt_1 rfl (lv_at hl 0 rfl) ?_
  refine r_getI C hG FX11_71 rfl rfl dX11_byteAt_2 ?_
  refine lv_icmp_ge (tgt := 17) hx hb dX11_byteAt_5 (by decide) (fun c1 => ?_) (fun c1 => ?_)
  · have h := (if_inv h).1 c1
    refine lv_iconst (v := (-1)) hx hb dX11_byteAt_17 (by decide) ?_
    exact r_iretP C hG hr rfl dX11_byteAt_18 h
  · have h := (if_inv h).2 c1
    refine lv_aload_n hx hb dX11_byteAt_8 rfl (lv_at hl 0 rfl) ?_
    refine r_getA (j := 48) C hG FX11_9 rfl rfl dX11_byteAt_9 ?_
    refine lv_iload_n hx hb dX11_byteAt_12 rfl (lv_at hl 1 rfl) ?_
    refine r_ild C hG (N := 2000) rfl (by decide) dX11_byteAt_13 h (fun x2 h => ?_)
    refine lv_goto (tgt := 18) hx hb dX11_byteAt_14 (by decide) ?_
    exact r_iretP C hG hr rfl dX11_byteAt_18 h
def k11_isWord_13  (g : G) : Nat → Int32 → Int32 → Nat → Int32 → Option (Int32)
  | 0, _, _, _, _ => none
  | f + 1, v1, v2, v3, v4 =>
        if v2 ≤ v4 then
          some 1
        else
          ckS v3 <| (kJ0_charAt_5068e v3 v4 g).bind fun u2 =>
          ld g 48 2000 (v1 + v4) fun x3 =>
          if u2 = x3 then
            bd (v4 + 1) fun x5 =>
            k11_isWord_13 g f v1 v2 v3 x5
          else
            some 0
def k11_isWord  (a1 : Int32) (a2 : Int32) (a3 : Nat) (g : G) : Option (Int32) :=
  ckS a3 <| (kJ0_length_8abf5 a3 g).bind fun u6 =>
  if u6 = a2 then
    k11_isWord_13 g FU a1 a2 a3 0
  else
    some 0
set_option maxRecDepth 100000 in
set_option maxHeartbeats 4000000 in
theorem m11_isWord (E : EV) (l : Launch) (a1 : Int32) (a2 : Int32) (a3 : Nat) (g : G) : ∀ u, k11_isWord a1 a2 a3 g = some u → MI E l yX11_isWord cX11_isWord 5 (some .boolean) 5 0 0 [.ref (E.ad 47), .int a1, .int a2, .ref (E.aK a3)] g (u, g) := by
  intro u h
  refine MG.of (by decide +kernel) (Nat.le_of_ble_eq_true rfl) ?_
  intro p e s m args below meth c C hr hnm ls hl hG
  have C : Cx p s m args meth c cX11_isWord 5 RX11 E := C
  have hx := C.1
  have hb := C.2.1
  have hl : lv_has ls 5 [(0, .ref (E.ad 47)), (1, .int a1), (2, .int a2), (3, .ref (E.aK a3))] := hl
  unfold k11_isWord at h
  have j13 : ∀ f : Nat, ∀ (v1 : Int32) (v2 : Int32) (v3 : Nat) (v4 : Int32) (H : Heap) (locs : List Loc) (ls : Array Slot), Gd E s H locs g [] → lv_has ls 5 [(0, .ref (E.ad 47)), (1, .int v1), (2, .int v2), (3, .ref (E.aK v3)), (4, .int v4)] → k11_isWord_13 g f v1 v2 v3 v4 = some u → W p l e (rmD 5 0 0) s m args below meth c H locs 0 0 (MQ below (QI E s.heap.size u g) args s 0 0 (AA E s.heap.size)) (F0 m 13 ls []) := by
    intro f
    induction f with
    | zero =>
      intro v1 v2 v3 v4 H locs ls hG hl h
      unfold k11_isWord_13 at h
      cases h
    | succ f ih =>
      intro v1 v2 v3 v4 H locs ls hG hl h
      unfold k11_isWord_13 at h
      refine lv_iload hx hb dX11_isWord_13 (lv_at hl 4 rfl) ?_
      refine lv_iload_n hx hb dX11_isWord_15 rfl (lv_at hl 2 rfl) ?_
      refine lv_icmp_ge (tgt := 45) hx hb dX11_isWord_16 (by decide) (fun c1 => ?_) (fun c1 => ?_)
      · have h := (if_inv h).1 c1
        refine lv_iconst (v := 1) hx hb dX11_isWord_45 (by decide) ?_
        exact r_iretP C hG hr rfl dX11_isWord_46 h
      · have h := (if_inv h).2 c1
        refine lv_aload_n hx hb dX11_isWord_19 rfl (lv_at hl 3 rfl) ?_
        refine lv_iload hx hb dX11_isWord_20 (lv_at hl 4 rfl) ?_
        refine r_callVIS C hl.1 hG [.int v4] [] (mJ0_charAt_5068e E l v3 v4 g) LX11_79 rfl rfl (rm_ok (by decide) (by decide)) (Nat.le_of_ble_eq_true rfl) ⟨Nat.le_refl _, Nat.le_refl _⟩ rfl dX11_isWord_22 h (fun u2 H locs hG h => ?_)
        refine lv_aload_n hx hb dX11_isWord_25 rfl (lv_at hl 0 rfl) ?_
        refine r_getA (j := 48) C hG FX11_9 rfl rfl dX11_isWord_26 ?_
        refine lv_iload_n hx hb dX11_isWord_29 rfl (lv_at hl 1 rfl) ?_
        refine lv_iload hx hb dX11_isWord_30 (lv_at hl 4 rfl) ?_
        refine lv_iadd hx hb dX11_isWord_32 ?_
        refine r_ild C hG (N := 2000) rfl (by decide) dX11_isWord_33 h (fun x3 h => ?_)
        refine lv_icmp_eq (tgt := 39) hx hb dX11_isWord_34 (by decide) (fun c4 => ?_) (fun c4 => ?_)
        · have h := (if_inv h).1 c4
          refine r_iinc (w := 1) (lv' := fun x5 => [(4, .int x5), (0, .ref (E.ad 47)), (1, .int v1), (2, .int v2), (3, .ref (E.aK v3))]) C dX11_isWord_39 hl (k := 4) rfl (by decide) (by decide) (fun _ => rfl) h (fun x5 ls hl h => ?_)
          refine lv_goto (tgt := 13) hx hb dX11_isWord_42 (by decide) ?_
          exact ih v1 v2 v3 x5 _ _ _ hG (lv_sub hl [1, 2, 3, 4, 0] rfl) h
        · have h := (if_inv h).2 c4
          refine lv_iconst (v := 0) hx hb dX11_isWord_37 (by decide) ?_
          exact r_iretP C hG hr rfl dX11_isWord_38 h
  refine lv_aload_n hx hb dX11_isWord_0 rfl (lv_at hl 3 rfl) ?_
  refine r_callVIS C hl.1 hG [] [] (mJ0_length_8abf5 E l a3 g) LX11_74 rfl rfl (rm_ok (by decide) (by decide)) (Nat.le_of_ble_eq_true rfl) ⟨Nat.le_refl _, Nat.le_refl _⟩ rfl dX11_isWord_1 h (fun u6 H locs hG h => ?_)
  refine lv_iload_n hx hb dX11_isWord_4 rfl (lv_at hl 2 rfl) ?_
  refine lv_icmp_eq (tgt := 10) hx hb dX11_isWord_5 (by decide) (fun c7 => ?_) (fun c7 => ?_)
  · have h := (if_inv h).1 c7
    refine lv_iconst (v := 0) hx hb dX11_isWord_10 (by decide) ?_
    refine lv_istore (lv' := [(4, .int 0), (0, .ref (E.ad 47)), (1, .int a1), (2, .int a2), (3, .ref (E.aK a3))]) hx hb dX11_isWord_11 hl (by decide) rfl (fun ls hl => ?_)
    exact j13 FU a1 a2 a3 0 _ _ _ hG (lv_sub hl [1, 2, 3, 4, 0] rfl) h
  · have h := (if_inv h).2 c7
    refine lv_iconst (v := 0) hx hb dX11_isWord_8 (by decide) ?_
    exact r_iretP C hG hr rfl dX11_isWord_9 h
def k11_keyword_2  (g : G) : Nat → Int32 → Int32 → Int32 → Option (Int32)
  | 0, _, _, _ => none
  | f + 1, v1, v2, v3 =>
        if 26 ≤ v3 then
          if v2 ≤ 10 then
            some 30
          else
            some 32
        else
          lwd v3 fun x3 =>
          (k11_isWord v1 v2 x3 g).bind fun u4 =>
          if u4 = 0 then
            bd (v3 + 1) fun x6 =>
            k11_keyword_2 g f v1 v2 x6
          else
            some v3
def k11_keyword  (a1 : Int32) (a2 : Int32) (g : G) : Option (Int32) :=
  k11_keyword_2 g FU a1 a2 0
set_option maxRecDepth 100000 in
set_option maxHeartbeats 4000000 in
theorem m11_keyword (E : EV) (l : Launch) (a1 : Int32) (a2 : Int32) (g : G) : ∀ u, k11_keyword a1 a2 g = some u → MI E l yX11_keyword cX11_keyword 4 (some .int) 6 0 0 [.ref (E.ad 47), .int a1, .int a2] g (u, g) := by
  intro u h
  refine MG.of (by decide +kernel) (Nat.le_of_ble_eq_true rfl) ?_
  intro p e s m args below meth c C hr hnm ls hl hG
  have C : Cx p s m args meth c cX11_keyword 4 RX11 E := C
  have hx := C.1
  have hb := C.2.1
  have hl : lv_has ls 4 [(0, .ref (E.ad 47)), (1, .int a1), (2, .int a2)] := hl
  unfold k11_keyword at h
  have j2 : ∀ f : Nat, ∀ (v1 : Int32) (v2 : Int32) (v3 : Int32) (H : Heap) (locs : List Loc) (ls : Array Slot), Gd E s H locs g [] → lv_has ls 4 [(0, .ref (E.ad 47)), (1, .int v1), (2, .int v2), (3, .int v3)] → k11_keyword_2 g f v1 v2 v3 = some u → W p l e (rmD 6 0 0) s m args below meth c H locs 0 0 (MQ below (QI E s.heap.size u g) args s 0 0 (AA E s.heap.size)) (F0 m 2 ls []) := by
    intro f
    induction f with
    | zero =>
      intro v1 v2 v3 H locs ls hG hl h
      unfold k11_keyword_2 at h
      cases h
    | succ f ih =>
      intro v1 v2 v3 H locs ls hG hl h
      unfold k11_keyword_2 at h
      refine lv_iload_n hx hb dX11_keyword_2 rfl (lv_at hl 3 rfl) ?_
      refine r_gWD C hG FX11_83 dX11_keyword_3 ?_
      refine r_lWD C hG dX11_keyword_6 ?_
      refine lv_icmp_ge (tgt := 32) hx hb dX11_keyword_7 (by decide) (fun c1 => ?_) (fun c1 => ?_)
      · have h := (if_inv h).1 c1
        refine lv_iload_n hx hb dX11_keyword_32 rfl (lv_at hl 2 rfl) ?_
        refine lv_bipush (v := 10) hx hb dX11_keyword_33 (by decide) ?_
        refine lv_icmp_le (tgt := 43) hx hb dX11_keyword_35 (by decide) (fun c2 => ?_) (fun c2 => ?_)
        · have h := (if_inv h).1 c2
          refine lv_bipush (v := 30) hx hb dX11_keyword_43 (by decide) ?_
          exact r_iretP C hG hr rfl dX11_keyword_45 h
        · have h := (if_inv h).2 c2
          refine lv_bipush (v := 32) hx hb dX11_keyword_38 (by decide) ?_
          refine lv_goto (tgt := 45) hx hb dX11_keyword_40 (by decide) ?_
          exact r_iretP C hG hr rfl dX11_keyword_45 h
      · have h := (if_inv h).2 c1
        refine lv_aload_n hx hb dX11_keyword_10 rfl (lv_at hl 0 rfl) ?_
        refine lv_iload_n hx hb dX11_keyword_11 rfl (lv_at hl 1 rfl) ?_
        refine lv_iload_n hx hb dX11_keyword_12 rfl (lv_at hl 2 rfl) ?_
        refine r_gWD C hG FX11_83 dX11_keyword_13 ?_
        refine lv_iload_n hx hb dX11_keyword_16 rfl (lv_at hl 3 rfl) ?_
        refine r_aWD C hG dX11_keyword_17 h (fun x3 h => ?_)
        refine r_callVIP C hl.1 hG [.int v1, .int v2, .ref (E.aK x3)] [] (m11_isWord E l v1 v2 x3 g) LX11_87 rfl KC11 rfl (rm_ok (by decide) (by decide)) (Nat.le_of_ble_eq_true rfl) ⟨Nat.le_refl _, Nat.le_refl _⟩ rfl dX11_keyword_18 h (fun u4 H locs hG h => ?_)
        refine lv_if_eq (tgt := 26) hx hb dX11_keyword_21 (by decide) (fun c5 => ?_) (fun c5 => ?_)
        · have h := (if_inv h).1 c5
          refine r_iinc (w := 1) (lv' := fun x6 => [(3, .int x6), (0, .ref (E.ad 47)), (1, .int v1), (2, .int v2)]) C dX11_keyword_26 hl (k := 3) rfl (by decide) (by decide) (fun _ => rfl) h (fun x6 ls hl h => ?_)
          refine lv_goto (tgt := 2) hx hb dX11_keyword_29 (by decide) ?_
          exact ih v1 v2 x6 _ _ _ hG (lv_sub hl [1, 2, 3, 0] rfl) h
        · have h := (if_inv h).2 c5
          refine lv_iload_n hx hb dX11_keyword_24 rfl (lv_at hl 3 rfl) ?_
          exact r_iretP C hG hr rfl dX11_keyword_25 h
  refine lv_iconst (v := 0) hx hb dX11_keyword_0 (by decide) ?_
  refine lv_istore_n (lv' := [(3, .int 0), (0, .ref (E.ad 47)), (1, .int a1), (2, .int a2)]) hx hb dX11_keyword_1 rfl hl (by decide) rfl (fun ls hl => ?_)
  exact j2 FU a1 a2 0 _ _ _ hG (lv_sub hl [1, 2, 3, 0] rfl) h
def k11_symbol  (a0 : Int32) (g : G) : Option (Int32) :=
  if a0 = 40 then
    some 49
  else
  if a0 = 41 then
    some 50
  else
  if a0 = 42 then
    some 42
  else
  if a0 = 43 then
    some 40
  else
  if a0 = 44 then
    some 54
  else
  if a0 = 45 then
    some 41
  else
  if a0 = 46 then
    some 32
  else
  if a0 = 47 then
    some 43
  else
  if a0 = 48 then
    some 32
  else
  if a0 = 49 then
    some 32
  else
  if a0 = 50 then
    some 32
  else
  if a0 = 51 then
    some 32
  else
  if a0 = 52 then
    some 32
  else
  if a0 = 53 then
    some 32
  else
  if a0 = 54 then
    some 32
  else
  if a0 = 55 then
    some 32
  else
  if a0 = 56 then
    some 32
  else
  if a0 = 57 then
    some 32
  else
  if a0 = 58 then
    some 32
  else
  if a0 = 59 then
    some 53
  else
  if a0 = 60 then
    some 44
  else
  if a0 = 61 then
    some 46
  else
  if a0 = 62 then
    some 45
  else
  if a0 = 63 then
    some 32
  else
  if a0 = 64 then
    some 32
  else
  if a0 = 65 then
    some 32
  else
  if a0 = 66 then
    some 32
  else
  if a0 = 67 then
    some 32
  else
  if a0 = 68 then
    some 32
  else
  if a0 = 69 then
    some 32
  else
  if a0 = 70 then
    some 32
  else
  if a0 = 71 then
    some 32
  else
  if a0 = 72 then
    some 32
  else
  if a0 = 73 then
    some 32
  else
  if a0 = 74 then
    some 32
  else
  if a0 = 75 then
    some 32
  else
  if a0 = 76 then
    some 32
  else
  if a0 = 77 then
    some 32
  else
  if a0 = 78 then
    some 32
  else
  if a0 = 79 then
    some 32
  else
  if a0 = 80 then
    some 32
  else
  if a0 = 81 then
    some 32
  else
  if a0 = 82 then
    some 32
  else
  if a0 = 83 then
    some 32
  else
  if a0 = 84 then
    some 32
  else
  if a0 = 85 then
    some 32
  else
  if a0 = 86 then
    some 32
  else
  if a0 = 87 then
    some 32
  else
  if a0 = 88 then
    some 32
  else
  if a0 = 89 then
    some 32
  else
  if a0 = 90 then
    some 32
  else
  if a0 = 91 then
    some 51
  else
  if a0 = 92 then
    some 32
  else
  if a0 = 93 then
    some 52
  else
  some 32
set_option maxRecDepth 100000 in
set_option maxHeartbeats 4000000 in
theorem m11_symbol (E : EV) (l : Launch) (a0 : Int32) (g : G) : ∀ u, k11_symbol a0 g = some u → MI E l yX11_symbol cX11_symbol 1 (some .int) 0 0 0 [.int a0] g (u, g) := by
  intro u h
  refine MG.of (by decide +kernel) (Nat.le_of_ble_eq_true rfl) ?_
  intro p e s m args below meth c C hr hnm ls hl hG
  have C : Cx p s m args meth c cX11_symbol 1 RX11 E := C
  have hx := C.1
  have hb := C.2.1
  have hl : lv_has ls 1 [(0, .int a0)] := hl
  unfold k11_symbol at h
  refine lv_iload_n hx hb dX11_symbol_0 rfl (lv_at hl 0 rfl) ?_
  by_cases c1 : a0 = 40
  · have h := (if_inv h).1 c1
    refine lv_tableIn (off := 231) (tgt := 232) hx hb dX11_symbol_1 (by rw [c1]; decide +kernel) (by rw [c1]; decide +kernel) (by rw [c1]; decide +kernel) (by decide) ?_
    refine lv_bipush (v := 49) hx hb dX11_symbol_232 (by decide) ?_
    exact r_iretP C hG hr rfl dX11_symbol_234 h
  have h := (if_inv h).2 c1
  by_cases c2 : a0 = 41
  · have h := (if_inv h).1 c2
    refine lv_tableIn (off := 234) (tgt := 235) hx hb dX11_symbol_1 (by rw [c2]; decide +kernel) (by rw [c2]; decide +kernel) (by rw [c2]; decide +kernel) (by decide) ?_
    refine lv_bipush (v := 50) hx hb dX11_symbol_235 (by decide) ?_
    exact r_iretP C hG hr rfl dX11_symbol_237 h
  have h := (if_inv h).2 c2
  by_cases c3 : a0 = 42
  · have h := (if_inv h).1 c3
    refine lv_tableIn (off := 255) (tgt := 256) hx hb dX11_symbol_1 (by rw [c3]; decide +kernel) (by rw [c3]; decide +kernel) (by rw [c3]; decide +kernel) (by decide) ?_
    refine lv_bipush (v := 42) hx hb dX11_symbol_256 (by decide) ?_
    exact r_iretP C hG hr rfl dX11_symbol_258 h
  have h := (if_inv h).2 c3
  by_cases c4 : a0 = 43
  · have h := (if_inv h).1 c4
    refine lv_tableIn (off := 249) (tgt := 250) hx hb dX11_symbol_1 (by rw [c4]; decide +kernel) (by rw [c4]; decide +kernel) (by rw [c4]; decide +kernel) (by decide) ?_
    refine lv_bipush (v := 40) hx hb dX11_symbol_250 (by decide) ?_
    exact r_iretP C hG hr rfl dX11_symbol_252 h
  have h := (if_inv h).2 c4
  by_cases c5 : a0 = 44
  · have h := (if_inv h).1 c5
    refine lv_tableIn (off := 246) (tgt := 247) hx hb dX11_symbol_1 (by rw [c5]; decide +kernel) (by rw [c5]; decide +kernel) (by rw [c5]; decide +kernel) (by decide) ?_
    refine lv_bipush (v := 54) hx hb dX11_symbol_247 (by decide) ?_
    exact r_iretP C hG hr rfl dX11_symbol_249 h
  have h := (if_inv h).2 c5
  by_cases c6 : a0 = 45
  · have h := (if_inv h).1 c6
    refine lv_tableIn (off := 252) (tgt := 253) hx hb dX11_symbol_1 (by rw [c6]; decide +kernel) (by rw [c6]; decide +kernel) (by rw [c6]; decide +kernel) (by decide) ?_
    refine lv_bipush (v := 41) hx hb dX11_symbol_253 (by decide) ?_
    exact r_iretP C hG hr rfl dX11_symbol_255 h
  have h := (if_inv h).2 c6
  by_cases c7 : a0 = 46
  · have h := (if_inv h).1 c7
    refine lv_tableIn (off := 270) (tgt := 271) hx hb dX11_symbol_1 (by rw [c7]; decide +kernel) (by rw [c7]; decide +kernel) (by rw [c7]; decide +kernel) (by decide) ?_
    refine lv_bipush (v := 32) hx hb dX11_symbol_271 (by decide) ?_
    exact r_iretP C hG hr rfl dX11_symbol_273 h
  have h := (if_inv h).2 c7
  by_cases c8 : a0 = 47
  · have h := (if_inv h).1 c8
    refine lv_tableIn (off := 258) (tgt := 259) hx hb dX11_symbol_1 (by rw [c8]; decide +kernel) (by rw [c8]; decide +kernel) (by rw [c8]; decide +kernel) (by decide) ?_
    refine lv_bipush (v := 43) hx hb dX11_symbol_259 (by decide) ?_
    exact r_iretP C hG hr rfl dX11_symbol_261 h
  have h := (if_inv h).2 c8
  by_cases c9 : a0 = 48
  · have h := (if_inv h).1 c9
    refine lv_tableIn (off := 270) (tgt := 271) hx hb dX11_symbol_1 (by rw [c9]; decide +kernel) (by rw [c9]; decide +kernel) (by rw [c9]; decide +kernel) (by decide) ?_
    refine lv_bipush (v := 32) hx hb dX11_symbol_271 (by decide) ?_
    exact r_iretP C hG hr rfl dX11_symbol_273 h
  have h := (if_inv h).2 c9
  by_cases c10 : a0 = 49
  · have h := (if_inv h).1 c10
    refine lv_tableIn (off := 270) (tgt := 271) hx hb dX11_symbol_1 (by rw [c10]; decide +kernel) (by rw [c10]; decide +kernel) (by rw [c10]; decide +kernel) (by decide) ?_
    refine lv_bipush (v := 32) hx hb dX11_symbol_271 (by decide) ?_
    exact r_iretP C hG hr rfl dX11_symbol_273 h
  have h := (if_inv h).2 c10
  by_cases c11 : a0 = 50
  · have h := (if_inv h).1 c11
    refine lv_tableIn (off := 270) (tgt := 271) hx hb dX11_symbol_1 (by rw [c11]; decide +kernel) (by rw [c11]; decide +kernel) (by rw [c11]; decide +kernel) (by decide) ?_
    refine lv_bipush (v := 32) hx hb dX11_symbol_271 (by decide) ?_
    exact r_iretP C hG hr rfl dX11_symbol_273 h
  have h := (if_inv h).2 c11
  by_cases c12 : a0 = 51
  · have h := (if_inv h).1 c12
    refine lv_tableIn (off := 270) (tgt := 271) hx hb dX11_symbol_1 (by rw [c12]; decide +kernel) (by rw [c12]; decide +kernel) (by rw [c12]; decide +kernel) (by decide) ?_
    refine lv_bipush (v := 32) hx hb dX11_symbol_271 (by decide) ?_
    exact r_iretP C hG hr rfl dX11_symbol_273 h
  have h := (if_inv h).2 c12
  by_cases c13 : a0 = 52
  · have h := (if_inv h).1 c13
    refine lv_tableIn (off := 270) (tgt := 271) hx hb dX11_symbol_1 (by rw [c13]; decide +kernel) (by rw [c13]; decide +kernel) (by rw [c13]; decide +kernel) (by decide) ?_
    refine lv_bipush (v := 32) hx hb dX11_symbol_271 (by decide) ?_
    exact r_iretP C hG hr rfl dX11_symbol_273 h
  have h := (if_inv h).2 c13
  by_cases c14 : a0 = 53
  · have h := (if_inv h).1 c14
    refine lv_tableIn (off := 270) (tgt := 271) hx hb dX11_symbol_1 (by rw [c14]; decide +kernel) (by rw [c14]; decide +kernel) (by rw [c14]; decide +kernel) (by decide) ?_
    refine lv_bipush (v := 32) hx hb dX11_symbol_271 (by decide) ?_
    exact r_iretP C hG hr rfl dX11_symbol_273 h
  have h := (if_inv h).2 c14
  by_cases c15 : a0 = 54
  · have h := (if_inv h).1 c15
    refine lv_tableIn (off := 270) (tgt := 271) hx hb dX11_symbol_1 (by rw [c15]; decide +kernel) (by rw [c15]; decide +kernel) (by rw [c15]; decide +kernel) (by decide) ?_
    refine lv_bipush (v := 32) hx hb dX11_symbol_271 (by decide) ?_
    exact r_iretP C hG hr rfl dX11_symbol_273 h
  have h := (if_inv h).2 c15
  by_cases c16 : a0 = 55
  · have h := (if_inv h).1 c16
    refine lv_tableIn (off := 270) (tgt := 271) hx hb dX11_symbol_1 (by rw [c16]; decide +kernel) (by rw [c16]; decide +kernel) (by rw [c16]; decide +kernel) (by decide) ?_
    refine lv_bipush (v := 32) hx hb dX11_symbol_271 (by decide) ?_
    exact r_iretP C hG hr rfl dX11_symbol_273 h
  have h := (if_inv h).2 c16
  by_cases c17 : a0 = 56
  · have h := (if_inv h).1 c17
    refine lv_tableIn (off := 270) (tgt := 271) hx hb dX11_symbol_1 (by rw [c17]; decide +kernel) (by rw [c17]; decide +kernel) (by rw [c17]; decide +kernel) (by decide) ?_
    refine lv_bipush (v := 32) hx hb dX11_symbol_271 (by decide) ?_
    exact r_iretP C hG hr rfl dX11_symbol_273 h
  have h := (if_inv h).2 c17
  by_cases c18 : a0 = 57
  · have h := (if_inv h).1 c18
    refine lv_tableIn (off := 270) (tgt := 271) hx hb dX11_symbol_1 (by rw [c18]; decide +kernel) (by rw [c18]; decide +kernel) (by rw [c18]; decide +kernel) (by decide) ?_
    refine lv_bipush (v := 32) hx hb dX11_symbol_271 (by decide) ?_
    exact r_iretP C hG hr rfl dX11_symbol_273 h
  have h := (if_inv h).2 c18
  by_cases c19 : a0 = 58
  · have h := (if_inv h).1 c19
    refine lv_tableIn (off := 270) (tgt := 271) hx hb dX11_symbol_1 (by rw [c19]; decide +kernel) (by rw [c19]; decide +kernel) (by rw [c19]; decide +kernel) (by decide) ?_
    refine lv_bipush (v := 32) hx hb dX11_symbol_271 (by decide) ?_
    exact r_iretP C hG hr rfl dX11_symbol_273 h
  have h := (if_inv h).2 c19
  by_cases c20 : a0 = 59
  · have h := (if_inv h).1 c20
    refine lv_tableIn (off := 243) (tgt := 244) hx hb dX11_symbol_1 (by rw [c20]; decide +kernel) (by rw [c20]; decide +kernel) (by rw [c20]; decide +kernel) (by decide) ?_
    refine lv_bipush (v := 53) hx hb dX11_symbol_244 (by decide) ?_
    exact r_iretP C hG hr rfl dX11_symbol_246 h
  have h := (if_inv h).2 c20
  by_cases c21 : a0 = 60
  · have h := (if_inv h).1 c21
    refine lv_tableIn (off := 261) (tgt := 262) hx hb dX11_symbol_1 (by rw [c21]; decide +kernel) (by rw [c21]; decide +kernel) (by rw [c21]; decide +kernel) (by decide) ?_
    refine lv_bipush (v := 44) hx hb dX11_symbol_262 (by decide) ?_
    exact r_iretP C hG hr rfl dX11_symbol_264 h
  have h := (if_inv h).2 c21
  by_cases c22 : a0 = 61
  · have h := (if_inv h).1 c22
    refine lv_tableIn (off := 267) (tgt := 268) hx hb dX11_symbol_1 (by rw [c22]; decide +kernel) (by rw [c22]; decide +kernel) (by rw [c22]; decide +kernel) (by decide) ?_
    refine lv_bipush (v := 46) hx hb dX11_symbol_268 (by decide) ?_
    exact r_iretP C hG hr rfl dX11_symbol_270 h
  have h := (if_inv h).2 c22
  by_cases c23 : a0 = 62
  · have h := (if_inv h).1 c23
    refine lv_tableIn (off := 264) (tgt := 265) hx hb dX11_symbol_1 (by rw [c23]; decide +kernel) (by rw [c23]; decide +kernel) (by rw [c23]; decide +kernel) (by decide) ?_
    refine lv_bipush (v := 45) hx hb dX11_symbol_265 (by decide) ?_
    exact r_iretP C hG hr rfl dX11_symbol_267 h
  have h := (if_inv h).2 c23
  by_cases c24 : a0 = 63
  · have h := (if_inv h).1 c24
    refine lv_tableIn (off := 270) (tgt := 271) hx hb dX11_symbol_1 (by rw [c24]; decide +kernel) (by rw [c24]; decide +kernel) (by rw [c24]; decide +kernel) (by decide) ?_
    refine lv_bipush (v := 32) hx hb dX11_symbol_271 (by decide) ?_
    exact r_iretP C hG hr rfl dX11_symbol_273 h
  have h := (if_inv h).2 c24
  by_cases c25 : a0 = 64
  · have h := (if_inv h).1 c25
    refine lv_tableIn (off := 270) (tgt := 271) hx hb dX11_symbol_1 (by rw [c25]; decide +kernel) (by rw [c25]; decide +kernel) (by rw [c25]; decide +kernel) (by decide) ?_
    refine lv_bipush (v := 32) hx hb dX11_symbol_271 (by decide) ?_
    exact r_iretP C hG hr rfl dX11_symbol_273 h
  have h := (if_inv h).2 c25
  by_cases c26 : a0 = 65
  · have h := (if_inv h).1 c26
    refine lv_tableIn (off := 270) (tgt := 271) hx hb dX11_symbol_1 (by rw [c26]; decide +kernel) (by rw [c26]; decide +kernel) (by rw [c26]; decide +kernel) (by decide) ?_
    refine lv_bipush (v := 32) hx hb dX11_symbol_271 (by decide) ?_
    exact r_iretP C hG hr rfl dX11_symbol_273 h
  have h := (if_inv h).2 c26
  by_cases c27 : a0 = 66
  · have h := (if_inv h).1 c27
    refine lv_tableIn (off := 270) (tgt := 271) hx hb dX11_symbol_1 (by rw [c27]; decide +kernel) (by rw [c27]; decide +kernel) (by rw [c27]; decide +kernel) (by decide) ?_
    refine lv_bipush (v := 32) hx hb dX11_symbol_271 (by decide) ?_
    exact r_iretP C hG hr rfl dX11_symbol_273 h
  have h := (if_inv h).2 c27
  by_cases c28 : a0 = 67
  · have h := (if_inv h).1 c28
    refine lv_tableIn (off := 270) (tgt := 271) hx hb dX11_symbol_1 (by rw [c28]; decide +kernel) (by rw [c28]; decide +kernel) (by rw [c28]; decide +kernel) (by decide) ?_
    refine lv_bipush (v := 32) hx hb dX11_symbol_271 (by decide) ?_
    exact r_iretP C hG hr rfl dX11_symbol_273 h
  have h := (if_inv h).2 c28
  by_cases c29 : a0 = 68
  · have h := (if_inv h).1 c29
    refine lv_tableIn (off := 270) (tgt := 271) hx hb dX11_symbol_1 (by rw [c29]; decide +kernel) (by rw [c29]; decide +kernel) (by rw [c29]; decide +kernel) (by decide) ?_
    refine lv_bipush (v := 32) hx hb dX11_symbol_271 (by decide) ?_
    exact r_iretP C hG hr rfl dX11_symbol_273 h
  have h := (if_inv h).2 c29
  by_cases c30 : a0 = 69
  · have h := (if_inv h).1 c30
    refine lv_tableIn (off := 270) (tgt := 271) hx hb dX11_symbol_1 (by rw [c30]; decide +kernel) (by rw [c30]; decide +kernel) (by rw [c30]; decide +kernel) (by decide) ?_
    refine lv_bipush (v := 32) hx hb dX11_symbol_271 (by decide) ?_
    exact r_iretP C hG hr rfl dX11_symbol_273 h
  have h := (if_inv h).2 c30
  by_cases c31 : a0 = 70
  · have h := (if_inv h).1 c31
    refine lv_tableIn (off := 270) (tgt := 271) hx hb dX11_symbol_1 (by rw [c31]; decide +kernel) (by rw [c31]; decide +kernel) (by rw [c31]; decide +kernel) (by decide) ?_
    refine lv_bipush (v := 32) hx hb dX11_symbol_271 (by decide) ?_
    exact r_iretP C hG hr rfl dX11_symbol_273 h
  have h := (if_inv h).2 c31
  by_cases c32 : a0 = 71
  · have h := (if_inv h).1 c32
    refine lv_tableIn (off := 270) (tgt := 271) hx hb dX11_symbol_1 (by rw [c32]; decide +kernel) (by rw [c32]; decide +kernel) (by rw [c32]; decide +kernel) (by decide) ?_
    refine lv_bipush (v := 32) hx hb dX11_symbol_271 (by decide) ?_
    exact r_iretP C hG hr rfl dX11_symbol_273 h
  have h := (if_inv h).2 c32
  by_cases c33 : a0 = 72
  · have h := (if_inv h).1 c33
    refine lv_tableIn (off := 270) (tgt := 271) hx hb dX11_symbol_1 (by rw [c33]; decide +kernel) (by rw [c33]; decide +kernel) (by rw [c33]; decide +kernel) (by decide) ?_
    refine lv_bipush (v := 32) hx hb dX11_symbol_271 (by decide) ?_
    exact r_iretP C hG hr rfl dX11_symbol_273 h
  have h := (if_inv h).2 c33
  by_cases c34 : a0 = 73
  · have h := (if_inv h).1 c34
    refine lv_tableIn (off := 270) (tgt := 271) hx hb dX11_symbol_1 (by rw [c34]; decide +kernel) (by rw [c34]; decide +kernel) (by rw [c34]; decide +kernel) (by decide) ?_
    refine lv_bipush (v := 32) hx hb dX11_symbol_271 (by decide) ?_
    exact r_iretP C hG hr rfl dX11_symbol_273 h
  have h := (if_inv h).2 c34
  by_cases c35 : a0 = 74
  · have h := (if_inv h).1 c35
    refine lv_tableIn (off := 270) (tgt := 271) hx hb dX11_symbol_1 (by rw [c35]; decide +kernel) (by rw [c35]; decide +kernel) (by rw [c35]; decide +kernel) (by decide) ?_
    refine lv_bipush (v := 32) hx hb dX11_symbol_271 (by decide) ?_
    exact r_iretP C hG hr rfl dX11_symbol_273 h
  have h := (if_inv h).2 c35
  by_cases c36 : a0 = 75
  · have h := (if_inv h).1 c36
    refine lv_tableIn (off := 270) (tgt := 271) hx hb dX11_symbol_1 (by rw [c36]; decide +kernel) (by rw [c36]; decide +kernel) (by rw [c36]; decide +kernel) (by decide) ?_
    refine lv_bipush (v := 32) hx hb dX11_symbol_271 (by decide) ?_
    exact r_iretP C hG hr rfl dX11_symbol_273 h
  have h := (if_inv h).2 c36
  by_cases c37 : a0 = 76
  · have h := (if_inv h).1 c37
    refine lv_tableIn (off := 270) (tgt := 271) hx hb dX11_symbol_1 (by rw [c37]; decide +kernel) (by rw [c37]; decide +kernel) (by rw [c37]; decide +kernel) (by decide) ?_
    refine lv_bipush (v := 32) hx hb dX11_symbol_271 (by decide) ?_
    exact r_iretP C hG hr rfl dX11_symbol_273 h
  have h := (if_inv h).2 c37
  by_cases c38 : a0 = 77
  · have h := (if_inv h).1 c38
    refine lv_tableIn (off := 270) (tgt := 271) hx hb dX11_symbol_1 (by rw [c38]; decide +kernel) (by rw [c38]; decide +kernel) (by rw [c38]; decide +kernel) (by decide) ?_
    refine lv_bipush (v := 32) hx hb dX11_symbol_271 (by decide) ?_
    exact r_iretP C hG hr rfl dX11_symbol_273 h
  have h := (if_inv h).2 c38
  by_cases c39 : a0 = 78
  · have h := (if_inv h).1 c39
    refine lv_tableIn (off := 270) (tgt := 271) hx hb dX11_symbol_1 (by rw [c39]; decide +kernel) (by rw [c39]; decide +kernel) (by rw [c39]; decide +kernel) (by decide) ?_
    refine lv_bipush (v := 32) hx hb dX11_symbol_271 (by decide) ?_
    exact r_iretP C hG hr rfl dX11_symbol_273 h
  have h := (if_inv h).2 c39
  by_cases c40 : a0 = 79
  · have h := (if_inv h).1 c40
    refine lv_tableIn (off := 270) (tgt := 271) hx hb dX11_symbol_1 (by rw [c40]; decide +kernel) (by rw [c40]; decide +kernel) (by rw [c40]; decide +kernel) (by decide) ?_
    refine lv_bipush (v := 32) hx hb dX11_symbol_271 (by decide) ?_
    exact r_iretP C hG hr rfl dX11_symbol_273 h
  have h := (if_inv h).2 c40
  by_cases c41 : a0 = 80
  · have h := (if_inv h).1 c41
    refine lv_tableIn (off := 270) (tgt := 271) hx hb dX11_symbol_1 (by rw [c41]; decide +kernel) (by rw [c41]; decide +kernel) (by rw [c41]; decide +kernel) (by decide) ?_
    refine lv_bipush (v := 32) hx hb dX11_symbol_271 (by decide) ?_
    exact r_iretP C hG hr rfl dX11_symbol_273 h
  have h := (if_inv h).2 c41
  by_cases c42 : a0 = 81
  · have h := (if_inv h).1 c42
    refine lv_tableIn (off := 270) (tgt := 271) hx hb dX11_symbol_1 (by rw [c42]; decide +kernel) (by rw [c42]; decide +kernel) (by rw [c42]; decide +kernel) (by decide) ?_
    refine lv_bipush (v := 32) hx hb dX11_symbol_271 (by decide) ?_
    exact r_iretP C hG hr rfl dX11_symbol_273 h
  have h := (if_inv h).2 c42
  by_cases c43 : a0 = 82
  · have h := (if_inv h).1 c43
    refine lv_tableIn (off := 270) (tgt := 271) hx hb dX11_symbol_1 (by rw [c43]; decide +kernel) (by rw [c43]; decide +kernel) (by rw [c43]; decide +kernel) (by decide) ?_
    refine lv_bipush (v := 32) hx hb dX11_symbol_271 (by decide) ?_
    exact r_iretP C hG hr rfl dX11_symbol_273 h
  have h := (if_inv h).2 c43
  by_cases c44 : a0 = 83
  · have h := (if_inv h).1 c44
    refine lv_tableIn (off := 270) (tgt := 271) hx hb dX11_symbol_1 (by rw [c44]; decide +kernel) (by rw [c44]; decide +kernel) (by rw [c44]; decide +kernel) (by decide) ?_
    refine lv_bipush (v := 32) hx hb dX11_symbol_271 (by decide) ?_
    exact r_iretP C hG hr rfl dX11_symbol_273 h
  have h := (if_inv h).2 c44
  by_cases c45 : a0 = 84
  · have h := (if_inv h).1 c45
    refine lv_tableIn (off := 270) (tgt := 271) hx hb dX11_symbol_1 (by rw [c45]; decide +kernel) (by rw [c45]; decide +kernel) (by rw [c45]; decide +kernel) (by decide) ?_
    refine lv_bipush (v := 32) hx hb dX11_symbol_271 (by decide) ?_
    exact r_iretP C hG hr rfl dX11_symbol_273 h
  have h := (if_inv h).2 c45
  by_cases c46 : a0 = 85
  · have h := (if_inv h).1 c46
    refine lv_tableIn (off := 270) (tgt := 271) hx hb dX11_symbol_1 (by rw [c46]; decide +kernel) (by rw [c46]; decide +kernel) (by rw [c46]; decide +kernel) (by decide) ?_
    refine lv_bipush (v := 32) hx hb dX11_symbol_271 (by decide) ?_
    exact r_iretP C hG hr rfl dX11_symbol_273 h
  have h := (if_inv h).2 c46
  by_cases c47 : a0 = 86
  · have h := (if_inv h).1 c47
    refine lv_tableIn (off := 270) (tgt := 271) hx hb dX11_symbol_1 (by rw [c47]; decide +kernel) (by rw [c47]; decide +kernel) (by rw [c47]; decide +kernel) (by decide) ?_
    refine lv_bipush (v := 32) hx hb dX11_symbol_271 (by decide) ?_
    exact r_iretP C hG hr rfl dX11_symbol_273 h
  have h := (if_inv h).2 c47
  by_cases c48 : a0 = 87
  · have h := (if_inv h).1 c48
    refine lv_tableIn (off := 270) (tgt := 271) hx hb dX11_symbol_1 (by rw [c48]; decide +kernel) (by rw [c48]; decide +kernel) (by rw [c48]; decide +kernel) (by decide) ?_
    refine lv_bipush (v := 32) hx hb dX11_symbol_271 (by decide) ?_
    exact r_iretP C hG hr rfl dX11_symbol_273 h
  have h := (if_inv h).2 c48
  by_cases c49 : a0 = 88
  · have h := (if_inv h).1 c49
    refine lv_tableIn (off := 270) (tgt := 271) hx hb dX11_symbol_1 (by rw [c49]; decide +kernel) (by rw [c49]; decide +kernel) (by rw [c49]; decide +kernel) (by decide) ?_
    refine lv_bipush (v := 32) hx hb dX11_symbol_271 (by decide) ?_
    exact r_iretP C hG hr rfl dX11_symbol_273 h
  have h := (if_inv h).2 c49
  by_cases c50 : a0 = 89
  · have h := (if_inv h).1 c50
    refine lv_tableIn (off := 270) (tgt := 271) hx hb dX11_symbol_1 (by rw [c50]; decide +kernel) (by rw [c50]; decide +kernel) (by rw [c50]; decide +kernel) (by decide) ?_
    refine lv_bipush (v := 32) hx hb dX11_symbol_271 (by decide) ?_
    exact r_iretP C hG hr rfl dX11_symbol_273 h
  have h := (if_inv h).2 c50
  by_cases c51 : a0 = 90
  · have h := (if_inv h).1 c51
    refine lv_tableIn (off := 270) (tgt := 271) hx hb dX11_symbol_1 (by rw [c51]; decide +kernel) (by rw [c51]; decide +kernel) (by rw [c51]; decide +kernel) (by decide) ?_
    refine lv_bipush (v := 32) hx hb dX11_symbol_271 (by decide) ?_
    exact r_iretP C hG hr rfl dX11_symbol_273 h
  have h := (if_inv h).2 c51
  by_cases c52 : a0 = 91
  · have h := (if_inv h).1 c52
    refine lv_tableIn (off := 237) (tgt := 238) hx hb dX11_symbol_1 (by rw [c52]; decide +kernel) (by rw [c52]; decide +kernel) (by rw [c52]; decide +kernel) (by decide) ?_
    refine lv_bipush (v := 51) hx hb dX11_symbol_238 (by decide) ?_
    exact r_iretP C hG hr rfl dX11_symbol_240 h
  have h := (if_inv h).2 c52
  by_cases c53 : a0 = 92
  · have h := (if_inv h).1 c53
    refine lv_tableIn (off := 270) (tgt := 271) hx hb dX11_symbol_1 (by rw [c53]; decide +kernel) (by rw [c53]; decide +kernel) (by rw [c53]; decide +kernel) (by decide) ?_
    refine lv_bipush (v := 32) hx hb dX11_symbol_271 (by decide) ?_
    exact r_iretP C hG hr rfl dX11_symbol_273 h
  have h := (if_inv h).2 c53
  by_cases c54 : a0 = 93
  · have h := (if_inv h).1 c54
    refine lv_tableIn (off := 240) (tgt := 241) hx hb dX11_symbol_1 (by rw [c54]; decide +kernel) (by rw [c54]; decide +kernel) (by rw [c54]; decide +kernel) (by decide) ?_
    refine lv_bipush (v := 52) hx hb dX11_symbol_241 (by decide) ?_
    exact r_iretP C hG hr rfl dX11_symbol_243 h
  have h := (if_inv h).2 c54
  refine lv_tableOut (tgt := 271) hx hb dX11_symbol_1 (tab_out 54 (by decide) (lt_s (lt_s (lt_s (lt_s (lt_s (lt_s (lt_s (lt_s (lt_s (lt_s (lt_s (lt_s (lt_s (lt_s (lt_s (lt_s (lt_s (lt_s (lt_s (lt_s (lt_s (lt_s (lt_s (lt_s (lt_s (lt_s (lt_s (lt_s (lt_s (lt_s (lt_s (lt_s (lt_s (lt_s (lt_s (lt_s (lt_s (lt_s (lt_s (lt_s (lt_s (lt_s (lt_s (lt_s (lt_s (lt_s (lt_s (lt_s (lt_s (lt_s (lt_s (lt_s (lt_s (lt_s lt_0 (nei c1 (by decide))) (nei c2 (by decide))) (nei c3 (by decide))) (nei c4 (by decide))) (nei c5 (by decide))) (nei c6 (by decide))) (nei c7 (by decide))) (nei c8 (by decide))) (nei c9 (by decide))) (nei c10 (by decide))) (nei c11 (by decide))) (nei c12 (by decide))) (nei c13 (by decide))) (nei c14 (by decide))) (nei c15 (by decide))) (nei c16 (by decide))) (nei c17 (by decide))) (nei c18 (by decide))) (nei c19 (by decide))) (nei c20 (by decide))) (nei c21 (by decide))) (nei c22 (by decide))) (nei c23 (by decide))) (nei c24 (by decide))) (nei c25 (by decide))) (nei c26 (by decide))) (nei c27 (by decide))) (nei c28 (by decide))) (nei c29 (by decide))) (nei c30 (by decide))) (nei c31 (by decide))) (nei c32 (by decide))) (nei c33 (by decide))) (nei c34 (by decide))) (nei c35 (by decide))) (nei c36 (by decide))) (nei c37 (by decide))) (nei c38 (by decide))) (nei c39 (by decide))) (nei c40 (by decide))) (nei c41 (by decide))) (nei c42 (by decide))) (nei c43 (by decide))) (nei c44 (by decide))) (nei c45 (by decide))) (nei c46 (by decide))) (nei c47 (by decide))) (nei c48 (by decide))) (nei c49 (by decide))) (nei c50 (by decide))) (nei c51 (by decide))) (nei c52 (by decide))) (nei c53 (by decide))) (nei c54 (by decide)))) (by decide) ?_
  refine lv_bipush (v := 32) hx hb dX11_symbol_271 (by decide) ?_
  exact r_iretP C hG hr rfl dX11_symbol_273 h
def k11_read_239  (v1 : Int32) (v2 : Int32) (v4 : Int32) (g : G) : Option (Int32 × G) :=
      sto g 52 402 v2 (v4 - v1) fun g1 =>
      some (v4, g1)
def k11_read_26  : Nat → Int32 → Int32 → Int32 → G → Option (Int32 × G)
  | 0, _, _, _, _ => none
  | f + 1, v1, v2, v4, g =>
        (k11_byteAt v4 g).bind fun u2 =>
        (k11_isLetter u2 g).bind fun u3 =>
        if u3 = 0 then
          (k11_byteAt v4 g).bind fun u6 =>
          (k11_isDigit u6 g).bind fun u7 =>
          if u7 = 0 then
            (k11_keyword v1 (v4 - v1) g).bind fun u9 =>
            sto g 49 402 v2 u9 fun g10 =>
            k11_read_239 v1 v2 v4 g10
          else
            bd (v4 + 1) fun x11 =>
            k11_read_26 f v1 v2 x11 g
        else
          bd (v4 + 1) fun x5 =>
          k11_read_26 f v1 v2 x5 g
def k11_read_128  (K87 : Int32 → Int32 → Int32 → Int32 → G → Option (Int32 × G)) (v1 : Int32) (v2 : Int32) (v4 : Int32) (t0 : Int32) (g : G) : Option (Int32 × G) :=
      bd (v4 + 1) fun x12 =>
      K87 v1 v2 x12 t0 g
def k11_read_165  (v1 : Int32) (v2 : Int32) (v4 : Int32) (t0 : Int32) (t1 : Int32) (g : G) : Option (Int32 × G) :=
      sto g 49 402 t1 t0 fun g13 =>
      k11_read_239 v1 v2 v4 g13
def k11_read_87  : Nat → Int32 → Int32 → Int32 → Int32 → G → Option (Int32 × G)
  | 0, _, _, _, _, _ => none
  | f + 1, v1, v2, v4, v5, g =>
        (k11_byteAt v4 g).bind fun u14 =>
        (k11_isDigit u14 g).bind fun u15 =>
        if u15 = 0 then
          sto g 50 402 v2 v5 fun g17 =>
          if (v4 - v1) ≤ 6 then
            k11_read_165 v1 v2 v4 31 v2 g17
          else
            k11_read_165 v1 v2 v4 32 v2 g17
        else
          if 7 ≤ (v4 - v1) then
            k11_read_128 (k11_read_87 f) v1 v2 v4 v5 g
          else
            (k11_byteAt v4 g).bind fun u20 =>
            k11_read_128 (k11_read_87 f) v1 v2 v4 (((10 * v5) + u20) - 48) g
def k11_read_235  (v1 : Int32) (v2 : Int32) (v4 : Int32) (t0 : Int32) (t1 : Int32) (g : G) : Option (Int32 × G) :=
      sto g 49 402 t1 t0 fun g21 =>
      bd (v4 + 1) fun x22 =>
      k11_read_239 v1 v2 x22 g21
def k11_read_201  (v1 : Int32) (v2 : Int32) (v4 : Int32) (g : G) : Option (Int32 × G) :=
      (k11_byteAt v4 g).bind fun u23 =>
      if u23 = 61 then
        ld g 49 402 v2 fun x25 =>
        if x25 = 44 then
          k11_read_235 v1 v2 v4 47 v2 g
        else
          k11_read_235 v1 v2 v4 48 v2 g
      else
        k11_read_239 v1 v2 v4 g
def k11_read  (a1 : Int32) (a2 : Int32) (g : G) : Option (Int32 × G) :=
  ld g 48 2000 a1 fun x27 =>
  bd (a1 + 1) fun x28 =>
  sto g 51 402 a2 a1 fun g29 =>
  (k11_isLetter x27 g29).bind fun u30 =>
  if u30 = 0 then
    (k11_isDigit x27 g29).bind fun u32 =>
    if u32 = 0 then
      (k11_symbol x27 g29).bind fun u34 =>
      sto g29 49 402 a2 u34 fun g35 =>
      ld g35 49 402 a2 fun x36 =>
      if x36 = 44 then
        k11_read_201 a1 a2 x28 g35
      else
        ld g35 49 402 a2 fun x38 =>
        if x38 = 45 then
          k11_read_201 a1 a2 x28 g35
        else
          k11_read_239 a1 a2 x28 g35
    else
      bd (x27 - 48) fun x40 =>
      k11_read_87 FU a1 a2 x28 x40 g29
  else
    k11_read_26 FU a1 a2 x28 g29
set_option maxRecDepth 100000 in
set_option maxHeartbeats 4000000 in
theorem m11_read (E : EV) (l : Launch) (a1 : Int32) (a2 : Int32) (g : G) : ∀ u, k11_read a1 a2 g = some u → MI E l yX11_read cX11_read 6 (some .int) 7 0 0 [.ref (E.ad 47), .int a1, .int a2] g u := by
  intro u h
  refine MG.of (by decide +kernel) (Nat.le_of_ble_eq_true rfl) ?_
  intro p e s m args below meth c C hr hnm ls hl hG
  have C : Cx p s m args meth c cX11_read 6 RX11 E := C
  have hx := C.1
  have hb := C.2.1
  have hl : lv_has ls 6 [(0, .ref (E.ad 47)), (1, .int a1), (2, .int a2)] := hl
  unfold k11_read at h
  have j239 : ∀ (v1 : Int32) (v2 : Int32) (v4 : Int32) (g : G) (H : Heap) (locs : List Loc) (ls : Array Slot), Gd E s H locs g [] → lv_has ls 6 [(0, .ref (E.ad 47)), (1, .int v1), (2, .int v2), (4, .int v4)] → k11_read_239 v1 v2 v4 g = some u → W p l e (rmD 7 0 0) s m args below meth c H locs 0 0 (MQ below (QI E s.heap.size u.1 u.2) args s 0 0 (AA E s.heap.size)) (F0 m 239 ls []) := by
    intro v1 v2 v4 g H locs ls hG hl h
    unfold k11_read_239 at h
    refine lv_aload_n hx hb dX11_read_239 rfl (lv_at hl 0 rfl) ?_
    refine r_getA (j := 52) C hG FX11_26 rfl rfl dX11_read_240 ?_
    refine lv_iload_n hx hb dX11_read_243 rfl (lv_at hl 2 rfl) ?_
    refine lv_iload hx hb dX11_read_244 (lv_at hl 3 rfl) ?_
    refine lv_iload_n hx hb dX11_read_246 rfl (lv_at hl 1 rfl) ?_
    refine lv_isub hx hb dX11_read_247 ?_
    refine r_ist C hG (N := 402) rfl (by decide) dX11_read_248 h (fun H locs g1 hG h => ?_)
    refine lv_iload hx hb dX11_read_249 (lv_at hl 3 rfl) ?_
    exact r_iret C hG hr rfl dX11_read_251 h
  have j26 : ∀ f : Nat, ∀ (v1 : Int32) (v2 : Int32) (v4 : Int32) (g : G) (H : Heap) (locs : List Loc) (ls : Array Slot), Gd E s H locs g [] → lv_has ls 6 [(0, .ref (E.ad 47)), (1, .int v1), (2, .int v2), (4, .int v4)] → k11_read_26 f v1 v2 v4 g = some u → W p l e (rmD 7 0 0) s m args below meth c H locs 0 0 (MQ below (QI E s.heap.size u.1 u.2) args s 0 0 (AA E s.heap.size)) (F0 m 26 ls []) := by
    intro f
    induction f with
    | zero =>
      intro v1 v2 v4 g H locs ls hG hl h
      unfold k11_read_26 at h
      cases h
    | succ f ih =>
      intro v1 v2 v4 g H locs ls hG hl h
      unfold k11_read_26 at h
      refine lv_aload_n hx hb dX11_read_26 rfl (lv_at hl 0 rfl) ?_
      refine lv_iload hx hb dX11_read_27 (lv_at hl 3 rfl) ?_
      refine r_callVIP C hl.1 hG [.int v4] [] (m11_byteAt E l v4 g) LX11_95 rfl KC11 rfl (rm_ok (by decide) (by decide)) (Nat.le_of_ble_eq_true rfl) ⟨Nat.le_refl _, Nat.le_refl _⟩ rfl dX11_read_29 h (fun u2 H locs hG h => ?_)
      refine r_callSIP C hl.1 hG [.int u2] [] (m11_isLetter E l u2 g) LX11_91 rfl (rm_ok (by decide) (by decide)) (Nat.le_of_ble_eq_true rfl) ⟨Nat.le_refl _, Nat.le_refl _⟩ rfl dX11_read_32 h (fun u3 H locs hG h => ?_)
      refine lv_if_ne (tgt := 50) hx hb dX11_read_35 (by decide) (fun c4 => ?_) (fun c4 => ?_)
      · have h := (if_inv h).2 c4
        refine r_iinc (w := 1) (lv' := fun x5 => [(4, .int x5), (0, .ref (E.ad 47)), (1, .int v1), (2, .int v2)]) C dX11_read_50 hl (k := 3) rfl (by decide) (by decide) (fun _ => rfl) h (fun x5 ls hl h => ?_)
        refine lv_goto (tgt := 26) hx hb dX11_read_53 (by decide) ?_
        exact ih v1 v2 x5 g _ _ _ hG (lv_sub hl [1, 2, 3, 0] rfl) h
      · have h := (if_inv h).1 c4
        refine lv_aload_n hx hb dX11_read_38 rfl (lv_at hl 0 rfl) ?_
        refine lv_iload hx hb dX11_read_39 (lv_at hl 3 rfl) ?_
        refine r_callVIP C hl.1 hG [.int v4] [] (m11_byteAt E l v4 g) LX11_95 rfl KC11 rfl (rm_ok (by decide) (by decide)) (Nat.le_of_ble_eq_true rfl) ⟨Nat.le_refl _, Nat.le_refl _⟩ rfl dX11_read_41 h (fun u6 H locs hG h => ?_)
        refine r_callSIP C hl.1 hG [.int u6] [] (m11_isDigit E l u6 g) LX11_99 rfl (rm_ok (by decide) (by decide)) (Nat.le_of_ble_eq_true rfl) ⟨Nat.le_refl _, Nat.le_refl _⟩ rfl dX11_read_44 h (fun u7 H locs hG h => ?_)
        refine lv_if_eq (tgt := 56) hx hb dX11_read_47 (by decide) (fun c8 => ?_) (fun c8 => ?_)
        · have h := (if_inv h).1 c8
          refine lv_aload_n hx hb dX11_read_56 rfl (lv_at hl 0 rfl) ?_
          refine r_getA (j := 49) C hG FX11_17 rfl rfl dX11_read_57 ?_
          refine lv_iload_n hx hb dX11_read_60 rfl (lv_at hl 2 rfl) ?_
          refine lv_aload_n hx hb dX11_read_61 rfl (lv_at hl 0 rfl) ?_
          refine lv_iload_n hx hb dX11_read_62 rfl (lv_at hl 1 rfl) ?_
          refine lv_iload hx hb dX11_read_63 (lv_at hl 3 rfl) ?_
          refine lv_iload_n hx hb dX11_read_65 rfl (lv_at hl 1 rfl) ?_
          refine lv_isub hx hb dX11_read_66 ?_
          refine r_callVIP C hl.1 hG [.int v1, .int (v4 - v1)] [.int v2, .ref (E.ad 49)] (m11_keyword E l v1 (v4 - v1) g) LX11_102 rfl KC11 rfl (rm_ok (by decide) (by decide)) (Nat.le_of_ble_eq_true rfl) ⟨Nat.le_refl _, Nat.le_refl _⟩ rfl dX11_read_67 h (fun u9 H locs hG h => ?_)
          refine r_ist C hG (N := 402) rfl (by decide) dX11_read_70 h (fun H locs g10 hG h => ?_)
          refine lv_goto (tgt := 239) hx hb dX11_read_71 (by decide) ?_
          exact j239 v1 v2 v4 g10 _ _ _ hG (lv_sub hl [0, 1, 2, 3] rfl) h
        · have h := (if_inv h).2 c8
          refine r_iinc (w := 1) (lv' := fun x11 => [(4, .int x11), (0, .ref (E.ad 47)), (1, .int v1), (2, .int v2)]) C dX11_read_50 hl (k := 3) rfl (by decide) (by decide) (fun _ => rfl) h (fun x11 ls hl h => ?_)
          refine lv_goto (tgt := 26) hx hb dX11_read_53 (by decide) ?_
          exact ih v1 v2 x11 g _ _ _ hG (lv_sub hl [1, 2, 3, 0] rfl) h
  have j128 : ∀ (K87 : Int32 → Int32 → Int32 → Int32 → G → Option (Int32 × G)), (∀ (v1 : Int32) (v2 : Int32) (v4 : Int32) (v5 : Int32) (g : G) (H : Heap) (locs : List Loc) (ls : Array Slot), Gd E s H locs g [] → lv_has ls 6 [(0, .ref (E.ad 47)), (1, .int v1), (2, .int v2), (4, .int v4), (5, .int v5)] → K87 v1 v2 v4 v5 g = some u → W p l e (rmD 7 0 0) s m args below meth c H locs 0 0 (MQ below (QI E s.heap.size u.1 u.2) args s 0 0 (AA E s.heap.size)) (F0 m 87 ls [])) → ∀ (v1 : Int32) (v2 : Int32) (v4 : Int32) (t0 : Int32) (g : G) (H : Heap) (locs : List Loc) (ls : Array Slot), Gd E s H locs g [] → lv_has ls 6 [(0, .ref (E.ad 47)), (1, .int v1), (2, .int v2), (4, .int v4)] → k11_read_128 K87 v1 v2 v4 t0 g = some u → W p l e (rmD 7 0 0) s m args below meth c H locs 0 0 (MQ below (QI E s.heap.size u.1 u.2) args s 0 0 (AA E s.heap.size)) (F0 m 128 ls [.int t0]) := by
    intro K87 hK87 v1 v2 v4 t0 g H locs ls hG hl h
    unfold k11_read_128 at h
    refine lv_istore (lv' := [(5, .int t0), (0, .ref (E.ad 47)), (1, .int v1), (2, .int v2), (4, .int v4)]) hx hb dX11_read_128 hl (by decide) rfl (fun ls hl => ?_)
    refine r_iinc (w := 1) (lv' := fun x12 => [(4, .int x12), (5, .int t0), (0, .ref (E.ad 47)), (1, .int v1), (2, .int v2)]) C dX11_read_130 hl (k := 4) rfl (by decide) (by decide) (fun _ => rfl) h (fun x12 ls hl h => ?_)
    refine lv_goto (tgt := 87) hx hb dX11_read_133 (by decide) ?_
    exact hK87 v1 v2 x12 t0 g _ _ _ hG (lv_sub hl [2, 3, 4, 0, 1] rfl) h
  have j165 : ∀ (v1 : Int32) (v2 : Int32) (v4 : Int32) (t0 : Int32) (t1 : Int32) (g : G) (H : Heap) (locs : List Loc) (ls : Array Slot), Gd E s H locs g [] → lv_has ls 6 [(0, .ref (E.ad 47)), (1, .int v1), (2, .int v2), (4, .int v4)] → k11_read_165 v1 v2 v4 t0 t1 g = some u → W p l e (rmD 7 0 0) s m args below meth c H locs 0 0 (MQ below (QI E s.heap.size u.1 u.2) args s 0 0 (AA E s.heap.size)) (F0 m 165 ls [.int t0, .int t1, .ref (E.ad 49)]) := by
    intro v1 v2 v4 t0 t1 g H locs ls hG hl h
    unfold k11_read_165 at h
    refine r_ist C hG (N := 402) rfl (by decide) dX11_read_165 h (fun H locs g13 hG h => ?_)
    refine lv_goto (tgt := 239) hx hb dX11_read_166 (by decide) ?_
    exact j239 v1 v2 v4 g13 _ _ _ hG (lv_sub hl [0, 1, 2, 3] rfl) h
  have j87 : ∀ f : Nat, ∀ (v1 : Int32) (v2 : Int32) (v4 : Int32) (v5 : Int32) (g : G) (H : Heap) (locs : List Loc) (ls : Array Slot), Gd E s H locs g [] → lv_has ls 6 [(0, .ref (E.ad 47)), (1, .int v1), (2, .int v2), (4, .int v4), (5, .int v5)] → k11_read_87 f v1 v2 v4 v5 g = some u → W p l e (rmD 7 0 0) s m args below meth c H locs 0 0 (MQ below (QI E s.heap.size u.1 u.2) args s 0 0 (AA E s.heap.size)) (F0 m 87 ls []) := by
    intro f
    induction f with
    | zero =>
      intro v1 v2 v4 v5 g H locs ls hG hl h
      unfold k11_read_87 at h
      cases h
    | succ f ih =>
      intro v1 v2 v4 v5 g H locs ls hG hl h
      unfold k11_read_87 at h
      refine lv_aload_n hx hb dX11_read_87 rfl (lv_at hl 0 rfl) ?_
      refine lv_iload hx hb dX11_read_88 (lv_at hl 3 rfl) ?_
      refine r_callVIP C hl.1 hG [.int v4] [] (m11_byteAt E l v4 g) LX11_95 rfl KC11 rfl (rm_ok (by decide) (by decide)) (Nat.le_of_ble_eq_true rfl) ⟨Nat.le_refl _, Nat.le_refl _⟩ rfl dX11_read_90 h (fun u14 H locs hG h => ?_)
      refine r_callSIP C hl.1 hG [.int u14] [] (m11_isDigit E l u14 g) LX11_99 rfl (rm_ok (by decide) (by decide)) (Nat.le_of_ble_eq_true rfl) ⟨Nat.le_refl _, Nat.le_refl _⟩ rfl dX11_read_93 h (fun u15 H locs hG h => ?_)
      refine lv_if_eq (tgt := 136) hx hb dX11_read_96 (by decide) (fun c16 => ?_) (fun c16 => ?_)
      · have h := (if_inv h).1 c16
        refine lv_aload_n hx hb dX11_read_136 rfl (lv_at hl 0 rfl) ?_
        refine r_getA (j := 50) C hG FX11_20 rfl rfl dX11_read_137 ?_
        refine lv_iload_n hx hb dX11_read_140 rfl (lv_at hl 2 rfl) ?_
        refine lv_iload hx hb dX11_read_141 (lv_at hl 4 rfl) ?_
        refine r_ist C hG (N := 402) rfl (by decide) dX11_read_143 h (fun H locs g17 hG h => ?_)
        refine lv_aload_n hx hb dX11_read_144 rfl (lv_at hl 0 rfl) ?_
        refine r_getA (j := 49) C hG FX11_17 rfl rfl dX11_read_145 ?_
        refine lv_iload_n hx hb dX11_read_148 rfl (lv_at hl 2 rfl) ?_
        refine lv_iload hx hb dX11_read_149 (lv_at hl 3 rfl) ?_
        refine lv_iload_n hx hb dX11_read_151 rfl (lv_at hl 1 rfl) ?_
        refine lv_isub hx hb dX11_read_152 ?_
        refine lv_bipush (v := 6) hx hb dX11_read_153 (by decide) ?_
        refine lv_icmp_le (tgt := 163) hx hb dX11_read_155 (by decide) (fun c18 => ?_) (fun c18 => ?_)
        · have h := (if_inv h).1 c18
          refine lv_bipush (v := 31) hx hb dX11_read_163 (by decide) ?_
          exact j165 v1 v2 v4 31 v2 g17 _ _ _ hG (lv_sub hl [0, 1, 2, 3] rfl) h
        · have h := (if_inv h).2 c18
          refine lv_bipush (v := 32) hx hb dX11_read_158 (by decide) ?_
          refine lv_goto (tgt := 165) hx hb dX11_read_160 (by decide) ?_
          exact j165 v1 v2 v4 32 v2 g17 _ _ _ hG (lv_sub hl [0, 1, 2, 3] rfl) h
      · have h := (if_inv h).2 c16
        refine lv_iload hx hb dX11_read_99 (lv_at hl 3 rfl) ?_
        refine lv_iload_n hx hb dX11_read_101 rfl (lv_at hl 1 rfl) ?_
        refine lv_isub hx hb dX11_read_102 ?_
        refine lv_bipush (v := 7) hx hb dX11_read_103 (by decide) ?_
        refine lv_icmp_ge (tgt := 126) hx hb dX11_read_105 (by decide) (fun c19 => ?_) (fun c19 => ?_)
        · have h := (if_inv h).1 c19
          refine lv_iload hx hb dX11_read_126 (lv_at hl 4 rfl) ?_
          exact j128 (k11_read_87 f) ih v1 v2 v4 v5 g _ _ _ hG (lv_sub hl [0, 1, 2, 3] rfl) h
        · have h := (if_inv h).2 c19
          refine lv_bipush (v := 10) hx hb dX11_read_108 (by decide) ?_
          refine lv_iload hx hb dX11_read_110 (lv_at hl 4 rfl) ?_
          refine lv_imul hx hb dX11_read_112 ?_
          refine lv_aload_n hx hb dX11_read_113 rfl (lv_at hl 0 rfl) ?_
          refine lv_iload hx hb dX11_read_114 (lv_at hl 3 rfl) ?_
          refine r_callVIP C hl.1 hG [.int v4] [.int (10 * v5)] (m11_byteAt E l v4 g) LX11_95 rfl KC11 rfl (rm_ok (by decide) (by decide)) (Nat.le_of_ble_eq_true rfl) ⟨Nat.le_refl _, Nat.le_refl _⟩ rfl dX11_read_116 h (fun u20 H locs hG h => ?_)
          refine lv_iadd hx hb dX11_read_119 ?_
          refine lv_bipush (v := 48) hx hb dX11_read_120 (by decide) ?_
          refine lv_isub hx hb dX11_read_122 ?_
          refine lv_goto (tgt := 128) hx hb dX11_read_123 (by decide) ?_
          exact j128 (k11_read_87 f) ih v1 v2 v4 (((10 * v5) + u20) - 48) g _ _ _ hG (lv_sub hl [0, 1, 2, 3] rfl) h
  have j235 : ∀ (v1 : Int32) (v2 : Int32) (v4 : Int32) (t0 : Int32) (t1 : Int32) (g : G) (H : Heap) (locs : List Loc) (ls : Array Slot), Gd E s H locs g [] → lv_has ls 6 [(0, .ref (E.ad 47)), (1, .int v1), (2, .int v2), (4, .int v4)] → k11_read_235 v1 v2 v4 t0 t1 g = some u → W p l e (rmD 7 0 0) s m args below meth c H locs 0 0 (MQ below (QI E s.heap.size u.1 u.2) args s 0 0 (AA E s.heap.size)) (F0 m 235 ls [.int t0, .int t1, .ref (E.ad 49)]) := by
    intro v1 v2 v4 t0 t1 g H locs ls hG hl h
    unfold k11_read_235 at h
    refine r_ist C hG (N := 402) rfl (by decide) dX11_read_235 h (fun H locs g21 hG h => ?_)
    refine r_iinc (w := 1) (lv' := fun x22 => [(4, .int x22), (0, .ref (E.ad 47)), (1, .int v1), (2, .int v2)]) C dX11_read_236 hl (k := 3) rfl (by decide) (by decide) (fun _ => rfl) h (fun x22 ls hl h => ?_)
    exact j239 v1 v2 x22 g21 _ _ _ hG (lv_sub hl [1, 2, 3, 0] rfl) h
  have j201 : ∀ (v1 : Int32) (v2 : Int32) (v4 : Int32) (g : G) (H : Heap) (locs : List Loc) (ls : Array Slot), Gd E s H locs g [] → lv_has ls 6 [(0, .ref (E.ad 47)), (1, .int v1), (2, .int v2), (4, .int v4)] → k11_read_201 v1 v2 v4 g = some u → W p l e (rmD 7 0 0) s m args below meth c H locs 0 0 (MQ below (QI E s.heap.size u.1 u.2) args s 0 0 (AA E s.heap.size)) (F0 m 201 ls []) := by
    intro v1 v2 v4 g H locs ls hG hl h
    unfold k11_read_201 at h
    refine lv_aload_n hx hb dX11_read_201 rfl (lv_at hl 0 rfl) ?_
    refine lv_iload hx hb dX11_read_202 (lv_at hl 3 rfl) ?_
    refine r_callVIP C hl.1 hG [.int v4] [] (m11_byteAt E l v4 g) LX11_95 rfl KC11 rfl (rm_ok (by decide) (by decide)) (Nat.le_of_ble_eq_true rfl) ⟨Nat.le_refl _, Nat.le_refl _⟩ rfl dX11_read_204 h (fun u23 H locs hG h => ?_)
    refine lv_bipush (v := 61) hx hb dX11_read_207 (by decide) ?_
    refine lv_icmp_ne (tgt := 239) hx hb dX11_read_209 (by decide) (fun c24 => ?_) (fun c24 => ?_)
    · have h := (if_inv h).2 c24
      exact j239 v1 v2 v4 g _ _ _ hG (lv_sub hl [0, 1, 2, 3] rfl) h
    · have h := (if_inv h).1 c24
      refine lv_aload_n hx hb dX11_read_212 rfl (lv_at hl 0 rfl) ?_
      refine r_getA (j := 49) C hG FX11_17 rfl rfl dX11_read_213 ?_
      refine lv_iload_n hx hb dX11_read_216 rfl (lv_at hl 2 rfl) ?_
      refine lv_aload_n hx hb dX11_read_217 rfl (lv_at hl 0 rfl) ?_
      refine r_getA (j := 49) C hG FX11_17 rfl rfl dX11_read_218 ?_
      refine lv_iload_n hx hb dX11_read_221 rfl (lv_at hl 2 rfl) ?_
      refine r_ild C hG (N := 402) rfl (by decide) dX11_read_222 h (fun x25 h => ?_)
      refine lv_bipush (v := 44) hx hb dX11_read_223 (by decide) ?_
      refine lv_icmp_ne (tgt := 233) hx hb dX11_read_225 (by decide) (fun c26 => ?_) (fun c26 => ?_)
      · have h := (if_inv h).2 c26
        refine lv_bipush (v := 48) hx hb dX11_read_233 (by decide) ?_
        exact j235 v1 v2 v4 48 v2 g _ _ _ hG (lv_sub hl [0, 1, 2, 3] rfl) h
      · have h := (if_inv h).1 c26
        refine lv_bipush (v := 47) hx hb dX11_read_228 (by decide) ?_
        refine lv_goto (tgt := 235) hx hb dX11_read_230 (by decide) ?_
        exact j235 v1 v2 v4 47 v2 g _ _ _ hG (lv_sub hl [0, 1, 2, 3] rfl) h
  refine lv_aload_n hx hb dX11_read_0 rfl (lv_at hl 0 rfl) ?_
  refine r_getA (j := 48) C hG FX11_9 rfl rfl dX11_read_1 ?_
  refine lv_iload_n hx hb dX11_read_4 rfl (lv_at hl 1 rfl) ?_
  refine r_ild C hG (N := 2000) rfl (by decide) dX11_read_5 h (fun x27 h => ?_)
  refine lv_istore_n (lv' := [(3, .int x27), (0, .ref (E.ad 47)), (1, .int a1), (2, .int a2)]) hx hb dX11_read_6 rfl hl (by decide) rfl (fun ls hl => ?_)
  refine lv_iload_n hx hb dX11_read_7 rfl (lv_at hl 2 rfl) ?_
  refine lv_iconst (v := 1) hx hb dX11_read_8 (by decide) ?_
  refine lv_iadd hx hb dX11_read_9 ?_
  refine r_nm h (fun x28 h => ?_)
  refine lv_istore (lv' := [(4, .int x28), (3, .int x27), (0, .ref (E.ad 47)), (1, .int a1), (2, .int a2)]) hx hb dX11_read_10 hl (by decide) rfl (fun ls hl => ?_)
  refine lv_aload_n hx hb dX11_read_12 rfl (lv_at hl 2 rfl) ?_
  refine r_getA (j := 51) C hG FX11_23 rfl rfl dX11_read_13 ?_
  refine lv_iload_n hx hb dX11_read_16 rfl (lv_at hl 4 rfl) ?_
  refine lv_iload_n hx hb dX11_read_17 rfl (lv_at hl 3 rfl) ?_
  refine r_ist C hG (N := 402) rfl (by decide) dX11_read_18 h (fun H locs g29 hG h => ?_)
  refine lv_iload_n hx hb dX11_read_19 rfl (lv_at hl 1 rfl) ?_
  refine r_callSIP C hl.1 hG [.int x27] [] (m11_isLetter E l x27 g29) LX11_91 rfl (rm_ok (by decide) (by decide)) (Nat.le_of_ble_eq_true rfl) ⟨Nat.le_refl _, Nat.le_refl _⟩ rfl dX11_read_20 h (fun u30 H locs hG h => ?_)
  refine lv_if_eq (tgt := 74) hx hb dX11_read_23 (by decide) (fun c31 => ?_) (fun c31 => ?_)
  · have h := (if_inv h).1 c31
    refine lv_iload_n hx hb dX11_read_74 rfl (lv_at hl 1 rfl) ?_
    refine r_callSIP C hl.1 hG [.int x27] [] (m11_isDigit E l x27 g29) LX11_99 rfl (rm_ok (by decide) (by decide)) (Nat.le_of_ble_eq_true rfl) ⟨Nat.le_refl _, Nat.le_refl _⟩ rfl dX11_read_75 h (fun u32 H locs hG h => ?_)
    refine lv_if_eq (tgt := 169) hx hb dX11_read_78 (by decide) (fun c33 => ?_) (fun c33 => ?_)
    · have h := (if_inv h).1 c33
      refine lv_aload_n hx hb dX11_read_169 rfl (lv_at hl 2 rfl) ?_
      refine r_getA (j := 49) C hG FX11_17 rfl rfl dX11_read_170 ?_
      refine lv_iload_n hx hb dX11_read_173 rfl (lv_at hl 4 rfl) ?_
      refine lv_iload_n hx hb dX11_read_174 rfl (lv_at hl 1 rfl) ?_
      refine r_callSIP C hl.1 hG [.int x27] [.int a2, .ref (E.ad 49)] (m11_symbol E l x27 g29) LX11_106 rfl (rm_ok (by decide) (by decide)) (Nat.le_of_ble_eq_true rfl) ⟨Nat.le_refl _, Nat.le_refl _⟩ rfl dX11_read_175 h (fun u34 H locs hG h => ?_)
      refine r_ist C hG (N := 402) rfl (by decide) dX11_read_178 h (fun H locs g35 hG h => ?_)
      refine lv_aload_n hx hb dX11_read_179 rfl (lv_at hl 2 rfl) ?_
      refine r_getA (j := 49) C hG FX11_17 rfl rfl dX11_read_180 ?_
      refine lv_iload_n hx hb dX11_read_183 rfl (lv_at hl 4 rfl) ?_
      refine r_ild C hG (N := 402) rfl (by decide) dX11_read_184 h (fun x36 h => ?_)
      refine lv_bipush (v := 44) hx hb dX11_read_185 (by decide) ?_
      refine lv_icmp_eq (tgt := 201) hx hb dX11_read_187 (by decide) (fun c37 => ?_) (fun c37 => ?_)
      · have h := (if_inv h).1 c37
        exact j201 a1 a2 x28 g35 _ _ _ hG (lv_sub hl [2, 3, 4, 0] rfl) h
      · have h := (if_inv h).2 c37
        refine lv_aload_n hx hb dX11_read_190 rfl (lv_at hl 2 rfl) ?_
        refine r_getA (j := 49) C hG FX11_17 rfl rfl dX11_read_191 ?_
        refine lv_iload_n hx hb dX11_read_194 rfl (lv_at hl 4 rfl) ?_
        refine r_ild C hG (N := 402) rfl (by decide) dX11_read_195 h (fun x38 h => ?_)
        refine lv_bipush (v := 45) hx hb dX11_read_196 (by decide) ?_
        refine lv_icmp_ne (tgt := 239) hx hb dX11_read_198 (by decide) (fun c39 => ?_) (fun c39 => ?_)
        · have h := (if_inv h).2 c39
          exact j239 a1 a2 x28 g35 _ _ _ hG (lv_sub hl [2, 3, 4, 0] rfl) h
        · have h := (if_inv h).1 c39
          exact j201 a1 a2 x28 g35 _ _ _ hG (lv_sub hl [2, 3, 4, 0] rfl) h
    · have h := (if_inv h).2 c33
      refine lv_iload_n hx hb dX11_read_81 rfl (lv_at hl 1 rfl) ?_
      refine lv_bipush (v := 48) hx hb dX11_read_82 (by decide) ?_
      refine lv_isub hx hb dX11_read_84 ?_
      refine r_nm h (fun x40 h => ?_)
      refine lv_istore (lv' := [(5, .int x40), (4, .int x28), (3, .int x27), (0, .ref (E.ad 47)), (1, .int a1), (2, .int a2)]) hx hb dX11_read_85 hl (by decide) rfl (fun ls hl => ?_)
      exact j87 FU a1 a2 x28 x40 g29 _ _ _ hG (lv_sub hl [3, 4, 5, 1, 0] rfl) h
  · have h := (if_inv h).2 c31
    exact j26 FU a1 a2 x28 g29 _ _ _ hG (lv_sub hl [2, 3, 4, 0] rfl) h
def k11_skip_2  (g : G) : Nat → Int32 → Option (Int32)
  | 0, _ => none
  | f + 1, v2 =>
        (k11_byteAt v2 g).bind fun u1 =>
        if u1 = 32 then
          bd (v2 + 1) fun x3 =>
          k11_skip_2 g f x3
        else
          (k11_byteAt v2 g).bind fun u4 =>
          if u4 = 10 then
            bd (v2 + 1) fun x6 =>
            k11_skip_2 g f x6
          else
            some v2
def k11_skip  (a1 : Int32) (g : G) : Option (Int32) :=
  k11_skip_2 g FU a1
set_option maxRecDepth 100000 in
set_option maxHeartbeats 4000000 in
theorem m11_skip (E : EV) (l : Launch) (a1 : Int32) (g : G) : ∀ u, k11_skip a1 g = some u → MI E l yX11_skip cX11_skip 3 (some .int) 1 0 0 [.ref (E.ad 47), .int a1] g (u, g) := by
  intro u h
  refine MG.of (by decide +kernel) (Nat.le_of_ble_eq_true rfl) ?_
  intro p e s m args below meth c C hr hnm ls hl hG
  have C : Cx p s m args meth c cX11_skip 3 RX11 E := C
  have hx := C.1
  have hb := C.2.1
  have hl : lv_has ls 3 [(0, .ref (E.ad 47)), (1, .int a1)] := hl
  unfold k11_skip at h
  have j2 : ∀ f : Nat, ∀ (v2 : Int32) (H : Heap) (locs : List Loc) (ls : Array Slot), Gd E s H locs g [] → lv_has ls 3 [(0, .ref (E.ad 47)), (2, .int v2)] → k11_skip_2 g f v2 = some u → W p l e (rmD 1 0 0) s m args below meth c H locs 0 0 (MQ below (QI E s.heap.size u g) args s 0 0 (AA E s.heap.size)) (F0 m 2 ls []) := by
    intro f
    induction f with
    | zero =>
      intro v2 H locs ls hG hl h
      unfold k11_skip_2 at h
      cases h
    | succ f ih =>
      intro v2 H locs ls hG hl h
      unfold k11_skip_2 at h
      refine lv_aload_n hx hb dX11_skip_2 rfl (lv_at hl 0 rfl) ?_
      refine lv_iload_n hx hb dX11_skip_3 rfl (lv_at hl 1 rfl) ?_
      refine r_callVIP C hl.1 hG [.int v2] [] (m11_byteAt E l v2 g) LX11_95 rfl KC11 rfl (rm_ok (by decide) (by decide)) (Nat.le_of_ble_eq_true rfl) ⟨Nat.le_refl _, Nat.le_refl _⟩ rfl dX11_skip_4 h (fun u1 H locs hG h => ?_)
      refine lv_bipush (v := 32) hx hb dX11_skip_7 (by decide) ?_
      refine lv_icmp_eq (tgt := 22) hx hb dX11_skip_9 (by decide) (fun c2 => ?_) (fun c2 => ?_)
      · have h := (if_inv h).1 c2
        refine r_iinc (w := 1) (lv' := fun x3 => [(2, .int x3), (0, .ref (E.ad 47))]) C dX11_skip_22 hl (k := 1) rfl (by decide) (by decide) (fun _ => rfl) h (fun x3 ls hl h => ?_)
        refine lv_goto (tgt := 2) hx hb dX11_skip_25 (by decide) ?_
        exact ih x3 _ _ _ hG (lv_sub hl [1, 0] rfl) h
      · have h := (if_inv h).2 c2
        refine lv_aload_n hx hb dX11_skip_12 rfl (lv_at hl 0 rfl) ?_
        refine lv_iload_n hx hb dX11_skip_13 rfl (lv_at hl 1 rfl) ?_
        refine r_callVIP C hl.1 hG [.int v2] [] (m11_byteAt E l v2 g) LX11_95 rfl KC11 rfl (rm_ok (by decide) (by decide)) (Nat.le_of_ble_eq_true rfl) ⟨Nat.le_refl _, Nat.le_refl _⟩ rfl dX11_skip_14 h (fun u4 H locs hG h => ?_)
        refine lv_bipush (v := 10) hx hb dX11_skip_17 (by decide) ?_
        refine lv_icmp_ne (tgt := 28) hx hb dX11_skip_19 (by decide) (fun c5 => ?_) (fun c5 => ?_)
        · have h := (if_inv h).2 c5
          refine lv_iload_n hx hb dX11_skip_28 rfl (lv_at hl 1 rfl) ?_
          exact r_iretP C hG hr rfl dX11_skip_29 h
        · have h := (if_inv h).1 c5
          refine r_iinc (w := 1) (lv' := fun x6 => [(2, .int x6), (0, .ref (E.ad 47))]) C dX11_skip_22 hl (k := 1) rfl (by decide) (by decide) (fun _ => rfl) h (fun x6 ls hl h => ?_)
          refine lv_goto (tgt := 2) hx hb dX11_skip_25 (by decide) ?_
          exact ih x6 _ _ _ hG (lv_sub hl [1, 0] rfl) h
  refine lv_iload_n hx hb dX11_skip_0 rfl (lv_at hl 1 rfl) ?_
  refine lv_istore_n (lv' := [(2, .int a1), (0, .ref (E.ad 47)), (1, .int a1)]) hx hb dX11_skip_1 rfl hl (by decide) rfl (fun ls hl => ?_)
  exact j2 FU a1 _ _ _ hG (lv_sub hl [1, 0] rfl) h
def k11_readAll_33  (K8 : Int32 → Int32 → G → Option (G)) (v1 : Int32) (v2 : Int32) (g : G) : Option (G) :=
      (k11_read v1 v2 g).bind fun u1 =>
      (k11_skip u1.1 u1.2).bind fun u2 =>
      if v2 = 400 then
        sto u1.2 49 402 v2 32 fun g5 =>
        bd (v2 + 1) fun x6 =>
        K8 u2 x6 g5
      else
        bd (v2 + 1) fun x4 =>
        K8 u2 x4 u1.2
def k11_readAll_65  (v2 : Int32) (g : G) : Option (G) :=
      sto g 49 402 v2 33 fun g7 =>
      sto g7 51 402 v2 (g7 47 2) fun g8 =>
      some g8
def k11_readAll_8  : Nat → Int32 → Int32 → G → Option (G)
  | 0, _, _, _ => none
  | f + 1, v1, v2, g =>
        if (g 47 2) ≤ v1 then
          k11_readAll_65 v2 g
        else
          if v2 = 0 then
            k11_readAll_33 (k11_readAll_8 f) v1 v2 g
          else
            ld g 49 402 (v2 - 1) fun x11 =>
            if x11 = 32 then
              k11_readAll_65 v2 g
            else
              k11_readAll_33 (k11_readAll_8 f) v1 v2 g
def k11_readAll  (g : G) : Option (G) :=
  (k11_skip 0 g).bind fun u13 =>
  k11_readAll_8 FU u13 0 g
set_option maxRecDepth 100000 in
set_option maxHeartbeats 4000000 in
theorem m11_readAll (E : EV) (l : Launch) (g : G) : ∀ u, k11_readAll g = some u → MV E l yX11_readAll cX11_readAll 3 none 8 0 0 [.ref (E.ad 47)] g u := by
  intro u h
  refine MG.of (by decide +kernel) (Nat.le_of_ble_eq_true rfl) ?_
  intro p e s m args below meth c C hr hnm ls hl hG
  have C : Cx p s m args meth c cX11_readAll 3 RX11 E := C
  have hx := C.1
  have hb := C.2.1
  have hl : lv_has ls 3 [(0, .ref (E.ad 47))] := hl
  unfold k11_readAll at h
  have j33 : ∀ (K8 : Int32 → Int32 → G → Option (G)), (∀ (v1 : Int32) (v2 : Int32) (g : G) (H : Heap) (locs : List Loc) (ls : Array Slot), Gd E s H locs g [] → lv_has ls 3 [(0, .ref (E.ad 47)), (1, .int v1), (2, .int v2)] → K8 v1 v2 g = some u → W p l e (rmD 8 0 0) s m args below meth c H locs 0 0 (MQ below (QV E s.heap.size u) args s 0 0 (AA E s.heap.size)) (F0 m 8 ls [])) → ∀ (v1 : Int32) (v2 : Int32) (g : G) (H : Heap) (locs : List Loc) (ls : Array Slot), Gd E s H locs g [] → lv_has ls 3 [(0, .ref (E.ad 47)), (1, .int v1), (2, .int v2)] → k11_readAll_33 K8 v1 v2 g = some u → W p l e (rmD 8 0 0) s m args below meth c H locs 0 0 (MQ below (QV E s.heap.size u) args s 0 0 (AA E s.heap.size)) (F0 m 33 ls []) := by
    intro K8 hK8 v1 v2 g H locs ls hG hl h
    unfold k11_readAll_33 at h
    refine lv_aload_n hx hb dX11_readAll_33 rfl (lv_at hl 0 rfl) ?_
    refine lv_aload_n hx hb dX11_readAll_34 rfl (lv_at hl 0 rfl) ?_
    refine lv_iload_n hx hb dX11_readAll_35 rfl (lv_at hl 1 rfl) ?_
    refine lv_iload_n hx hb dX11_readAll_36 rfl (lv_at hl 2 rfl) ?_
    refine r_callVI C hl.1 hG [.int v1, .int v2] [.ref (E.ad 47)] (m11_read E l v1 v2 g) LX11_112 rfl KC11 rfl (rm_ok (by decide) (by decide)) (Nat.le_of_ble_eq_true rfl) ⟨Nat.le_refl _, Nat.le_refl _⟩ rfl dX11_readAll_37 h (fun u1 H locs hG h => ?_)
    refine r_callVIP C hl.1 hG [.int u1.1] [] (m11_skip E l u1.1 u1.2) LX11_109 rfl KC11 rfl (rm_ok (by decide) (by decide)) (Nat.le_of_ble_eq_true rfl) ⟨Nat.le_refl _, Nat.le_refl _⟩ rfl dX11_readAll_40 h (fun u2 H locs hG h => ?_)
    refine lv_istore_n (lv' := [(1, .int u2), (0, .ref (E.ad 47)), (2, .int v2)]) hx hb dX11_readAll_43 rfl hl (by decide) rfl (fun ls hl => ?_)
    refine lv_iload_n hx hb dX11_readAll_44 rfl (lv_at hl 2 rfl) ?_
    refine lv_sipush (v := 400) hx hb dX11_readAll_45 (by decide) ?_
    refine lv_icmp_ne (tgt := 59) hx hb dX11_readAll_48 (by decide) (fun c3 => ?_) (fun c3 => ?_)
    · have h := (if_inv h).2 c3
      refine r_iinc (w := 1) (lv' := fun x4 => [(2, .int x4), (1, .int u2), (0, .ref (E.ad 47))]) C dX11_readAll_59 hl (k := 2) rfl (by decide) (by decide) (fun _ => rfl) h (fun x4 ls hl h => ?_)
      refine lv_goto (tgt := 8) hx hb dX11_readAll_62 (by decide) ?_
      exact hK8 u2 x4 u1.2 _ _ _ hG (lv_sub hl [2, 1, 0] rfl) h
    · have h := (if_inv h).1 c3
      refine lv_aload_n hx hb dX11_readAll_51 rfl (lv_at hl 1 rfl) ?_
      refine r_getA (j := 49) C hG FX11_17 rfl rfl dX11_readAll_52 ?_
      refine lv_iload_n hx hb dX11_readAll_55 rfl (lv_at hl 2 rfl) ?_
      refine lv_bipush (v := 32) hx hb dX11_readAll_56 (by decide) ?_
      refine r_ist C hG (N := 402) rfl (by decide) dX11_readAll_58 h (fun H locs g5 hG h => ?_)
      refine r_iinc (w := 1) (lv' := fun x6 => [(2, .int x6), (1, .int u2), (0, .ref (E.ad 47))]) C dX11_readAll_59 hl (k := 2) rfl (by decide) (by decide) (fun _ => rfl) h (fun x6 ls hl h => ?_)
      refine lv_goto (tgt := 8) hx hb dX11_readAll_62 (by decide) ?_
      exact hK8 u2 x6 g5 _ _ _ hG (lv_sub hl [2, 1, 0] rfl) h
  have j65 : ∀ (v2 : Int32) (g : G) (H : Heap) (locs : List Loc) (ls : Array Slot), Gd E s H locs g [] → lv_has ls 3 [(0, .ref (E.ad 47)), (2, .int v2)] → k11_readAll_65 v2 g = some u → W p l e (rmD 8 0 0) s m args below meth c H locs 0 0 (MQ below (QV E s.heap.size u) args s 0 0 (AA E s.heap.size)) (F0 m 65 ls []) := by
    intro v2 g H locs ls hG hl h
    unfold k11_readAll_65 at h
    refine lv_aload_n hx hb dX11_readAll_65 rfl (lv_at hl 0 rfl) ?_
    refine r_getA (j := 49) C hG FX11_17 rfl rfl dX11_readAll_66 ?_
    refine lv_iload_n hx hb dX11_readAll_69 rfl (lv_at hl 1 rfl) ?_
    refine lv_bipush (v := 33) hx hb dX11_readAll_70 (by decide) ?_
    refine r_ist C hG (N := 402) rfl (by decide) dX11_readAll_72 h (fun H locs g7 hG h => ?_)
    refine lv_aload_n hx hb dX11_readAll_73 rfl (lv_at hl 0 rfl) ?_
    refine r_getA (j := 51) C hG FX11_23 rfl rfl dX11_readAll_74 ?_
    refine lv_iload_n hx hb dX11_readAll_77 rfl (lv_at hl 1 rfl) ?_
    refine lv_aload_n hx hb dX11_readAll_78 rfl (lv_at hl 0 rfl) ?_
    refine r_getI C hG FX11_71 rfl rfl dX11_readAll_79 ?_
    refine r_ist C hG (N := 402) rfl (by decide) dX11_readAll_82 h (fun H locs g8 hG h => ?_)
    exact r_vret C hG hr dX11_readAll_83 h
  have j8 : ∀ f : Nat, ∀ (v1 : Int32) (v2 : Int32) (g : G) (H : Heap) (locs : List Loc) (ls : Array Slot), Gd E s H locs g [] → lv_has ls 3 [(0, .ref (E.ad 47)), (1, .int v1), (2, .int v2)] → k11_readAll_8 f v1 v2 g = some u → W p l e (rmD 8 0 0) s m args below meth c H locs 0 0 (MQ below (QV E s.heap.size u) args s 0 0 (AA E s.heap.size)) (F0 m 8 ls []) := by
    intro f
    induction f with
    | zero =>
      intro v1 v2 g H locs ls hG hl h
      unfold k11_readAll_8 at h
      cases h
    | succ f ih =>
      intro v1 v2 g H locs ls hG hl h
      unfold k11_readAll_8 at h
      refine lv_iload_n hx hb dX11_readAll_8 rfl (lv_at hl 1 rfl) ?_
      refine lv_aload_n hx hb dX11_readAll_9 rfl (lv_at hl 0 rfl) ?_
      refine r_getI C hG FX11_71 rfl rfl dX11_readAll_10 ?_
      refine lv_icmp_ge (tgt := 65) hx hb dX11_readAll_13 (by decide) (fun c9 => ?_) (fun c9 => ?_)
      · have h := (if_inv h).1 c9
        exact j65 v2 g _ _ _ hG (lv_sub hl [0, 2] rfl) h
      · have h := (if_inv h).2 c9
        refine lv_iload_n hx hb dX11_readAll_16 rfl (lv_at hl 2 rfl) ?_
        refine lv_if_eq (tgt := 33) hx hb dX11_readAll_17 (by decide) (fun c10 => ?_) (fun c10 => ?_)
        · have h := (if_inv h).1 c10
          exact j33 (k11_readAll_8 f) ih v1 v2 g _ _ _ hG (lv_sub hl [0, 1, 2] rfl) h
        · have h := (if_inv h).2 c10
          refine lv_aload_n hx hb dX11_readAll_20 rfl (lv_at hl 0 rfl) ?_
          refine r_getA (j := 49) C hG FX11_17 rfl rfl dX11_readAll_21 ?_
          refine lv_iload_n hx hb dX11_readAll_24 rfl (lv_at hl 2 rfl) ?_
          refine lv_iconst (v := 1) hx hb dX11_readAll_25 (by decide) ?_
          refine lv_isub hx hb dX11_readAll_26 ?_
          refine r_ild C hG (N := 402) rfl (by decide) dX11_readAll_27 h (fun x11 h => ?_)
          refine lv_bipush (v := 32) hx hb dX11_readAll_28 (by decide) ?_
          refine lv_icmp_eq (tgt := 65) hx hb dX11_readAll_30 (by decide) (fun c12 => ?_) (fun c12 => ?_)
          · have h := (if_inv h).1 c12
            exact j65 v2 g _ _ _ hG (lv_sub hl [0, 2] rfl) h
          · have h := (if_inv h).2 c12
            exact j33 (k11_readAll_8 f) ih v1 v2 g _ _ _ hG (lv_sub hl [0, 1, 2] rfl) h
  refine lv_aload_n hx hb dX11_readAll_0 rfl (lv_at hl 0 rfl) ?_
  refine lv_iconst (v := 0) hx hb dX11_readAll_1 (by decide) ?_
  refine r_callVIP C hl.1 hG [.int 0] [] (m11_skip E l 0 g) LX11_109 rfl KC11 rfl (rm_ok (by decide) (by decide)) (Nat.le_of_ble_eq_true rfl) ⟨Nat.le_refl _, Nat.le_refl _⟩ rfl dX11_readAll_2 h (fun u13 H locs hG h => ?_)
  refine lv_istore_n (lv' := [(1, .int u13), (0, .ref (E.ad 47))]) hx hb dX11_readAll_5 rfl hl (by decide) rfl (fun ls hl => ?_)
  refine lv_iconst (v := 0) hx hb dX11_readAll_6 (by decide) ?_
  refine lv_istore_n (lv' := [(2, .int 0), (1, .int u13), (0, .ref (E.ad 47))]) hx hb dX11_readAll_7 rfl hl (by decide) rfl (fun ls hl => ?_)
  exact j8 FU u13 0 g _ _ _ hG (lv_sub hl [2, 1, 0] rfl) h
def k11_is  (a1 : Int32) (g : G) : Option (Int32) :=
  if (g 47 9) = 0 then
    ld g 49 402 (g 47 8) fun x2 =>
    if x2 = a1 then
      some 1
    else
      some 0
  else
    some 0
set_option maxRecDepth 100000 in
set_option maxHeartbeats 4000000 in
theorem m11_is (E : EV) (l : Launch) (a1 : Int32) (g : G) : ∀ u, k11_is a1 g = some u → MI E l yX11_is cX11_is 2 (some .boolean) 0 0 0 [.ref (E.ad 47), .int a1] g (u, g) := by
  intro u h
  refine MG.of (by decide +kernel) (Nat.le_of_ble_eq_true rfl) ?_
  intro p e s m args below meth c C hr hnm ls hl hG
  have C : Cx p s m args meth c cX11_is 2 RX11 E := C
  have hx := C.1
  have hb := C.2.1
  have hl : lv_has ls 2 [(0, .ref (E.ad 47)), (1, .int a1)] := hl
  unfold k11_is at h
  refine lv_aload_n hx hb dX11_is_0 rfl (lv_at hl 0 rfl) ?_
  refine r_getI C hG FX11_115 rfl rfl dX11_is_1 ?_
  refine lv_if_ne (tgt := 24) hx hb dX11_is_4 (by decide) (fun c1 => ?_) (fun c1 => ?_)
  · have h := (if_inv h).2 c1
    refine lv_iconst (v := 0) hx hb dX11_is_24 (by decide) ?_
    exact r_iretP C hG hr rfl dX11_is_25 h
  · have h := (if_inv h).1 c1
    refine lv_aload_n hx hb dX11_is_7 rfl (lv_at hl 0 rfl) ?_
    refine r_getA (j := 49) C hG FX11_17 rfl rfl dX11_is_8 ?_
    refine lv_aload_n hx hb dX11_is_11 rfl (lv_at hl 0 rfl) ?_
    refine r_getI C hG FX11_119 rfl rfl dX11_is_12 ?_
    refine r_ild C hG (N := 402) rfl (by decide) dX11_is_15 h (fun x2 h => ?_)
    refine lv_iload_n hx hb dX11_is_16 rfl (lv_at hl 1 rfl) ?_
    refine lv_icmp_ne (tgt := 24) hx hb dX11_is_17 (by decide) (fun c3 => ?_) (fun c3 => ?_)
    · have h := (if_inv h).2 c3
      refine lv_iconst (v := 0) hx hb dX11_is_24 (by decide) ?_
      exact r_iretP C hG hr rfl dX11_is_25 h
    · have h := (if_inv h).1 c3
      refine lv_iconst (v := 1) hx hb dX11_is_20 (by decide) ?_
      refine lv_goto (tgt := 25) hx hb dX11_is_21 (by decide) ?_
      exact r_iretP C hG hr rfl dX11_is_25 h
def k11_wrong  (g : G) : Option (G) :=
  if (g 47 9) = 0 then
    bd (up g 47 9 1) fun g2 =>
    bd (up g2 47 10 1) fun g3 =>
    bd (up g3 47 11 (g3 47 8)) fun g4 =>
    some g4
  else
    some g
set_option maxRecDepth 100000 in
set_option maxHeartbeats 4000000 in
theorem m11_wrong (E : EV) (l : Launch) (g : G) : ∀ u, k11_wrong g = some u → MV E l yX11_wrong cX11_wrong 1 none 0 0 0 [.ref (E.ad 47)] g u := by
  intro u h
  refine MG.of (by decide +kernel) (Nat.le_of_ble_eq_true rfl) ?_
  intro p e s m args below meth c C hr hnm ls hl hG
  have C : Cx p s m args meth c cX11_wrong 1 RX11 E := C
  have hx := C.1
  have hb := C.2.1
  have hl : lv_has ls 1 [(0, .ref (E.ad 47))] := hl
  unfold k11_wrong at h
  refine lv_aload_n hx hb dX11_wrong_0 rfl (lv_at hl 0 rfl) ?_
  refine r_getI C hG FX11_115 rfl rfl dX11_wrong_1 ?_
  refine lv_if_eq (tgt := 8) hx hb dX11_wrong_4 (by decide) (fun c1 => ?_) (fun c1 => ?_)
  · have h := (if_inv h).1 c1
    refine lv_aload_n hx hb dX11_wrong_8 rfl (lv_at hl 0 rfl) ?_
    refine lv_iconst (v := 1) hx hb dX11_wrong_9 (by decide) ?_
    refine r_putZ C hG FX11_115 rfl rfl (by decide) dX11_wrong_10 h (fun H locs g2 hG h => ?_)
    refine lv_aload_n hx hb dX11_wrong_13 rfl (lv_at hl 0 rfl) ?_
    refine lv_iconst (v := 1) hx hb dX11_wrong_14 (by decide) ?_
    refine r_putI C hG FX11_122 rfl rfl dX11_wrong_15 h (fun H locs g3 hG h => ?_)
    refine lv_aload_n hx hb dX11_wrong_18 rfl (lv_at hl 0 rfl) ?_
    refine lv_aload_n hx hb dX11_wrong_19 rfl (lv_at hl 0 rfl) ?_
    refine r_getI C hG FX11_119 rfl rfl dX11_wrong_20 ?_
    refine r_putI C hG FX11_125 rfl rfl dX11_wrong_23 h (fun H locs g4 hG h => ?_)
    exact r_vret C hG hr dX11_wrong_26 h
  · have h := (if_inv h).2 c1
    exact r_vret C hG hr dX11_wrong_7 h
def k11_take  (a1 : Int32) (g : G) : Option (G) :=
  (k11_is a1 g).bind fun u1 =>
  if u1 = 0 then
    (k11_wrong g).bind fun g3 =>
    some g3
  else
    bd (up g 47 8 ((g 47 8) + 1)) fun g4 =>
    some g4
set_option maxRecDepth 100000 in
set_option maxHeartbeats 4000000 in
theorem m11_take (E : EV) (l : Launch) (a1 : Int32) (g : G) : ∀ u, k11_take a1 g = some u → MV E l yX11_take cX11_take 2 none 1 0 0 [.ref (E.ad 47), .int a1] g u := by
  intro u h
  refine MG.of (by decide +kernel) (Nat.le_of_ble_eq_true rfl) ?_
  intro p e s m args below meth c C hr hnm ls hl hG
  have C : Cx p s m args meth c cX11_take 2 RX11 E := C
  have hx := C.1
  have hb := C.2.1
  have hl : lv_has ls 2 [(0, .ref (E.ad 47)), (1, .int a1)] := hl
  unfold k11_take at h
  refine lv_aload_n hx hb dX11_take_0 rfl (lv_at hl 0 rfl) ?_
  refine lv_iload_n hx hb dX11_take_1 rfl (lv_at hl 1 rfl) ?_
  refine r_callVIP C hl.1 hG [.int a1] [] (m11_is E l a1 g) LX11_128 rfl KC11 rfl (rm_ok (by decide) (by decide)) (Nat.le_of_ble_eq_true rfl) ⟨Nat.le_refl _, Nat.le_refl _⟩ rfl dX11_take_2 h (fun u1 H locs hG h => ?_)
  refine lv_if_eq (tgt := 21) hx hb dX11_take_5 (by decide) (fun c2 => ?_) (fun c2 => ?_)
  · have h := (if_inv h).1 c2
    refine lv_aload_n hx hb dX11_take_21 rfl (lv_at hl 0 rfl) ?_
    refine r_callVV C hl.1 hG [] [] (m11_wrong E l g) LX11_131 rfl KC11 rfl (rm_ok (by decide) (by decide)) (Nat.le_of_ble_eq_true rfl) ⟨Nat.le_refl _, Nat.le_refl _⟩ rfl dX11_take_22 h (fun g3 H locs hG h => ?_)
    exact r_vret C hG hr dX11_take_25 h
  · have h := (if_inv h).2 c2
    refine lv_aload_n hx hb dX11_take_8 rfl (lv_at hl 0 rfl) ?_
    refine lv_dup hx hb dX11_take_9 rfl ?_
    refine r_getI C hG FX11_119 rfl rfl dX11_take_10 ?_
    refine lv_iconst (v := 1) hx hb dX11_take_13 (by decide) ?_
    refine lv_iadd hx hb dX11_take_14 ?_
    refine r_putI C hG FX11_119 rfl rfl dX11_take_15 h (fun H locs g4 hG h => ?_)
    refine lv_goto (tgt := 25) hx hb dX11_take_18 (by decide) ?_
    exact r_vret C hG hr dX11_take_25 h
def k11_takes  (a1 : Int32) (g : G) : Option (Int32 × G) :=
  (k11_is a1 g).bind fun u1 =>
  if u1 = 0 then
    some (0, g)
  else
    bd (up g 47 8 ((g 47 8) + 1)) fun g3 =>
    some (1, g3)
set_option maxRecDepth 100000 in
set_option maxHeartbeats 4000000 in
theorem m11_takes (E : EV) (l : Launch) (a1 : Int32) (g : G) : ∀ u, k11_takes a1 g = some u → MI E l yX11_takes cX11_takes 2 (some .boolean) 1 0 0 [.ref (E.ad 47), .int a1] g u := by
  intro u h
  refine MG.of (by decide +kernel) (Nat.le_of_ble_eq_true rfl) ?_
  intro p e s m args below meth c C hr hnm ls hl hG
  have C : Cx p s m args meth c cX11_takes 2 RX11 E := C
  have hx := C.1
  have hb := C.2.1
  have hl : lv_has ls 2 [(0, .ref (E.ad 47)), (1, .int a1)] := hl
  unfold k11_takes at h
  refine lv_aload_n hx hb dX11_takes_0 rfl (lv_at hl 0 rfl) ?_
  refine lv_iload_n hx hb dX11_takes_1 rfl (lv_at hl 1 rfl) ?_
  refine r_callVIP C hl.1 hG [.int a1] [] (m11_is E l a1 g) LX11_128 rfl KC11 rfl (rm_ok (by decide) (by decide)) (Nat.le_of_ble_eq_true rfl) ⟨Nat.le_refl _, Nat.le_refl _⟩ rfl dX11_takes_2 h (fun u1 H locs hG h => ?_)
  refine lv_if_ne (tgt := 10) hx hb dX11_takes_5 (by decide) (fun c2 => ?_) (fun c2 => ?_)
  · have h := (if_inv h).2 c2
    refine lv_aload_n hx hb dX11_takes_10 rfl (lv_at hl 0 rfl) ?_
    refine lv_dup hx hb dX11_takes_11 rfl ?_
    refine r_getI C hG FX11_119 rfl rfl dX11_takes_12 ?_
    refine lv_iconst (v := 1) hx hb dX11_takes_15 (by decide) ?_
    refine lv_iadd hx hb dX11_takes_16 ?_
    refine r_putI C hG FX11_119 rfl rfl dX11_takes_17 h (fun H locs g3 hG h => ?_)
    refine lv_iconst (v := 1) hx hb dX11_takes_20 (by decide) ?_
    exact r_iret C hG hr rfl dX11_takes_21 h
  · have h := (if_inv h).1 c2
    refine lv_iconst (v := 0) hx hb dX11_takes_8 (by decide) ?_
    exact r_iret C hG hr rfl dX11_takes_9 h
def k11_deeper_26  (g : G) : Option (G) :=
      bd (up g 47 12 ((g 47 12) + 1)) fun g1 =>
      some g1
def k11_deeper  (g : G) : Option (G) :=
  if (g 47 12) = 8 then
    (k11_wrong g).bind fun g4 =>
    k11_deeper_26 g4
  else
    bd (up g 47 8 ((g 47 8) + 1)) fun g3 =>
    k11_deeper_26 g3
set_option maxRecDepth 100000 in
set_option maxHeartbeats 4000000 in
theorem m11_deeper (E : EV) (l : Launch) (g : G) : ∀ u, k11_deeper g = some u → MV E l yX11_deeper cX11_deeper 1 none 1 0 0 [.ref (E.ad 47)] g u := by
  intro u h
  refine MG.of (by decide +kernel) (Nat.le_of_ble_eq_true rfl) ?_
  intro p e s m args below meth c C hr hnm ls hl hG
  have C : Cx p s m args meth c cX11_deeper 1 RX11 E := C
  have hx := C.1
  have hb := C.2.1
  have hl : lv_has ls 1 [(0, .ref (E.ad 47))] := hl
  unfold k11_deeper at h
  have j26 : ∀ (g : G) (H : Heap) (locs : List Loc) (ls : Array Slot), Gd E s H locs g [] → lv_has ls 1 [(0, .ref (E.ad 47))] → k11_deeper_26 g = some u → W p l e (rmD 1 0 0) s m args below meth c H locs 0 0 (MQ below (QV E s.heap.size u) args s 0 0 (AA E s.heap.size)) (F0 m 26 ls []) := by
    intro g H locs ls hG hl h
    unfold k11_deeper_26 at h
    refine lv_aload_n hx hb dX11_deeper_26 rfl (lv_at hl 0 rfl) ?_
    refine lv_dup hx hb dX11_deeper_27 rfl ?_
    refine r_getI C hG FX11_134 rfl rfl dX11_deeper_28 ?_
    refine lv_iconst (v := 1) hx hb dX11_deeper_31 (by decide) ?_
    refine lv_iadd hx hb dX11_deeper_32 ?_
    refine r_putI C hG FX11_134 rfl rfl dX11_deeper_33 h (fun H locs g1 hG h => ?_)
    exact r_vret C hG hr dX11_deeper_36 h
  refine lv_aload_n hx hb dX11_deeper_0 rfl (lv_at hl 0 rfl) ?_
  refine r_getI C hG FX11_134 rfl rfl dX11_deeper_1 ?_
  refine lv_bipush (v := 8) hx hb dX11_deeper_4 (by decide) ?_
  refine lv_icmp_ne (tgt := 16) hx hb dX11_deeper_6 (by decide) (fun c2 => ?_) (fun c2 => ?_)
  · have h := (if_inv h).2 c2
    refine lv_aload_n hx hb dX11_deeper_16 rfl (lv_at hl 0 rfl) ?_
    refine lv_dup hx hb dX11_deeper_17 rfl ?_
    refine r_getI C hG FX11_119 rfl rfl dX11_deeper_18 ?_
    refine lv_iconst (v := 1) hx hb dX11_deeper_21 (by decide) ?_
    refine lv_iadd hx hb dX11_deeper_22 ?_
    refine r_putI C hG FX11_119 rfl rfl dX11_deeper_23 h (fun H locs g3 hG h => ?_)
    exact j26 g3 _ _ _ hG (lv_sub hl [0] rfl) h
  · have h := (if_inv h).1 c2
    refine lv_aload_n hx hb dX11_deeper_9 rfl (lv_at hl 0 rfl) ?_
    refine r_callVV C hl.1 hG [] [] (m11_wrong E l g) LX11_131 rfl KC11 rfl (rm_ok (by decide) (by decide)) (Nat.le_of_ble_eq_true rfl) ⟨Nat.le_refl _, Nat.le_refl _⟩ rfl dX11_deeper_10 h (fun g4 H locs hG h => ?_)
    refine lv_goto (tgt := 26) hx hb dX11_deeper_13 (by decide) ?_
    exact j26 g4 _ _ _ hG (lv_sub hl [0] rfl) h
def k11_mark  (a1 : Int32) (g : G) : Option (G) :=
  if (g 47 9) = 0 then
    if (g 47 10) = 0 then
      bd (up g 47 10 a1) fun g3 =>
      bd (up g3 47 11 (g3 47 8)) fun g4 =>
      some g4
    else
      some g
  else
    some g
set_option maxRecDepth 100000 in
set_option maxHeartbeats 4000000 in
theorem m11_mark (E : EV) (l : Launch) (a1 : Int32) (g : G) : ∀ u, k11_mark a1 g = some u → MV E l yX11_mark cX11_mark 2 none 0 0 0 [.ref (E.ad 47), .int a1] g u := by
  intro u h
  refine MG.of (by decide +kernel) (Nat.le_of_ble_eq_true rfl) ?_
  intro p e s m args below meth c C hr hnm ls hl hG
  have C : Cx p s m args meth c cX11_mark 2 RX11 E := C
  have hx := C.1
  have hb := C.2.1
  have hl : lv_has ls 2 [(0, .ref (E.ad 47)), (1, .int a1)] := hl
  unfold k11_mark at h
  refine lv_aload_n hx hb dX11_mark_0 rfl (lv_at hl 0 rfl) ?_
  refine r_getI C hG FX11_115 rfl rfl dX11_mark_1 ?_
  refine lv_if_ne (tgt := 14) hx hb dX11_mark_4 (by decide) (fun c1 => ?_) (fun c1 => ?_)
  · have h := (if_inv h).2 c1
    exact r_vret C hG hr dX11_mark_14 h
  · have h := (if_inv h).1 c1
    refine lv_aload_n hx hb dX11_mark_7 rfl (lv_at hl 0 rfl) ?_
    refine r_getI C hG FX11_122 rfl rfl dX11_mark_8 ?_
    refine lv_if_eq (tgt := 15) hx hb dX11_mark_11 (by decide) (fun c2 => ?_) (fun c2 => ?_)
    · have h := (if_inv h).1 c2
      refine lv_aload_n hx hb dX11_mark_15 rfl (lv_at hl 0 rfl) ?_
      refine lv_iload_n hx hb dX11_mark_16 rfl (lv_at hl 1 rfl) ?_
      refine r_putI C hG FX11_122 rfl rfl dX11_mark_17 h (fun H locs g3 hG h => ?_)
      refine lv_aload_n hx hb dX11_mark_20 rfl (lv_at hl 0 rfl) ?_
      refine lv_aload_n hx hb dX11_mark_21 rfl (lv_at hl 0 rfl) ?_
      refine r_getI C hG FX11_119 rfl rfl dX11_mark_22 ?_
      refine r_putI C hG FX11_125 rfl rfl dX11_mark_25 h (fun H locs g4 hG h => ?_)
      exact r_vret C hG hr dX11_mark_28 h
    · have h := (if_inv h).2 c2
      exact r_vret C hG hr dX11_mark_14 h
def k11_node  (a1 : Int32) (a2 : Int32) (a3 : Int32) (g : G) : Option (Int32 × G) :=
  bd (g 66 12) fun x1 =>
  sto g 75 800 x1 a1 fun g2 =>
  sto g2 76 800 x1 a2 fun g3 =>
  sto g3 77 800 x1 a3 fun g4 =>
  bd (up g4 66 12 ((g4 66 12) + 1)) fun g5 =>
  some (x1, g5)
set_option maxRecDepth 100000 in
set_option maxHeartbeats 4000000 in
theorem m11_node (E : EV) (l : Launch) (a1 : Int32) (a2 : Int32) (a3 : Int32) (g : G) : ∀ u, k11_node a1 a2 a3 g = some u → MI E l yX11_node cX11_node 5 (some .int) 0 0 0 [.ref (E.ad 47), .int a1, .int a2, .int a3] g u := by
  intro u h
  refine MG.of (by decide +kernel) (Nat.le_of_ble_eq_true rfl) ?_
  intro p e s m args below meth c C hr hnm ls hl hG
  have C : Cx p s m args meth c cX11_node 5 RX11 E := C
  have hx := C.1
  have hb := C.2.1
  have hl : lv_has ls 5 [(0, .ref (E.ad 47)), (1, .int a1), (2, .int a2), (3, .int a3)] := hl
  unfold k11_node at h
  refine lv_aload_n hx hb dX11_node_0 rfl (lv_at hl 0 rfl) ?_
  refine r_getA (j := 66) C hG FX11_39 rfl rfl dX11_node_1 ?_
  refine r_getI C hG FX11_137 rfl rfl dX11_node_4 ?_
  refine r_nm h (fun x1 h => ?_)
  refine lv_istore (lv' := [(4, .int x1), (0, .ref (E.ad 47)), (1, .int a1), (2, .int a2), (3, .int a3)]) hx hb dX11_node_7 hl (by decide) rfl (fun ls hl => ?_)
  refine lv_aload_n hx hb dX11_node_9 rfl (lv_at hl 1 rfl) ?_
  refine r_getA (j := 66) C hG FX11_39 rfl rfl dX11_node_10 ?_
  refine r_getR (d := 9) C hG FX11_140 rfl rfl (by decide) dX11_node_13 ?_
  refine lv_iload hx hb dX11_node_16 (lv_at hl 0 rfl) ?_
  refine lv_iload_n hx hb dX11_node_18 rfl (lv_at hl 2 rfl) ?_
  refine r_ist C hG (N := 800) rfl (by decide) dX11_node_19 h (fun H locs g2 hG h => ?_)
  refine lv_aload_n hx hb dX11_node_20 rfl (lv_at hl 1 rfl) ?_
  refine r_getA (j := 66) C hG FX11_39 rfl rfl dX11_node_21 ?_
  refine r_getR (d := 10) C hG FX11_143 rfl rfl (by decide) dX11_node_24 ?_
  refine lv_iload hx hb dX11_node_27 (lv_at hl 0 rfl) ?_
  refine lv_iload_n hx hb dX11_node_29 rfl (lv_at hl 3 rfl) ?_
  refine r_ist C hG (N := 800) rfl (by decide) dX11_node_30 h (fun H locs g3 hG h => ?_)
  refine lv_aload_n hx hb dX11_node_31 rfl (lv_at hl 1 rfl) ?_
  refine r_getA (j := 66) C hG FX11_39 rfl rfl dX11_node_32 ?_
  refine r_getR (d := 11) C hG FX11_146 rfl rfl (by decide) dX11_node_35 ?_
  refine lv_iload hx hb dX11_node_38 (lv_at hl 0 rfl) ?_
  refine lv_iload_n hx hb dX11_node_40 rfl (lv_at hl 4 rfl) ?_
  refine r_ist C hG (N := 800) rfl (by decide) dX11_node_41 h (fun H locs g4 hG h => ?_)
  refine lv_aload_n hx hb dX11_node_42 rfl (lv_at hl 1 rfl) ?_
  refine r_getA (j := 66) C hG FX11_39 rfl rfl dX11_node_43 ?_
  refine lv_dup hx hb dX11_node_46 rfl ?_
  refine r_getI C hG FX11_137 rfl rfl dX11_node_47 ?_
  refine lv_iconst (v := 1) hx hb dX11_node_50 (by decide) ?_
  refine lv_iadd hx hb dX11_node_51 ?_
  refine r_putI C hG FX11_137 rfl rfl dX11_node_52 h (fun H locs g5 hG h => ?_)
  refine lv_iload hx hb dX11_node_55 (lv_at hl 0 rfl) ?_
  exact r_iret C hG hr rfl dX11_node_57 h
def k11_isSameName_19  (g : G) : Nat → Int32 → Int32 → Int32 → Option (Int32)
  | 0, _, _, _ => none
  | f + 1, v1, v2, v3 =>
        ld g 52 402 v1 fun x1 =>
        if x1 ≤ v3 then
          some 1
        else
          ld g 51 402 v1 fun x3 =>
          ld g 48 2000 (x3 + v3) fun x4 =>
          ld g 51 402 v2 fun x5 =>
          ld g 48 2000 (x5 + v3) fun x6 =>
          if x4 = x6 then
            bd (v3 + 1) fun x8 =>
            k11_isSameName_19 g f v1 v2 x8
          else
            some 0
def k11_isSameName  (a1 : Int32) (a2 : Int32) (g : G) : Option (Int32) :=
  ld g 52 402 a1 fun x9 =>
  ld g 52 402 a2 fun x10 =>
  if x9 = x10 then
    k11_isSameName_19 g FU a1 a2 0
  else
    some 0
set_option maxRecDepth 100000 in
set_option maxHeartbeats 4000000 in
theorem m11_isSameName (E : EV) (l : Launch) (a1 : Int32) (a2 : Int32) (g : G) : ∀ u, k11_isSameName a1 a2 g = some u → MI E l yX11_isSameName cX11_isSameName 4 (some .boolean) 0 0 0 [.ref (E.ad 47), .int a1, .int a2] g (u, g) := by
  intro u h
  refine MG.of (by decide +kernel) (Nat.le_of_ble_eq_true rfl) ?_
  intro p e s m args below meth c C hr hnm ls hl hG
  have C : Cx p s m args meth c cX11_isSameName 4 RX11 E := C
  have hx := C.1
  have hb := C.2.1
  have hl : lv_has ls 4 [(0, .ref (E.ad 47)), (1, .int a1), (2, .int a2)] := hl
  unfold k11_isSameName at h
  have j19 : ∀ f : Nat, ∀ (v1 : Int32) (v2 : Int32) (v3 : Int32) (H : Heap) (locs : List Loc) (ls : Array Slot), Gd E s H locs g [] → lv_has ls 4 [(0, .ref (E.ad 47)), (1, .int v1), (2, .int v2), (3, .int v3)] → k11_isSameName_19 g f v1 v2 v3 = some u → W p l e (rmD 0 0 0) s m args below meth c H locs 0 0 (MQ below (QI E s.heap.size u g) args s 0 0 (AA E s.heap.size)) (F0 m 19 ls []) := by
    intro f
    induction f with
    | zero =>
      intro v1 v2 v3 H locs ls hG hl h
      unfold k11_isSameName_19 at h
      cases h
    | succ f ih =>
      intro v1 v2 v3 H locs ls hG hl h
      unfold k11_isSameName_19 at h
      refine lv_iload_n hx hb dX11_isSameName_19 rfl (lv_at hl 3 rfl) ?_
      refine lv_aload_n hx hb dX11_isSameName_20 rfl (lv_at hl 0 rfl) ?_
      refine r_getA (j := 52) C hG FX11_26 rfl rfl dX11_isSameName_21 ?_
      refine lv_iload_n hx hb dX11_isSameName_24 rfl (lv_at hl 1 rfl) ?_
      refine r_ild C hG (N := 402) rfl (by decide) dX11_isSameName_25 h (fun x1 h => ?_)
      refine lv_icmp_ge (tgt := 66) hx hb dX11_isSameName_26 (by decide) (fun c2 => ?_) (fun c2 => ?_)
      · have h := (if_inv h).1 c2
        refine lv_iconst (v := 1) hx hb dX11_isSameName_66 (by decide) ?_
        exact r_iretP C hG hr rfl dX11_isSameName_67 h
      · have h := (if_inv h).2 c2
        refine lv_aload_n hx hb dX11_isSameName_29 rfl (lv_at hl 0 rfl) ?_
        refine r_getA (j := 48) C hG FX11_9 rfl rfl dX11_isSameName_30 ?_
        refine lv_aload_n hx hb dX11_isSameName_33 rfl (lv_at hl 0 rfl) ?_
        refine r_getA (j := 51) C hG FX11_23 rfl rfl dX11_isSameName_34 ?_
        refine lv_iload_n hx hb dX11_isSameName_37 rfl (lv_at hl 1 rfl) ?_
        refine r_ild C hG (N := 402) rfl (by decide) dX11_isSameName_38 h (fun x3 h => ?_)
        refine lv_iload_n hx hb dX11_isSameName_39 rfl (lv_at hl 3 rfl) ?_
        refine lv_iadd hx hb dX11_isSameName_40 ?_
        refine r_ild C hG (N := 2000) rfl (by decide) dX11_isSameName_41 h (fun x4 h => ?_)
        refine lv_aload_n hx hb dX11_isSameName_42 rfl (lv_at hl 0 rfl) ?_
        refine r_getA (j := 48) C hG FX11_9 rfl rfl dX11_isSameName_43 ?_
        refine lv_aload_n hx hb dX11_isSameName_46 rfl (lv_at hl 0 rfl) ?_
        refine r_getA (j := 51) C hG FX11_23 rfl rfl dX11_isSameName_47 ?_
        refine lv_iload_n hx hb dX11_isSameName_50 rfl (lv_at hl 2 rfl) ?_
        refine r_ild C hG (N := 402) rfl (by decide) dX11_isSameName_51 h (fun x5 h => ?_)
        refine lv_iload_n hx hb dX11_isSameName_52 rfl (lv_at hl 3 rfl) ?_
        refine lv_iadd hx hb dX11_isSameName_53 ?_
        refine r_ild C hG (N := 2000) rfl (by decide) dX11_isSameName_54 h (fun x6 h => ?_)
        refine lv_icmp_eq (tgt := 60) hx hb dX11_isSameName_55 (by decide) (fun c7 => ?_) (fun c7 => ?_)
        · have h := (if_inv h).1 c7
          refine r_iinc (w := 1) (lv' := fun x8 => [(3, .int x8), (0, .ref (E.ad 47)), (1, .int v1), (2, .int v2)]) C dX11_isSameName_60 hl (k := 3) rfl (by decide) (by decide) (fun _ => rfl) h (fun x8 ls hl h => ?_)
          refine lv_goto (tgt := 19) hx hb dX11_isSameName_63 (by decide) ?_
          exact ih v1 v2 x8 _ _ _ hG (lv_sub hl [1, 2, 3, 0] rfl) h
        · have h := (if_inv h).2 c7
          refine lv_iconst (v := 0) hx hb dX11_isSameName_58 (by decide) ?_
          exact r_iretP C hG hr rfl dX11_isSameName_59 h
  refine lv_aload_n hx hb dX11_isSameName_0 rfl (lv_at hl 0 rfl) ?_
  refine r_getA (j := 52) C hG FX11_26 rfl rfl dX11_isSameName_1 ?_
  refine lv_iload_n hx hb dX11_isSameName_4 rfl (lv_at hl 1 rfl) ?_
  refine r_ild C hG (N := 402) rfl (by decide) dX11_isSameName_5 h (fun x9 h => ?_)
  refine lv_aload_n hx hb dX11_isSameName_6 rfl (lv_at hl 0 rfl) ?_
  refine r_getA (j := 52) C hG FX11_26 rfl rfl dX11_isSameName_7 ?_
  refine lv_iload_n hx hb dX11_isSameName_10 rfl (lv_at hl 2 rfl) ?_
  refine r_ild C hG (N := 402) rfl (by decide) dX11_isSameName_11 h (fun x10 h => ?_)
  refine lv_icmp_eq (tgt := 17) hx hb dX11_isSameName_12 (by decide) (fun c11 => ?_) (fun c11 => ?_)
  · have h := (if_inv h).1 c11
    refine lv_iconst (v := 0) hx hb dX11_isSameName_17 (by decide) ?_
    refine lv_istore_n (lv' := [(3, .int 0), (0, .ref (E.ad 47)), (1, .int a1), (2, .int a2)]) hx hb dX11_isSameName_18 rfl hl (by decide) rfl (fun ls hl => ?_)
    exact j19 FU a1 a2 0 _ _ _ hG (lv_sub hl [1, 2, 3, 0] rfl) h
  · have h := (if_inv h).2 c11
    refine lv_iconst (v := 0) hx hb dX11_isSameName_15 (by decide) ?_
    exact r_iretP C hG hr rfl dX11_isSameName_16 h
def k11_known_2  (g : G) : Nat → Int32 → Option (Int32)
  | 0, _ => none
  | f + 1, v1 =>
        if (g 66 0) ≤ v1 then
          some (-1)
        else
          ld g 53 10 v1 fun x2 =>
          (k11_isSameName x2 (g 47 8) g).bind fun u3 =>
          if u3 = 0 then
            bd (v1 + 1) fun x5 =>
            k11_known_2 g f x5
          else
            some v1
def k11_known  (g : G) : Option (Int32) :=
  k11_known_2 g FU 0
set_option maxRecDepth 100000 in
set_option maxHeartbeats 4000000 in
theorem m11_known (E : EV) (l : Launch) (g : G) : ∀ u, k11_known g = some u → MI E l yX11_known cX11_known 2 (some .int) 1 0 0 [.ref (E.ad 47)] g (u, g) := by
  intro u h
  refine MG.of (by decide +kernel) (Nat.le_of_ble_eq_true rfl) ?_
  intro p e s m args below meth c C hr hnm ls hl hG
  have C : Cx p s m args meth c cX11_known 2 RX11 E := C
  have hx := C.1
  have hb := C.2.1
  have hl : lv_has ls 2 [(0, .ref (E.ad 47))] := hl
  unfold k11_known at h
  have j2 : ∀ f : Nat, ∀ (v1 : Int32) (H : Heap) (locs : List Loc) (ls : Array Slot), Gd E s H locs g [] → lv_has ls 2 [(0, .ref (E.ad 47)), (1, .int v1)] → k11_known_2 g f v1 = some u → W p l e (rmD 1 0 0) s m args below meth c H locs 0 0 (MQ below (QI E s.heap.size u g) args s 0 0 (AA E s.heap.size)) (F0 m 2 ls []) := by
    intro f
    induction f with
    | zero =>
      intro v1 H locs ls hG hl h
      unfold k11_known_2 at h
      cases h
    | succ f ih =>
      intro v1 H locs ls hG hl h
      unfold k11_known_2 at h
      refine lv_iload_n hx hb dX11_known_2 rfl (lv_at hl 1 rfl) ?_
      refine lv_aload_n hx hb dX11_known_3 rfl (lv_at hl 0 rfl) ?_
      refine r_getA (j := 66) C hG FX11_39 rfl rfl dX11_known_4 ?_
      refine r_getI C hG FX11_149 rfl rfl dX11_known_7 ?_
      refine lv_icmp_ge (tgt := 38) hx hb dX11_known_10 (by decide) (fun c1 => ?_) (fun c1 => ?_)
      · have h := (if_inv h).1 c1
        refine lv_iconst (v := (-1)) hx hb dX11_known_38 (by decide) ?_
        exact r_iretP C hG hr rfl dX11_known_39 h
      · have h := (if_inv h).2 c1
        refine lv_aload_n hx hb dX11_known_13 rfl (lv_at hl 0 rfl) ?_
        refine lv_aload_n hx hb dX11_known_14 rfl (lv_at hl 0 rfl) ?_
        refine r_getA (j := 53) C hG FX11_29 rfl rfl dX11_known_15 ?_
        refine lv_iload_n hx hb dX11_known_18 rfl (lv_at hl 1 rfl) ?_
        refine r_ild C hG (N := 10) rfl (by decide) dX11_known_19 h (fun x2 h => ?_)
        refine lv_aload_n hx hb dX11_known_20 rfl (lv_at hl 0 rfl) ?_
        refine r_getI C hG FX11_119 rfl rfl dX11_known_21 ?_
        refine r_callVIP C hl.1 hG [.int x2, .int (g 47 8)] [] (m11_isSameName E l x2 (g 47 8) g) LX11_152 rfl KC11 rfl (rm_ok (by decide) (by decide)) (Nat.le_of_ble_eq_true rfl) ⟨Nat.le_refl _, Nat.le_refl _⟩ rfl dX11_known_24 h (fun u3 H locs hG h => ?_)
        refine lv_if_eq (tgt := 32) hx hb dX11_known_27 (by decide) (fun c4 => ?_) (fun c4 => ?_)
        · have h := (if_inv h).1 c4
          refine r_iinc (w := 1) (lv' := fun x5 => [(1, .int x5), (0, .ref (E.ad 47))]) C dX11_known_32 hl (k := 1) rfl (by decide) (by decide) (fun _ => rfl) h (fun x5 ls hl h => ?_)
          refine lv_goto (tgt := 2) hx hb dX11_known_35 (by decide) ?_
          exact ih x5 _ _ _ hG (lv_sub hl [1, 0] rfl) h
        · have h := (if_inv h).2 c4
          refine lv_iload_n hx hb dX11_known_30 rfl (lv_at hl 1 rfl) ?_
          exact r_iretP C hG hr rfl dX11_known_31 h
  refine lv_iconst (v := 0) hx hb dX11_known_0 (by decide) ?_
  refine lv_istore_n (lv' := [(1, .int 0), (0, .ref (E.ad 47))]) hx hb dX11_known_1 rfl hl (by decide) rfl (fun ls hl => ?_)
  exact j2 FU 0 _ _ _ hG (lv_sub hl [1, 0] rfl) h
def k11_name_28  (v1 : Int32) (g : G) : Option (Int32 × G) :=
      (k11_take 30 g).bind fun g1 =>
      bd (if 0 < v1 then v1 else 0) fun x2 =>
      some (x2, g1)
def k11_name_17  (t0 : Int32) (g : G) : Option (Int32 × G) :=
      if t0 = (-1) then
        (k11_mark 3 g).bind fun g4 =>
        k11_name_28 t0 g4
      else
        k11_name_28 t0 g
def k11_name  (g : G) : Option (Int32 × G) :=
  (k11_is 30 g).bind fun u5 =>
  if u5 = 0 then
    k11_name_17 0 g
  else
    (k11_known g).bind fun u7 =>
    k11_name_17 u7 g
set_option maxRecDepth 100000 in
set_option maxHeartbeats 4000000 in
theorem m11_name (E : EV) (l : Launch) (g : G) : ∀ u, k11_name g = some u → MI E l yX11_name cX11_name 2 (some .int) 2 0 0 [.ref (E.ad 47)] g u := by
  intro u h
  refine MG.of (by decide +kernel) (Nat.le_of_ble_eq_true rfl) ?_
  intro p e s m args below meth c C hr hnm ls hl hG
  have C : Cx p s m args meth c cX11_name 2 RX11 E := C
  have hx := C.1
  have hb := C.2.1
  have hl : lv_has ls 2 [(0, .ref (E.ad 47))] := hl
  unfold k11_name at h
  have j28 : ∀ (v1 : Int32) (g : G) (H : Heap) (locs : List Loc) (ls : Array Slot), Gd E s H locs g [] → lv_has ls 2 [(0, .ref (E.ad 47)), (1, .int v1)] → k11_name_28 v1 g = some u → W p l e (rmD 2 0 0) s m args below meth c H locs 0 0 (MQ below (QI E s.heap.size u.1 u.2) args s 0 0 (AA E s.heap.size)) (F0 m 28 ls []) := by
    intro v1 g H locs ls hG hl h
    unfold k11_name_28 at h
    refine lv_aload_n hx hb dX11_name_28 rfl (lv_at hl 0 rfl) ?_
    refine lv_bipush (v := 30) hx hb dX11_name_29 (by decide) ?_
    refine r_callVV C hl.1 hG [.int 30] [] (m11_take E l 30 g) LX11_163 rfl KC11 rfl (rm_ok (by decide) (by decide)) (Nat.le_of_ble_eq_true rfl) ⟨Nat.le_refl _, Nat.le_refl _⟩ rfl dX11_name_31 h (fun g1 H locs hG h => ?_)
    refine lv_iconst (v := 0) hx hb dX11_name_34 (by decide) ?_
    refine lv_iload_n hx hb dX11_name_35 rfl (lv_at hl 1 rfl) ?_
    refine r_max C hl.1 LX11_166 ⟨(Nat.le_of_ble_eq_true rfl), (Nat.le_of_ble_eq_true rfl), Nat.zero_le _, Nat.zero_le _⟩ dX11_name_36 ?_
    refine r_nm h (fun x2 h => ?_)
    exact r_iret C hG hr rfl dX11_name_39 h
  have j17 : ∀ (t0 : Int32) (g : G) (H : Heap) (locs : List Loc) (ls : Array Slot), Gd E s H locs g [] → lv_has ls 2 [(0, .ref (E.ad 47))] → k11_name_17 t0 g = some u → W p l e (rmD 2 0 0) s m args below meth c H locs 0 0 (MQ below (QI E s.heap.size u.1 u.2) args s 0 0 (AA E s.heap.size)) (F0 m 17 ls [.int t0]) := by
    intro t0 g H locs ls hG hl h
    unfold k11_name_17 at h
    refine lv_istore_n (lv' := [(1, .int t0), (0, .ref (E.ad 47))]) hx hb dX11_name_17 rfl hl (by decide) rfl (fun ls hl => ?_)
    refine lv_iload_n hx hb dX11_name_18 rfl (lv_at hl 0 rfl) ?_
    refine lv_iconst (v := (-1)) hx hb dX11_name_19 (by decide) ?_
    refine lv_icmp_ne (tgt := 28) hx hb dX11_name_20 (by decide) (fun c3 => ?_) (fun c3 => ?_)
    · have h := (if_inv h).2 c3
      exact j28 t0 g _ _ _ hG (lv_sub hl [1, 0] rfl) h
    · have h := (if_inv h).1 c3
      refine lv_aload_n hx hb dX11_name_23 rfl (lv_at hl 1 rfl) ?_
      refine lv_iconst (v := 3) hx hb dX11_name_24 (by decide) ?_
      refine r_callVV C hl.1 hG [.int 3] [] (m11_mark E l 3 g) LX11_159 rfl KC11 rfl (rm_ok (by decide) (by decide)) (Nat.le_of_ble_eq_true rfl) ⟨Nat.le_refl _, Nat.le_refl _⟩ rfl dX11_name_25 h (fun g4 H locs hG h => ?_)
      exact j28 t0 g4 _ _ _ hG (lv_sub hl [1, 0] rfl) h
  refine lv_aload_n hx hb dX11_name_0 rfl (lv_at hl 0 rfl) ?_
  refine lv_bipush (v := 30) hx hb dX11_name_1 (by decide) ?_
  refine r_callVIP C hl.1 hG [.int 30] [] (m11_is E l 30 g) LX11_128 rfl KC11 rfl (rm_ok (by decide) (by decide)) (Nat.le_of_ble_eq_true rfl) ⟨Nat.le_refl _, Nat.le_refl _⟩ rfl dX11_name_3 h (fun u5 H locs hG h => ?_)
  refine lv_if_eq (tgt := 16) hx hb dX11_name_6 (by decide) (fun c6 => ?_) (fun c6 => ?_)
  · have h := (if_inv h).1 c6
    refine lv_iconst (v := 0) hx hb dX11_name_16 (by decide) ?_
    exact j17 0 g _ _ _ hG (lv_sub hl [0] rfl) h
  · have h := (if_inv h).2 c6
    refine lv_aload_n hx hb dX11_name_9 rfl (lv_at hl 0 rfl) ?_
    refine r_callVIP C hl.1 hG [] [] (m11_known E l g) LX11_156 rfl KC11 rfl (rm_ok (by decide) (by decide)) (Nat.le_of_ble_eq_true rfl) ⟨Nat.le_refl _, Nat.le_refl _⟩ rfl dX11_name_10 h (fun u7 H locs hG h => ?_)
    refine lv_goto (tgt := 17) hx hb dX11_name_13 (by decide) ?_
    exact j17 u7 g _ _ _ hG (lv_sub hl [0] rfl) h
def k11_isMeasure  (g : G) : Option (Int32) :=
  (k11_is 2 g).bind fun u1 =>
  if u1 = 0 then
    (k11_is 1 g).bind fun u3 =>
    if u3 = 0 then
      (k11_is 17 g).bind fun u5 =>
      if u5 = 0 then
        (k11_is 15 g).bind fun u7 =>
        if u7 = 0 then
          (k11_is 16 g).bind fun u9 =>
          if u9 = 0 then
            some 0
          else
            some 1
        else
          some 1
      else
        some 1
    else
      some 1
  else
    some 1
set_option maxRecDepth 100000 in
set_option maxHeartbeats 4000000 in
theorem m11_isMeasure (E : EV) (l : Launch) (g : G) : ∀ u, k11_isMeasure g = some u → MI E l yX11_isMeasure cX11_isMeasure 1 (some .boolean) 1 0 0 [.ref (E.ad 47)] g (u, g) := by
  intro u h
  refine MG.of (by decide +kernel) (Nat.le_of_ble_eq_true rfl) ?_
  intro p e s m args below meth c C hr hnm ls hl hG
  have C : Cx p s m args meth c cX11_isMeasure 1 RX11 E := C
  have hx := C.1
  have hb := C.2.1
  have hl : lv_has ls 1 [(0, .ref (E.ad 47))] := hl
  unfold k11_isMeasure at h
  refine lv_aload_n hx hb dX11_isMeasure_0 rfl (lv_at hl 0 rfl) ?_
  refine lv_iconst (v := 2) hx hb dX11_isMeasure_1 (by decide) ?_
  refine r_callVIP C hl.1 hG [.int 2] [] (m11_is E l 2 g) LX11_128 rfl KC11 rfl (rm_ok (by decide) (by decide)) (Nat.le_of_ble_eq_true rfl) ⟨Nat.le_refl _, Nat.le_refl _⟩ rfl dX11_isMeasure_2 h (fun u1 H locs hG h => ?_)
  refine lv_if_ne (tgt := 43) hx hb dX11_isMeasure_5 (by decide) (fun c2 => ?_) (fun c2 => ?_)
  · have h := (if_inv h).2 c2
    refine lv_iconst (v := 1) hx hb dX11_isMeasure_43 (by decide) ?_
    refine lv_goto (tgt := 48) hx hb dX11_isMeasure_44 (by decide) ?_
    exact r_iretP C hG hr rfl dX11_isMeasure_48 h
  · have h := (if_inv h).1 c2
    refine lv_aload_n hx hb dX11_isMeasure_8 rfl (lv_at hl 0 rfl) ?_
    refine lv_iconst (v := 1) hx hb dX11_isMeasure_9 (by decide) ?_
    refine r_callVIP C hl.1 hG [.int 1] [] (m11_is E l 1 g) LX11_128 rfl KC11 rfl (rm_ok (by decide) (by decide)) (Nat.le_of_ble_eq_true rfl) ⟨Nat.le_refl _, Nat.le_refl _⟩ rfl dX11_isMeasure_10 h (fun u3 H locs hG h => ?_)
    refine lv_if_ne (tgt := 43) hx hb dX11_isMeasure_13 (by decide) (fun c4 => ?_) (fun c4 => ?_)
    · have h := (if_inv h).2 c4
      refine lv_iconst (v := 1) hx hb dX11_isMeasure_43 (by decide) ?_
      refine lv_goto (tgt := 48) hx hb dX11_isMeasure_44 (by decide) ?_
      exact r_iretP C hG hr rfl dX11_isMeasure_48 h
    · have h := (if_inv h).1 c4
      refine lv_aload_n hx hb dX11_isMeasure_16 rfl (lv_at hl 0 rfl) ?_
      refine lv_bipush (v := 17) hx hb dX11_isMeasure_17 (by decide) ?_
      refine r_callVIP C hl.1 hG [.int 17] [] (m11_is E l 17 g) LX11_128 rfl KC11 rfl (rm_ok (by decide) (by decide)) (Nat.le_of_ble_eq_true rfl) ⟨Nat.le_refl _, Nat.le_refl _⟩ rfl dX11_isMeasure_19 h (fun u5 H locs hG h => ?_)
      refine lv_if_ne (tgt := 43) hx hb dX11_isMeasure_22 (by decide) (fun c6 => ?_) (fun c6 => ?_)
      · have h := (if_inv h).2 c6
        refine lv_iconst (v := 1) hx hb dX11_isMeasure_43 (by decide) ?_
        refine lv_goto (tgt := 48) hx hb dX11_isMeasure_44 (by decide) ?_
        exact r_iretP C hG hr rfl dX11_isMeasure_48 h
      · have h := (if_inv h).1 c6
        refine lv_aload_n hx hb dX11_isMeasure_25 rfl (lv_at hl 0 rfl) ?_
        refine lv_bipush (v := 15) hx hb dX11_isMeasure_26 (by decide) ?_
        refine r_callVIP C hl.1 hG [.int 15] [] (m11_is E l 15 g) LX11_128 rfl KC11 rfl (rm_ok (by decide) (by decide)) (Nat.le_of_ble_eq_true rfl) ⟨Nat.le_refl _, Nat.le_refl _⟩ rfl dX11_isMeasure_28 h (fun u7 H locs hG h => ?_)
        refine lv_if_ne (tgt := 43) hx hb dX11_isMeasure_31 (by decide) (fun c8 => ?_) (fun c8 => ?_)
        · have h := (if_inv h).2 c8
          refine lv_iconst (v := 1) hx hb dX11_isMeasure_43 (by decide) ?_
          refine lv_goto (tgt := 48) hx hb dX11_isMeasure_44 (by decide) ?_
          exact r_iretP C hG hr rfl dX11_isMeasure_48 h
        · have h := (if_inv h).1 c8
          refine lv_aload_n hx hb dX11_isMeasure_34 rfl (lv_at hl 0 rfl) ?_
          refine lv_bipush (v := 16) hx hb dX11_isMeasure_35 (by decide) ?_
          refine r_callVIP C hl.1 hG [.int 16] [] (m11_is E l 16 g) LX11_128 rfl KC11 rfl (rm_ok (by decide) (by decide)) (Nat.le_of_ble_eq_true rfl) ⟨Nat.le_refl _, Nat.le_refl _⟩ rfl dX11_isMeasure_37 h (fun u9 H locs hG h => ?_)
          refine lv_if_eq (tgt := 47) hx hb dX11_isMeasure_40 (by decide) (fun c10 => ?_) (fun c10 => ?_)
          · have h := (if_inv h).1 c10
            refine lv_iconst (v := 0) hx hb dX11_isMeasure_47 (by decide) ?_
            exact r_iretP C hG hr rfl dX11_isMeasure_48 h
          · have h := (if_inv h).2 c10
            refine lv_iconst (v := 1) hx hb dX11_isMeasure_43 (by decide) ?_
            refine lv_goto (tgt := 48) hx hb dX11_isMeasure_44 (by decide) ?_
            exact r_iretP C hG hr rfl dX11_isMeasure_48 h
def k11_measure  (g : G) : Option (Int32 × G) :=
  ld g 49 402 (g 47 8) fun x1 =>
  bd (up g 47 8 ((g 47 8) + 1)) fun g2 =>
  (k11_take 18 g2).bind fun g3 =>
  (k11_name g3).bind fun u4 =>
  (k11_node x1 u4.1 0 u4.2).bind fun u5 =>
  some (u5.1, u5.2)
set_option maxRecDepth 100000 in
set_option maxHeartbeats 4000000 in
theorem m11_measure (E : EV) (l : Launch) (g : G) : ∀ u, k11_measure g = some u → MI E l yX11_measure cX11_measure 2 (some .int) 3 0 0 [.ref (E.ad 47)] g u := by
  intro u h
  refine MG.of (by decide +kernel) (Nat.le_of_ble_eq_true rfl) ?_
  intro p e s m args below meth c C hr hnm ls hl hG
  have C : Cx p s m args meth c cX11_measure 2 RX11 E := C
  have hx := C.1
  have hb := C.2.1
  have hl : lv_has ls 2 [(0, .ref (E.ad 47))] := hl
  unfold k11_measure at h
  refine lv_aload_n hx hb dX11_measure_0 rfl (lv_at hl 0 rfl) ?_
  refine r_getA (j := 49) C hG FX11_17 rfl rfl dX11_measure_1 ?_
  refine lv_aload_n hx hb dX11_measure_4 rfl (lv_at hl 0 rfl) ?_
  refine r_getI C hG FX11_119 rfl rfl dX11_measure_5 ?_
  refine r_ild C hG (N := 402) rfl (by decide) dX11_measure_8 h (fun x1 h => ?_)
  refine lv_istore_n (lv' := [(1, .int x1), (0, .ref (E.ad 47))]) hx hb dX11_measure_9 rfl hl (by decide) rfl (fun ls hl => ?_)
  refine lv_aload_n hx hb dX11_measure_10 rfl (lv_at hl 1 rfl) ?_
  refine lv_dup hx hb dX11_measure_11 rfl ?_
  refine r_getI C hG FX11_119 rfl rfl dX11_measure_12 ?_
  refine lv_iconst (v := 1) hx hb dX11_measure_15 (by decide) ?_
  refine lv_iadd hx hb dX11_measure_16 ?_
  refine r_putI C hG FX11_119 rfl rfl dX11_measure_17 h (fun H locs g2 hG h => ?_)
  refine lv_aload_n hx hb dX11_measure_20 rfl (lv_at hl 1 rfl) ?_
  refine lv_bipush (v := 18) hx hb dX11_measure_21 (by decide) ?_
  refine r_callVV C hl.1 hG [.int 18] [] (m11_take E l 18 g2) LX11_163 rfl KC11 rfl (rm_ok (by decide) (by decide)) (Nat.le_of_ble_eq_true rfl) ⟨Nat.le_refl _, Nat.le_refl _⟩ rfl dX11_measure_23 h (fun g3 H locs hG h => ?_)
  refine lv_aload_n hx hb dX11_measure_26 rfl (lv_at hl 1 rfl) ?_
  refine lv_iload_n hx hb dX11_measure_27 rfl (lv_at hl 0 rfl) ?_
  refine lv_aload_n hx hb dX11_measure_28 rfl (lv_at hl 1 rfl) ?_
  refine r_callVI C hl.1 hG [] [.int x1, .ref (E.ad 47)] (m11_name E l g3) LX11_181 rfl KC11 rfl (rm_ok (by decide) (by decide)) (Nat.le_of_ble_eq_true rfl) ⟨Nat.le_refl _, Nat.le_refl _⟩ rfl dX11_measure_29 h (fun u4 H locs hG h => ?_)
  refine lv_iconst (v := 0) hx hb dX11_measure_32 (by decide) ?_
  refine r_callVI C hl.1 hG [.int x1, .int u4.1, .int 0] [] (m11_node E l x1 u4.1 0 u4.2) LX11_177 rfl KC11 rfl (rm_ok (by decide) (by decide)) (Nat.le_of_ble_eq_true rfl) ⟨Nat.le_refl _, Nat.le_refl _⟩ rfl dX11_measure_33 h (fun u5 H locs hG h => ?_)
  exact r_iret C hG hr rfl dX11_measure_36 h
