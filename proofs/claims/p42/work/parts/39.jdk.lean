def kJ0_coder_7d493  (a0 : Nat) (g : G) : Option (Int32) :=
  ckS a0 <|
  some 0
set_option maxRecDepth 100000 in
set_option maxHeartbeats 4000000 in
theorem mJ0_coder_7d493 (E : EV) (l : Launch) (a0 : Nat) (g : G) : ∀ u, kJ0_coder_7d493 a0 g = some u → MI E l yJ0_coder_7d493 cJ0_coder_7d493 1 (some .byte) 0 0 0 [.ref (E.aK a0)] g (u, g) := by
  intro u h
  refine MG.of (by decide +kernel) (Nat.le_of_ble_eq_true rfl) ?_
  intro p e s m args below meth c C hr hnm ls hl hG
  have C : Cx p s m args meth c cJ0_coder_7d493 1 RJ0 E := C
  have hx := C.1
  have hb := C.2.1
  have hl : lv_has ls 1 [(0, .ref (E.aK a0))] := hl
  unfold kJ0_coder_7d493 at h
  refine r_gCS C hG FJ0_38 dJ0_coder_7d493_0 ?_
  refine lv_if_eq (tgt := 13) hx hb dJ0_coder_7d493_3 (by decide) (fun c => absurd c (by decide)) (fun _ => ?_)
  refine lv_aload_n hx hb dJ0_coder_7d493_6 rfl (lv_at hl 0 rfl) ?_
  refine r_scod C hG FJ0_15 dJ0_coder_7d493_7 h (fun h => ?_)
  refine lv_goto (tgt := 14) hx hb dJ0_coder_7d493_10 (by decide) ?_
  exact r_iretP C hG hr rfl dJ0_coder_7d493_14 h
def kJ0_isLatin1_aae02  (a0 : Nat) (g : G) : Option (Int32) :=
  ckS a0 <|
  some 1
set_option maxRecDepth 100000 in
set_option maxHeartbeats 4000000 in
theorem mJ0_isLatin1_aae02 (E : EV) (l : Launch) (a0 : Nat) (g : G) : ∀ u, kJ0_isLatin1_aae02 a0 g = some u → MI E l yJ0_isLatin1_aae02 cJ0_isLatin1_aae02 1 (some .boolean) 0 0 0 [.ref (E.aK a0)] g (u, g) := by
  intro u h
  refine MG.of (by decide +kernel) (Nat.le_of_ble_eq_true rfl) ?_
  intro p e s m args below meth c C hr hnm ls hl hG
  have C : Cx p s m args meth c cJ0_isLatin1_aae02 1 RJ0 E := C
  have hx := C.1
  have hb := C.2.1
  have hl : lv_has ls 1 [(0, .ref (E.aK a0))] := hl
  unfold kJ0_isLatin1_aae02 at h
  refine r_gCS C hG FJ0_38 dJ0_isLatin1_aae02_0 ?_
  refine lv_if_eq (tgt := 17) hx hb dJ0_isLatin1_aae02_3 (by decide) (fun c => absurd c (by decide)) (fun _ => ?_)
  refine lv_aload_n hx hb dJ0_isLatin1_aae02_6 rfl (lv_at hl 0 rfl) ?_
  refine r_scod C hG FJ0_15 dJ0_isLatin1_aae02_7 h (fun h => ?_)
  refine lv_if_ne (tgt := 17) hx hb dJ0_isLatin1_aae02_10 (by decide) (fun c => absurd c (by decide)) (fun _ => ?_)
  refine lv_iconst (v := 1) hx hb dJ0_isLatin1_aae02_13 (by decide) ?_
  refine lv_goto (tgt := 18) hx hb dJ0_isLatin1_aae02_14 (by decide) ?_
  exact r_iretP C hG hr rfl dJ0_isLatin1_aae02_18 h
def kJ0_length_8abf5  (a0 : Nat) (g : G) : Option (Int32) :=
  ckS a0 <|
  ckS a0 <|
  ckS a0 <| (kJ0_coder_7d493 a0 g).bind fun u1 =>
  some ((nI (sL a0)) >>> (u1 &&& 31))
set_option maxRecDepth 100000 in
set_option maxHeartbeats 4000000 in
theorem mJ0_length_8abf5 (E : EV) (l : Launch) (a0 : Nat) (g : G) : ∀ u, kJ0_length_8abf5 a0 g = some u → MI E l yJ0_length_8abf5 cJ0_length_8abf5 1 (some .int) 1 0 0 [.ref (E.aK a0)] g (u, g) := by
  intro u h
  refine MG.of (by decide +kernel) (Nat.le_of_ble_eq_true rfl) ?_
  intro p e s m args below meth c C hr hnm ls hl hG
  have C : Cx p s m args meth c cJ0_length_8abf5 1 RJ0 E := C
  have hx := C.1
  have hb := C.2.1
  have hl : lv_has ls 1 [(0, .ref (E.aK a0))] := hl
  unfold kJ0_length_8abf5 at h
  refine lv_aload_n hx hb dJ0_length_8abf5_0 rfl (lv_at hl 0 rfl) ?_
  refine r_sval C hG FJ0_9 dJ0_length_8abf5_1 h (fun h => ?_)
  refine r_slen C hG dJ0_length_8abf5_4 h (fun h => ?_)
  refine lv_aload_n hx hb dJ0_length_8abf5_5 rfl (lv_at hl 0 rfl) ?_
  refine r_callVIS C hl.1 hG [] [.int (nI (sL a0))] (mJ0_coder_7d493 E l a0 g) LJ0_335 rfl rfl (rm_ok (by decide) (by decide)) (Nat.le_of_ble_eq_true rfl) ⟨Nat.le_refl _, Nat.le_refl _⟩ rfl dJ0_length_8abf5_6 h (fun u1 H locs hG h => ?_)
  refine lv_ishr hx hb dJ0_length_8abf5_9 ?_
  exact r_iretP C hG hr rfl dJ0_length_8abf5_10 h
def kJ1_charAt_3b067  (a0 : Nat) (a1 : Int32) (g : G) : Option (Int32) :=
  ckS a0 <|
  (kJ0_checkIndex_df160 a1 (nI (sL a0)) g).bind fun u1 =>
  sld a0 a1 fun x2 =>
  zcP (((x2 &&& 255).toUInt32 % 65536).toInt32)
set_option maxRecDepth 100000 in
set_option maxHeartbeats 4000000 in
theorem mJ1_charAt_3b067 (E : EV) (l : Launch) (a0 : Nat) (a1 : Int32) (g : G) : ∀ u, kJ1_charAt_3b067 a0 a1 g = some u → MI E l yJ1_charAt_3b067 cJ1_charAt_3b067 2 (some .char) 2 0 0 [.ref (E.aV a0), .int a1] g (u, g) := by
  intro u h
  refine MG.of (by decide +kernel) (Nat.le_of_ble_eq_true rfl) ?_
  intro p e s m args below meth c C hr hnm ls hl hG
  have C : Cx p s m args meth c cJ1_charAt_3b067 2 RJ1 E := C
  have hx := C.1
  have hb := C.2.1
  have hl : lv_has ls 2 [(0, .ref (E.aV a0)), (1, .int a1)] := hl
  unfold kJ1_charAt_3b067 at h
  refine lv_iload_n hx hb dJ1_charAt_3b067_0 rfl (lv_at hl 1 rfl) ?_
  refine lv_aload_n hx hb dJ1_charAt_3b067_1 rfl (lv_at hl 0 rfl) ?_
  refine r_slen C hG dJ1_charAt_3b067_2 h (fun h => ?_)
  refine r_callSVP C hl.1 hG [.int a1, .int (nI (sL a0))] [] (mJ0_checkIndex_df160 E l a1 (nI (sL a0)) g) LJ1_9 rfl (rm_ok (by decide) (by decide)) (Nat.le_of_ble_eq_true rfl) ⟨Nat.le_refl _, Nat.le_refl _⟩ rfl dJ1_charAt_3b067_3 h (fun u1 H locs hG h => ?_)
  refine lv_aload_n hx hb dJ1_charAt_3b067_6 rfl (lv_at hl 0 rfl) ?_
  refine lv_iload_n hx hb dJ1_charAt_3b067_7 rfl (lv_at hl 1 rfl) ?_
  refine r_sbld C hG dJ1_charAt_3b067_8 h (fun x2 h => ?_)
  refine lv_sipush (v := 255) hx hb dJ1_charAt_3b067_9 (by decide) ?_
  refine lv_iand hx hb dJ1_charAt_3b067_12 ?_
  refine lv_i2c hx hb dJ1_charAt_3b067_13 rfl ?_
  exact r_cretP C hG hr dJ1_charAt_3b067_14 h
def kJ0_charAt_5068e  (a0 : Nat) (a1 : Int32) (g : G) : Option (Int32) :=
  ckS a0 <| (kJ0_isLatin1_aae02 a0 g).bind fun u1 =>
  if u1 = 0 then
    ckS a0 <|
    none
  else
    ckS a0 <|
    (kJ1_charAt_3b067 a0 a1 g).bind fun u3 =>
    zcP u3
set_option maxRecDepth 100000 in
set_option maxHeartbeats 4000000 in
theorem mJ0_charAt_5068e (E : EV) (l : Launch) (a0 : Nat) (a1 : Int32) (g : G) : ∀ u, kJ0_charAt_5068e a0 a1 g = some u → MI E l yJ0_charAt_5068e cJ0_charAt_5068e 2 (some .char) 4 0 0 [.ref (E.aK a0), .int a1] g (u, g) := by
  intro u h
  refine MG.of (by decide +kernel) (Nat.le_of_ble_eq_true rfl) ?_
  intro p e s m args below meth c C hr hnm ls hl hG
  have C : Cx p s m args meth c cJ0_charAt_5068e 2 RJ0 E := C
  have hx := C.1
  have hb := C.2.1
  have hl : lv_has ls 2 [(0, .ref (E.aK a0)), (1, .int a1)] := hl
  unfold kJ0_charAt_5068e at h
  refine lv_aload_n hx hb dJ0_charAt_5068e_0 rfl (lv_at hl 0 rfl) ?_
  refine r_callVIS C hl.1 hG [] [] (mJ0_isLatin1_aae02 E l a0 g) LJ0_492 rfl rfl (rm_ok (by decide) (by decide)) (Nat.le_of_ble_eq_true rfl) ⟨Nat.le_refl _, Nat.le_refl _⟩ rfl dJ0_charAt_5068e_1 h (fun u1 H locs hG h => ?_)
  refine lv_if_eq (tgt := 16) hx hb dJ0_charAt_5068e_4 (by decide) (fun c2 => ?_) (fun c2 => ?_)
  · have h := (if_inv h).1 c2
    refine lv_aload_n hx hb dJ0_charAt_5068e_16 rfl (lv_at hl 0 rfl) ?_
    refine r_sval C hG FJ0_9 dJ0_charAt_5068e_17 h (fun h => ?_)
    refine lv_iload_n hx hb dJ0_charAt_5068e_20 rfl (lv_at hl 1 rfl) ?_
    cases h
  · have h := (if_inv h).2 c2
    refine lv_aload_n hx hb dJ0_charAt_5068e_7 rfl (lv_at hl 0 rfl) ?_
    refine r_sval C hG FJ0_9 dJ0_charAt_5068e_8 h (fun h => ?_)
    refine lv_iload_n hx hb dJ0_charAt_5068e_11 rfl (lv_at hl 1 rfl) ?_
    refine r_callSIP C hl.1 hG [.ref (E.aV a0), .int a1] [] (mJ1_charAt_3b067 E l a0 a1 g) LJ0_495 rfl (rm_ok (by decide) (by decide)) (Nat.le_of_ble_eq_true rfl) ⟨Nat.le_refl _, Nat.le_refl _⟩ rfl dJ0_charAt_5068e_12 h (fun u3 H locs hG h => ?_)
    exact r_cretP C hG hr dJ0_charAt_5068e_15 h
def kJ1_canEncode_9a6ad  (a0 : Int32) (g : G) : Option (Int32) :=
  if a0 < 0 then
    some 0
  else
    if 255 < a0 then
      some 0
    else
      some 1
set_option maxRecDepth 100000 in
set_option maxHeartbeats 4000000 in
theorem mJ1_canEncode_9a6ad (E : EV) (l : Launch) (a0 : Int32) (g : G) : ∀ u, kJ1_canEncode_9a6ad a0 g = some u → MI E l yJ1_canEncode_9a6ad cJ1_canEncode_9a6ad 1 (some .boolean) 0 0 0 [.int a0] g (u, g) := by
  intro u h
  refine MG.of (by decide +kernel) (Nat.le_of_ble_eq_true rfl) ?_
  intro p e s m args below meth c C hr hnm ls hl hG
  have C : Cx p s m args meth c cJ1_canEncode_9a6ad 1 RJ1 E := C
  have hx := C.1
  have hb := C.2.1
  have hl : lv_has ls 1 [(0, .int a0)] := hl
  unfold kJ1_canEncode_9a6ad at h
  refine lv_iload_n hx hb dJ1_canEncode_9a6ad_0 rfl (lv_at hl 0 rfl) ?_
  refine lv_if_lt (tgt := 15) hx hb dJ1_canEncode_9a6ad_1 (by decide) (fun c1 => ?_) (fun c1 => ?_)
  · have h := (if_inv h).1 c1
    refine lv_iconst (v := 0) hx hb dJ1_canEncode_9a6ad_15 (by decide) ?_
    exact r_iretP C hG hr rfl dJ1_canEncode_9a6ad_16 h
  · have h := (if_inv h).2 c1
    refine lv_iload_n hx hb dJ1_canEncode_9a6ad_4 rfl (lv_at hl 0 rfl) ?_
    refine lv_sipush (v := 255) hx hb dJ1_canEncode_9a6ad_5 (by decide) ?_
    refine lv_icmp_gt (tgt := 15) hx hb dJ1_canEncode_9a6ad_8 (by decide) (fun c2 => ?_) (fun c2 => ?_)
    · have h := (if_inv h).1 c2
      refine lv_iconst (v := 0) hx hb dJ1_canEncode_9a6ad_15 (by decide) ?_
      exact r_iretP C hG hr rfl dJ1_canEncode_9a6ad_16 h
    · have h := (if_inv h).2 c2
      refine lv_iconst (v := 1) hx hb dJ1_canEncode_9a6ad_11 (by decide) ?_
      refine lv_goto (tgt := 16) hx hb dJ1_canEncode_9a6ad_12 (by decide) ?_
      exact r_iretP C hG hr rfl dJ1_canEncode_9a6ad_16 h
def kJ1_indexOfChar_4cfef_7  (g : G) : Nat → Nat → Int32 → Int32 → Int32 → Option (Int32)
  | 0, _, _, _, _ => none
  | f + 1, v0, v3, v4, v5 =>
        if v3 ≤ v5 then
          some (-1)
        else
          sld v0 v5 fun x2 =>
          if x2 = v4 then
            some v5
          else
            bd (v5 + 1) fun x4 =>
            kJ1_indexOfChar_4cfef_7 g f v0 v3 v4 x4
def kJ1_indexOfChar_4cfef  (a0 : Nat) (a1 : Int32) (a2 : Int32) (a3 : Int32) (g : G) : Option (Int32) :=
  bd a1.toInt8.toInt32 fun x5 =>
  kJ1_indexOfChar_4cfef_7 g FU a0 a3 x5 a2
set_option maxRecDepth 100000 in
set_option maxHeartbeats 4000000 in
theorem mJ1_indexOfChar_4cfef (E : EV) (l : Launch) (a0 : Nat) (a1 : Int32) (a2 : Int32) (a3 : Int32) (g : G) : ∀ u, kJ1_indexOfChar_4cfef a0 a1 a2 a3 g = some u → MI E l yJ1_indexOfChar_4cfef cJ1_indexOfChar_4cfef 6 (some .int) 0 0 0 [.ref (E.aV a0), .int a1, .int a2, .int a3] g (u, g) := by
  intro u h
  refine MG.of (by decide +kernel) (Nat.le_of_ble_eq_true rfl) ?_
  intro p e s m args below meth c C hr hnm ls hl hG
  have C : Cx p s m args meth c cJ1_indexOfChar_4cfef 6 RJ1 E := C
  have hx := C.1
  have hb := C.2.1
  have hl : lv_has ls 6 [(0, .ref (E.aV a0)), (1, .int a1), (2, .int a2), (3, .int a3)] := hl
  unfold kJ1_indexOfChar_4cfef at h
  have j7 : ∀ f : Nat, ∀ (v0 : Nat) (v3 : Int32) (v4 : Int32) (v5 : Int32) (H : Heap) (locs : List Loc) (ls : Array Slot), Gd E s H locs g [] → lv_has ls 6 [(0, .ref (E.aV v0)), (3, .int v3), (4, .int v4), (5, .int v5)] → kJ1_indexOfChar_4cfef_7 g f v0 v3 v4 v5 = some u → W p l e (rmD 0 0 0) s m args below meth c H locs 0 0 (MQ below (QI E s.heap.size u g) args s 0 0 (AA E s.heap.size)) (F0 m 7 ls []) := by
    intro f
    induction f with
    | zero =>
      intro v0 v3 v4 v5 H locs ls hG hl h
      unfold kJ1_indexOfChar_4cfef_7 at h
      cases h
    | succ f ih =>
      intro v0 v3 v4 v5 H locs ls hG hl h
      unfold kJ1_indexOfChar_4cfef_7 at h
      refine lv_iload hx hb dJ1_indexOfChar_4cfef_7 (lv_at hl 3 rfl) ?_
      refine lv_iload_n hx hb dJ1_indexOfChar_4cfef_9 rfl (lv_at hl 1 rfl) ?_
      refine lv_icmp_ge (tgt := 31) hx hb dJ1_indexOfChar_4cfef_10 (by decide) (fun c1 => ?_) (fun c1 => ?_)
      · have h := (if_inv h).1 c1
        refine lv_iconst (v := (-1)) hx hb dJ1_indexOfChar_4cfef_31 (by decide) ?_
        exact r_iretP C hG hr rfl dJ1_indexOfChar_4cfef_32 h
      · have h := (if_inv h).2 c1
        refine lv_aload_n hx hb dJ1_indexOfChar_4cfef_13 rfl (lv_at hl 0 rfl) ?_
        refine lv_iload hx hb dJ1_indexOfChar_4cfef_14 (lv_at hl 3 rfl) ?_
        refine r_sbld C hG dJ1_indexOfChar_4cfef_16 h (fun x2 h => ?_)
        refine lv_iload hx hb dJ1_indexOfChar_4cfef_17 (lv_at hl 2 rfl) ?_
        refine lv_icmp_ne (tgt := 25) hx hb dJ1_indexOfChar_4cfef_19 (by decide) (fun c3 => ?_) (fun c3 => ?_)
        · have h := (if_inv h).2 c3
          refine r_iinc (w := 1) (lv' := fun x4 => [(5, .int x4), (0, .ref (E.aV v0)), (3, .int v3), (4, .int v4)]) C dJ1_indexOfChar_4cfef_25 hl (k := 3) rfl (by decide) (by decide) (fun _ => rfl) h (fun x4 ls hl h => ?_)
          refine lv_goto (tgt := 7) hx hb dJ1_indexOfChar_4cfef_28 (by decide) ?_
          exact ih v0 v3 v4 x4 _ _ _ hG (lv_sub hl [1, 2, 3, 0] rfl) h
        · have h := (if_inv h).1 c3
          refine lv_iload hx hb dJ1_indexOfChar_4cfef_22 (lv_at hl 3 rfl) ?_
          exact r_iretP C hG hr rfl dJ1_indexOfChar_4cfef_24 h
  refine lv_iload_n hx hb dJ1_indexOfChar_4cfef_0 rfl (lv_at hl 1 rfl) ?_
  refine lv_i2b hx hb dJ1_indexOfChar_4cfef_1 rfl ?_
  refine r_nm h (fun x5 h => ?_)
  refine lv_istore (lv' := [(4, .int x5), (0, .ref (E.aV a0)), (1, .int a1), (2, .int a2), (3, .int a3)]) hx hb dJ1_indexOfChar_4cfef_2 hl (by decide) rfl (fun ls hl => ?_)
  refine lv_iload_n hx hb dJ1_indexOfChar_4cfef_4 rfl (lv_at hl 3 rfl) ?_
  refine lv_istore (lv' := [(5, .int a2), (4, .int x5), (0, .ref (E.aV a0)), (1, .int a1), (2, .int a2), (3, .int a3)]) hx hb dJ1_indexOfChar_4cfef_5 hl (by decide) rfl (fun ls hl => ?_)
  exact j7 FU a0 a3 x5 a2 _ _ _ hG (lv_sub hl [2, 5, 1, 0] rfl) h
def kJ1_indexOf_4cfef  (a0 : Nat) (a1 : Int32) (a2 : Int32) (a3 : Int32) (g : G) : Option (Int32) :=
  (kJ1_canEncode_9a6ad a1 g).bind fun u1 =>
  if u1 = 0 then
    some (-1)
  else
    bd (if a2 < 0 then 0 else a2) fun x3 =>
    ckS a0 <|
    bd (if (nI (sL a0)) < a3 then (nI (sL a0)) else a3) fun x4 =>
    if x3 < x4 then
      (kJ1_indexOfChar_4cfef a0 a1 x3 x4 g).bind fun u6 =>
      some u6
    else
      some (-1)
set_option maxRecDepth 100000 in
set_option maxHeartbeats 4000000 in
theorem mJ1_indexOf_4cfef (E : EV) (l : Launch) (a0 : Nat) (a1 : Int32) (a2 : Int32) (a3 : Int32) (g : G) : ∀ u, kJ1_indexOf_4cfef a0 a1 a2 a3 g = some u → MI E l yJ1_indexOf_4cfef cJ1_indexOf_4cfef 4 (some .int) 1 0 0 [.ref (E.aV a0), .int a1, .int a2, .int a3] g (u, g) := by
  intro u h
  refine MG.of (by decide +kernel) (Nat.le_of_ble_eq_true rfl) ?_
  intro p e s m args below meth c C hr hnm ls hl hG
  have C : Cx p s m args meth c cJ1_indexOf_4cfef 4 RJ1 E := C
  have hx := C.1
  have hb := C.2.1
  have hl : lv_has ls 4 [(0, .ref (E.aV a0)), (1, .int a1), (2, .int a2), (3, .int a3)] := hl
  unfold kJ1_indexOf_4cfef at h
  refine lv_iload_n hx hb dJ1_indexOf_4cfef_0 rfl (lv_at hl 1 rfl) ?_
  refine r_callSIP C hl.1 hG [.int a1] [] (mJ1_canEncode_9a6ad E l a1 g) LJ1_88 rfl (rm_ok (by decide) (by decide)) (Nat.le_of_ble_eq_true rfl) ⟨Nat.le_refl _, Nat.le_refl _⟩ rfl dJ1_indexOf_4cfef_1 h (fun u1 H locs hG h => ?_)
  refine lv_if_ne (tgt := 9) hx hb dJ1_indexOf_4cfef_4 (by decide) (fun c2 => ?_) (fun c2 => ?_)
  · have h := (if_inv h).2 c2
    refine lv_iload_n hx hb dJ1_indexOf_4cfef_9 rfl (lv_at hl 2 rfl) ?_
    refine lv_iconst (v := 0) hx hb dJ1_indexOf_4cfef_10 (by decide) ?_
    refine r_max C hl.1 LJ1_92 ⟨(Nat.le_of_ble_eq_true rfl), (Nat.le_of_ble_eq_true rfl), Nat.zero_le _, Nat.zero_le _⟩ dJ1_indexOf_4cfef_11 ?_
    refine r_nm h (fun x3 h => ?_)
    refine lv_istore_n (lv' := [(2, .int x3), (0, .ref (E.aV a0)), (1, .int a1), (3, .int a3)]) hx hb dJ1_indexOf_4cfef_14 rfl hl (by decide) rfl (fun ls hl => ?_)
    refine lv_iload_n hx hb dJ1_indexOf_4cfef_15 rfl (lv_at hl 3 rfl) ?_
    refine lv_aload_n hx hb dJ1_indexOf_4cfef_16 rfl (lv_at hl 1 rfl) ?_
    refine r_slen C hG dJ1_indexOf_4cfef_17 h (fun h => ?_)
    refine r_min C hl.1 LJ1_38 ⟨(Nat.le_of_ble_eq_true rfl), (Nat.le_of_ble_eq_true rfl), Nat.zero_le _, Nat.zero_le _⟩ dJ1_indexOf_4cfef_18 ?_
    refine r_nm h (fun x4 h => ?_)
    refine lv_istore_n (lv' := [(3, .int x4), (2, .int x3), (0, .ref (E.aV a0)), (1, .int a1)]) hx hb dJ1_indexOf_4cfef_21 rfl hl (by decide) rfl (fun ls hl => ?_)
    refine lv_iload_n hx hb dJ1_indexOf_4cfef_22 rfl (lv_at hl 1 rfl) ?_
    refine lv_iload_n hx hb dJ1_indexOf_4cfef_23 rfl (lv_at hl 0 rfl) ?_
    refine lv_icmp_lt (tgt := 29) hx hb dJ1_indexOf_4cfef_24 (by decide) (fun c5 => ?_) (fun c5 => ?_)
    · have h := (if_inv h).1 c5
      refine lv_aload_n hx hb dJ1_indexOf_4cfef_29 rfl (lv_at hl 2 rfl) ?_
      refine lv_iload_n hx hb dJ1_indexOf_4cfef_30 rfl (lv_at hl 3 rfl) ?_
      refine lv_iload_n hx hb dJ1_indexOf_4cfef_31 rfl (lv_at hl 1 rfl) ?_
      refine lv_iload_n hx hb dJ1_indexOf_4cfef_32 rfl (lv_at hl 0 rfl) ?_
      refine r_callSIP C hl.1 hG [.ref (E.aV a0), .int a1, .int x3, .int x4] [] (mJ1_indexOfChar_4cfef E l a0 a1 x3 x4 g) LJ1_95 rfl (rm_ok (by decide) (by decide)) (Nat.le_of_ble_eq_true rfl) ⟨Nat.le_refl _, Nat.le_refl _⟩ rfl dJ1_indexOf_4cfef_33 h (fun u6 H locs hG h => ?_)
      exact r_iretP C hG hr rfl dJ1_indexOf_4cfef_36 h
    · have h := (if_inv h).2 c5
      refine lv_iconst (v := (-1)) hx hb dJ1_indexOf_4cfef_27 (by decide) ?_
      exact r_iretP C hG hr rfl dJ1_indexOf_4cfef_28 h
  · have h := (if_inv h).1 c2
    refine lv_iconst (v := (-1)) hx hb dJ1_indexOf_4cfef_7 (by decide) ?_
    exact r_iretP C hG hr rfl dJ1_indexOf_4cfef_8 h
def kJ0_indexOf_7cf53  (a0 : Nat) (a1 : Int32) (a2 : Int32) (g : G) : Option (Int32) :=
  ckS a0 <| (kJ0_isLatin1_aae02 a0 g).bind fun u1 =>
  if u1 = 0 then
    ckS a0 <|
    ckS a0 <| (kJ0_length_8abf5 a0 g).bind fun u3 =>
    none
  else
    ckS a0 <|
    ckS a0 <| (kJ0_length_8abf5 a0 g).bind fun u4 =>
    (kJ1_indexOf_4cfef a0 a1 a2 u4 g).bind fun u5 =>
    some u5
set_option maxRecDepth 100000 in
set_option maxHeartbeats 4000000 in
theorem mJ0_indexOf_7cf53 (E : EV) (l : Launch) (a0 : Nat) (a1 : Int32) (a2 : Int32) (g : G) : ∀ u, kJ0_indexOf_7cf53 a0 a1 a2 g = some u → MI E l yJ0_indexOf_7cf53 cJ0_indexOf_7cf53 3 (some .int) 4 0 0 [.ref (E.aK a0), .int a1, .int a2] g (u, g) := by
  intro u h
  refine MG.of (by decide +kernel) (Nat.le_of_ble_eq_true rfl) ?_
  intro p e s m args below meth c C hr hnm ls hl hG
  have C : Cx p s m args meth c cJ0_indexOf_7cf53 3 RJ0 E := C
  have hx := C.1
  have hb := C.2.1
  have hl : lv_has ls 3 [(0, .ref (E.aK a0)), (1, .int a1), (2, .int a2)] := hl
  unfold kJ0_indexOf_7cf53 at h
  refine lv_aload_n hx hb dJ0_indexOf_7cf53_0 rfl (lv_at hl 0 rfl) ?_
  refine r_callVIS C hl.1 hG [] [] (mJ0_isLatin1_aae02 E l a0 g) LJ0_492 rfl rfl (rm_ok (by decide) (by decide)) (Nat.le_of_ble_eq_true rfl) ⟨Nat.le_refl _, Nat.le_refl _⟩ rfl dJ0_indexOf_7cf53_1 h (fun u1 H locs hG h => ?_)
  refine lv_if_eq (tgt := 23) hx hb dJ0_indexOf_7cf53_4 (by decide) (fun c2 => ?_) (fun c2 => ?_)
  · have h := (if_inv h).1 c2
    refine lv_aload_n hx hb dJ0_indexOf_7cf53_23 rfl (lv_at hl 0 rfl) ?_
    refine r_sval C hG FJ0_9 dJ0_indexOf_7cf53_24 h (fun h => ?_)
    refine lv_iload_n hx hb dJ0_indexOf_7cf53_27 rfl (lv_at hl 1 rfl) ?_
    refine lv_iload_n hx hb dJ0_indexOf_7cf53_28 rfl (lv_at hl 2 rfl) ?_
    refine lv_aload_n hx hb dJ0_indexOf_7cf53_29 rfl (lv_at hl 0 rfl) ?_
    refine r_callVIS C hl.1 hG [] [.int a2, .int a1, .ref (E.aV a0)] (mJ0_length_8abf5 E l a0 g) LJ0_505 rfl rfl (rm_ok (by decide) (by decide)) (Nat.le_of_ble_eq_true rfl) ⟨Nat.le_refl _, Nat.le_refl _⟩ rfl dJ0_indexOf_7cf53_30 h (fun u3 H locs hG h => ?_)
    cases h
  · have h := (if_inv h).2 c2
    refine lv_aload_n hx hb dJ0_indexOf_7cf53_7 rfl (lv_at hl 0 rfl) ?_
    refine r_sval C hG FJ0_9 dJ0_indexOf_7cf53_8 h (fun h => ?_)
    refine lv_iload_n hx hb dJ0_indexOf_7cf53_11 rfl (lv_at hl 1 rfl) ?_
    refine lv_iload_n hx hb dJ0_indexOf_7cf53_12 rfl (lv_at hl 2 rfl) ?_
    refine lv_aload_n hx hb dJ0_indexOf_7cf53_13 rfl (lv_at hl 0 rfl) ?_
    refine r_callVIS C hl.1 hG [] [.int a2, .int a1, .ref (E.aV a0)] (mJ0_length_8abf5 E l a0 g) LJ0_505 rfl rfl (rm_ok (by decide) (by decide)) (Nat.le_of_ble_eq_true rfl) ⟨Nat.le_refl _, Nat.le_refl _⟩ rfl dJ0_indexOf_7cf53_14 h (fun u4 H locs hG h => ?_)
    refine r_callSIP C hl.1 hG [.ref (E.aV a0), .int a1, .int a2, .int u4] [] (mJ1_indexOf_4cfef E l a0 a1 a2 u4 g) LJ0_637 rfl (rm_ok (by decide) (by decide)) (Nat.le_of_ble_eq_true rfl) ⟨Nat.le_refl _, Nat.le_refl _⟩ rfl dJ0_indexOf_7cf53_17 h (fun u5 H locs hG h => ?_)
    refine lv_goto (tgt := 36) hx hb dJ0_indexOf_7cf53_20 (by decide) ?_
    exact r_iretP C hG hr rfl dJ0_indexOf_7cf53_36 h
def kJ0_indexOf_0f7a4  (a0 : Nat) (a1 : Int32) (g : G) : Option (Int32) :=
  ckS a0 <| (kJ0_indexOf_7cf53 a0 a1 0 g).bind fun u1 =>
  some u1
set_option maxRecDepth 100000 in
set_option maxHeartbeats 4000000 in
theorem mJ0_indexOf_0f7a4 (E : EV) (l : Launch) (a0 : Nat) (a1 : Int32) (g : G) : ∀ u, kJ0_indexOf_0f7a4 a0 a1 g = some u → MI E l yJ0_indexOf_0f7a4 cJ0_indexOf_0f7a4 2 (some .int) 5 0 0 [.ref (E.aK a0), .int a1] g (u, g) := by
  intro u h
  refine MG.of (by decide +kernel) (Nat.le_of_ble_eq_true rfl) ?_
  intro p e s m args below meth c C hr hnm ls hl hG
  have C : Cx p s m args meth c cJ0_indexOf_0f7a4 2 RJ0 E := C
  have hx := C.1
  have hb := C.2.1
  have hl : lv_has ls 2 [(0, .ref (E.aK a0)), (1, .int a1)] := hl
  unfold kJ0_indexOf_0f7a4 at h
  refine lv_aload_n hx hb dJ0_indexOf_0f7a4_0 rfl (lv_at hl 0 rfl) ?_
  refine lv_iload_n hx hb dJ0_indexOf_0f7a4_1 rfl (lv_at hl 1 rfl) ?_
  refine lv_iconst (v := 0) hx hb dJ0_indexOf_0f7a4_2 (by decide) ?_
  refine r_callVIS C hl.1 hG [.int a1, .int 0] [] (mJ0_indexOf_7cf53 E l a0 a1 0 g) LJ0_633 rfl rfl (rm_ok (by decide) (by decide)) (Nat.le_of_ble_eq_true rfl) ⟨Nat.le_refl _, Nat.le_refl _⟩ rfl dJ0_indexOf_0f7a4_3 h (fun u1 H locs hG h => ?_)
  exact r_iretP C hG hr rfl dJ0_indexOf_0f7a4_6 h
