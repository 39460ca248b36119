def k0_isNext  (a1 : Int32) (g : G) : Option (Int32) :=
  (k6_kindAt (g 13 2) g).bind fun u1 =>
  if u1 = a1 then
    some 1
  else
    some 0
set_option maxRecDepth 100000 in
set_option maxHeartbeats 4000000 in
theorem m0_isNext (E : EV) (l : Launch) (a1 : Int32) (g : G) : ∀ u, k0_isNext a1 g = some u → MI E l yX0_isNext cX0_isNext 2 (some .boolean) 1 0 0 [.ref (E.ad 13), .int a1] g (u, g) := by
  intro u h
  refine MG.of (by decide +kernel) (Nat.le_of_ble_eq_true rfl) ?_
  intro p e s m args below meth c C hr hnm ls hl hG
  have C : Cx p s m args meth c cX0_isNext 2 RX0 E := C
  have hx := C.1
  have hb := C.2.1
  have hl : lv_has ls 2 [(0, .ref (E.ad 13)), (1, .int a1)] := hl
  unfold k0_isNext at h
  refine lv_aload_n hx hb dX0_isNext_0 rfl (lv_at hl 0 rfl) ?_
  refine r_getA (j := 3) C hG FX0_9 rfl rfl dX0_isNext_1 ?_
  refine lv_aload_n hx hb dX0_isNext_4 rfl (lv_at hl 0 rfl) ?_
  refine r_getI C hG FX0_24 rfl rfl dX0_isNext_5 ?_
  refine r_callVIP C hl.1 hG [.int (g 13 2)] [] (m6_kindAt E l (g 13 2) g) LX0_39 rfl KC6 rfl (rm_ok (by decide) (by decide)) (Nat.le_of_ble_eq_true rfl) ⟨Nat.le_refl _, Nat.le_refl _⟩ rfl dX0_isNext_8 h (fun u1 H locs hG h => ?_)
  refine lv_iload_n hx hb dX0_isNext_11 rfl (lv_at hl 1 rfl) ?_
  refine lv_icmp_ne (tgt := 19) hx hb dX0_isNext_12 (by decide) (fun c2 => ?_) (fun c2 => ?_)
  · have h := (if_inv h).2 c2
    refine lv_iconst (v := 0) hx hb dX0_isNext_19 (by decide) ?_
    exact r_iretP C hG hr rfl dX0_isNext_20 h
  · have h := (if_inv h).1 c2
    refine lv_iconst (v := 1) hx hb dX0_isNext_15 (by decide) ?_
    refine lv_goto (tgt := 20) hx hb dX0_isNext_16 (by decide) ?_
    exact r_iretP C hG hr rfl dX0_isNext_20 h
def k0_take  (a1 : Int32) (g : G) : Option (Int32 × G) :=
  (k6_kindAt (g 13 2) g).bind fun u1 =>
  if u1 = a1 then
    bd (up g 13 2 ((g 13 2) + 1)) fun g3 =>
    some (1, g3)
  else
    some (0, g)
set_option maxRecDepth 100000 in
set_option maxHeartbeats 4000000 in
theorem m0_take (E : EV) (l : Launch) (a1 : Int32) (g : G) : ∀ u, k0_take a1 g = some u → MI E l yX0_take cX0_take 2 (some .boolean) 1 0 0 [.ref (E.ad 13), .int a1] g u := by
  intro u h
  refine MG.of (by decide +kernel) (Nat.le_of_ble_eq_true rfl) ?_
  intro p e s m args below meth c C hr hnm ls hl hG
  have C : Cx p s m args meth c cX0_take 2 RX0 E := C
  have hx := C.1
  have hb := C.2.1
  have hl : lv_has ls 2 [(0, .ref (E.ad 13)), (1, .int a1)] := hl
  unfold k0_take at h
  refine lv_aload_n hx hb dX0_take_0 rfl (lv_at hl 0 rfl) ?_
  refine r_getA (j := 3) C hG FX0_9 rfl rfl dX0_take_1 ?_
  refine lv_aload_n hx hb dX0_take_4 rfl (lv_at hl 0 rfl) ?_
  refine r_getI C hG FX0_24 rfl rfl dX0_take_5 ?_
  refine r_callVIP C hl.1 hG [.int (g 13 2)] [] (m6_kindAt E l (g 13 2) g) LX0_39 rfl KC6 rfl (rm_ok (by decide) (by decide)) (Nat.le_of_ble_eq_true rfl) ⟨Nat.le_refl _, Nat.le_refl _⟩ rfl dX0_take_8 h (fun u1 H locs hG h => ?_)
  refine lv_iload_n hx hb dX0_take_11 rfl (lv_at hl 1 rfl) ?_
  refine lv_icmp_eq (tgt := 17) hx hb dX0_take_12 (by decide) (fun c2 => ?_) (fun c2 => ?_)
  · have h := (if_inv h).1 c2
    refine lv_aload_n hx hb dX0_take_17 rfl (lv_at hl 0 rfl) ?_
    refine lv_dup hx hb dX0_take_18 rfl ?_
    refine r_getI C hG FX0_24 rfl rfl dX0_take_19 ?_
    refine lv_iconst (v := 1) hx hb dX0_take_22 (by decide) ?_
    refine lv_iadd hx hb dX0_take_23 ?_
    refine r_putI C hG FX0_24 rfl rfl dX0_take_24 h (fun H locs g3 hG h => ?_)
    refine lv_iconst (v := 1) hx hb dX0_take_27 (by decide) ?_
    exact r_iret C hG hr rfl dX0_take_28 h
  · have h := (if_inv h).2 c2
    refine lv_iconst (v := 0) hx hb dX0_take_15 (by decide) ?_
    exact r_iret C hG hr rfl dX0_take_16 h
def k0_mirror  (g : G) : Option (Int32 × G) :=
  (k0_take 2 g).bind fun u1 =>
  if u1.1 = 0 then
    some (0, u1.2)
  else
    (k0_take 129 u1.2).bind fun u3 =>
    if u3.1 = 0 then
      some (0, u3.2)
    else
      (k0_take 3 u3.2).bind fun u5 =>
      if u5.1 = 0 then
        some (0, u5.2)
      else
        (k0_take 130 u5.2).bind fun u7 =>
        if u7.1 = 0 then
          some (0, u7.2)
        else
          (k0_take 45 u7.2).bind fun u9 =>
          (k0_take 3 u9.2).bind fun u10 =>
          zr u10.1 u10.2
set_option maxRecDepth 100000 in
set_option maxHeartbeats 4000000 in
theorem m0_mirror (E : EV) (l : Launch) (g : G) : ∀ u, k0_mirror g = some u → MI E l yX0_mirror cX0_mirror 1 (some .boolean) 2 0 0 [.ref (E.ad 13)] g u := by
  intro u h
  refine MG.of (by decide +kernel) (Nat.le_of_ble_eq_true rfl) ?_
  intro p e s m args below meth c C hr hnm ls hl hG
  have C : Cx p s m args meth c cX0_mirror 1 RX0 E := C
  have hx := C.1
  have hb := C.2.1
  have hl : lv_has ls 1 [(0, .ref (E.ad 13))] := hl
  unfold k0_mirror at h
  refine lv_aload_n hx hb dX0_mirror_0 rfl (lv_at hl 0 rfl) ?_
  refine lv_iconst (v := 2) hx hb dX0_mirror_1 (by decide) ?_
  refine r_callVI C hl.1 hG [.int 2] [] (m0_take E l 2 g) LX0_36 rfl KC0 rfl (rm_ok (by decide) (by decide)) (Nat.le_of_ble_eq_true rfl) ⟨Nat.le_refl _, Nat.le_refl _⟩ rfl dX0_mirror_2 h (fun u1 H locs hG h => ?_)
  refine lv_if_eq (tgt := 36) hx hb dX0_mirror_5 (by decide) (fun c2 => ?_) (fun c2 => ?_)
  · have h := (if_inv h).1 c2
    refine lv_iconst (v := 0) hx hb dX0_mirror_36 (by decide) ?_
    exact r_iret C hG hr rfl dX0_mirror_37 h
  · have h := (if_inv h).2 c2
    refine lv_aload_n hx hb dX0_mirror_8 rfl (lv_at hl 0 rfl) ?_
    refine lv_sipush (v := 129) hx hb dX0_mirror_9 (by decide) ?_
    refine r_callVI C hl.1 hG [.int 129] [] (m0_take E l 129 u1.2) LX0_36 rfl KC0 rfl (rm_ok (by decide) (by decide)) (Nat.le_of_ble_eq_true rfl) ⟨Nat.le_refl _, Nat.le_refl _⟩ rfl dX0_mirror_12 h (fun u3 H locs hG h => ?_)
    refine lv_if_eq (tgt := 36) hx hb dX0_mirror_15 (by decide) (fun c4 => ?_) (fun c4 => ?_)
    · have h := (if_inv h).1 c4
      refine lv_iconst (v := 0) hx hb dX0_mirror_36 (by decide) ?_
      exact r_iret C hG hr rfl dX0_mirror_37 h
    · have h := (if_inv h).2 c4
      refine lv_aload_n hx hb dX0_mirror_18 rfl (lv_at hl 0 rfl) ?_
      refine lv_iconst (v := 3) hx hb dX0_mirror_19 (by decide) ?_
      refine r_callVI C hl.1 hG [.int 3] [] (m0_take E l 3 u3.2) LX0_36 rfl KC0 rfl (rm_ok (by decide) (by decide)) (Nat.le_of_ble_eq_true rfl) ⟨Nat.le_refl _, Nat.le_refl _⟩ rfl dX0_mirror_20 h (fun u5 H locs hG h => ?_)
      refine lv_if_eq (tgt := 36) hx hb dX0_mirror_23 (by decide) (fun c6 => ?_) (fun c6 => ?_)
      · have h := (if_inv h).1 c6
        refine lv_iconst (v := 0) hx hb dX0_mirror_36 (by decide) ?_
        exact r_iret C hG hr rfl dX0_mirror_37 h
      · have h := (if_inv h).2 c6
        refine lv_aload_n hx hb dX0_mirror_26 rfl (lv_at hl 0 rfl) ?_
        refine lv_sipush (v := 130) hx hb dX0_mirror_27 (by decide) ?_
        refine r_callVI C hl.1 hG [.int 130] [] (m0_take E l 130 u5.2) LX0_36 rfl KC0 rfl (rm_ok (by decide) (by decide)) (Nat.le_of_ble_eq_true rfl) ⟨Nat.le_refl _, Nat.le_refl _⟩ rfl dX0_mirror_30 h (fun u7 H locs hG h => ?_)
        refine lv_if_ne (tgt := 38) hx hb dX0_mirror_33 (by decide) (fun c8 => ?_) (fun c8 => ?_)
        · have h := (if_inv h).2 c8
          refine lv_aload_n hx hb dX0_mirror_38 rfl (lv_at hl 0 rfl) ?_
          refine lv_bipush (v := 45) hx hb dX0_mirror_39 (by decide) ?_
          refine r_callVI C hl.1 hG [.int 45] [] (m0_take E l 45 u7.2) LX0_36 rfl KC0 rfl (rm_ok (by decide) (by decide)) (Nat.le_of_ble_eq_true rfl) ⟨Nat.le_refl _, Nat.le_refl _⟩ rfl dX0_mirror_41 h (fun u9 H locs hG h => ?_)
          refine lv_pop hx hb dX0_mirror_44 rfl ?_
          refine lv_aload_n hx hb dX0_mirror_45 rfl (lv_at hl 0 rfl) ?_
          refine lv_iconst (v := 3) hx hb dX0_mirror_46 (by decide) ?_
          refine r_callVI C hl.1 hG [.int 3] [] (m0_take E l 3 u9.2) LX0_36 rfl KC0 rfl (rm_ok (by decide) (by decide)) (Nat.le_of_ble_eq_true rfl) ⟨Nat.le_refl _, Nat.le_refl _⟩ rfl dX0_mirror_47 h (fun u10 H locs hG h => ?_)
          exact r_zret C hG hr dX0_mirror_50 h
        · have h := (if_inv h).1 c8
          refine lv_iconst (v := 0) hx hb dX0_mirror_36 (by decide) ?_
          exact r_iret C hG hr rfl dX0_mirror_37 h
def SG0 (E : EV) (l : Launch) (R : Nat → Int32 → Int32 → G → Option (Int32 × G)) (d : Nat) : Prop := (∀ (a1 : Int32) (g : G) (u : Int32 × G), R 0 a1 0 g = some u → MI E l yX0_test cX0_test 3 (some .boolean) (2 + d) 0 0 [.ref (E.ad 13), .int a1] g u) ∧ (∀ (a1 : Int32) (g : G) (u : Int32 × G), R 1 a1 0 g = some u → MI E l yX0_both cX0_both 3 (some .boolean) (2 + d) 0 0 [.ref (E.ad 13), .int a1] g u) ∧ (∀ (a1 : Int32) (g : G) (u : Int32 × G), R 2 a1 0 g = some u → MI E l yX0_single cX0_single 5 (some .boolean) (2 + d) 0 0 [.ref (E.ad 13), .int a1] g u) ∧ (∀ (a1 : Int32) (g : G) (u : Int32 × G), R 3 a1 0 g = some u → MI E l yX0_sum cX0_sum 4 (some .boolean) (2 + d) 0 0 [.ref (E.ad 13), .int a1] g u) ∧ (∀ (a1 : Int32) (g : G) (u : Int32 × G), R 4 a1 0 g = some u → MI E l yX0_product cX0_product 4 (some .boolean) (2 + d) 0 0 [.ref (E.ad 13), .int a1] g u) ∧ (∀ (a1 : Int32) (g : G) (u : Int32 × G), R 5 a1 0 g = some u → MI E l yX0_value cX0_value 3 (some .boolean) (2 + d) 0 0 [.ref (E.ad 13), .int a1] g u) ∧ (∀ (a1 : Int32) (a2 : Int32) (g : G) (u : Int32 × G), R 6 a1 a2 g = some u → MI E l yX0_pair cX0_pair 3 (some .boolean) (2 + d) 0 0 [.ref (E.ad 13), .int a1, .int a2] g u)
def k0_test_12 (R : Nat → Int32 → Int32 → G → Option (Int32 × G))  : Nat → Int32 → Int32 → G → Option (Int32 × G)
  | 0, _, _, _ => none
  | f + 1, v1, v2, g =>
        if 400 ≤ v2 then
          some (1, g)
        else
          (k0_take 151 g).bind fun u2 =>
          if u2.1 = 0 then
            some (1, u2.2)
          else
            (R 1 v1 0 u2.2).bind fun u4 =>
            if u4.1 = 0 then
              some (0, u4.2)
            else
              (k2_write 8 151 (u4.2 13 2) u4.2).bind fun g6 =>
              bd (v2 + 1) fun x7 =>
              k0_test_12 R f v1 x7 g6
def kb0_test (R : Nat → Int32 → Int32 → G → Option (Int32 × G))  (a1 : Int32) (g : G) : Option (Int32 × G) :=
  (R 1 a1 0 g).bind fun u8 =>
  if u8.1 = 0 then
    some (0, u8.2)
  else
    k0_test_12 R FU a1 0 u8.2
set_option maxRecDepth 100000 in
set_option maxHeartbeats 4000000 in
theorem m0_test_b (E : EV) (l : Launch) (d : Nat) (R : Nat → Int32 → Int32 → G → Option (Int32 × G)) (IH : SG0 E l R d) (a1 : Int32) (g : G) : ∀ u, kb0_test R a1 g = some u → MI E l yX0_test cX0_test 3 (some .boolean) (2 + d + 1) 0 0 [.ref (E.ad 13), .int a1] g u := by
  intro u h
  refine MG.of (by decide +kernel) (Nat.le_of_ble_eq_true rfl) ?_
  intro p e s m args below meth c C hr hnm ls hl hG
  have C : Cx p s m args meth c cX0_test 3 RX0 E := C
  have hx := C.1
  have hb := C.2.1
  have hl : lv_has ls 3 [(0, .ref (E.ad 13)), (1, .int a1)] := hl
  unfold kb0_test at h
  have j12 : ∀ f : Nat, ∀ (v1 : Int32) (v2 : Int32) (g : G) (H : Heap) (locs : List Loc) (ls : Array Slot), Gd E s H locs g [] → lv_has ls 3 [(0, .ref (E.ad 13)), (1, .int v1), (2, .int v2)] → k0_test_12 R f v1 v2 g = some u → W p l e (rmD (2 + d + 1) 0 0) s m args below meth c H locs 0 0 (MQ below (QI E s.heap.size u.1 u.2) args s 0 0 (AA E s.heap.size)) (F0 m 12 ls []) := by
    intro f
    induction f with
    | zero =>
      intro v1 v2 g H locs ls hG hl h
      unfold k0_test_12 at h
      cases h
    | succ f ih =>
      intro v1 v2 g H locs ls hG hl h
      unfold k0_test_12 at h
      refine lv_iload_n hx hb dX0_test_12 rfl (lv_at hl 2 rfl) ?_
      refine lv_sipush (v := 400) hx hb dX0_test_13 (by decide) ?_
      refine lv_icmp_ge (tgt := 59) hx hb dX0_test_16 (by decide) (fun c1 => ?_) (fun c1 => ?_)
      · have h := (if_inv h).1 c1
        refine lv_iconst (v := 1) hx hb dX0_test_59 (by decide) ?_
        exact r_iret C hG hr rfl dX0_test_60 h
      · have h := (if_inv h).2 c1
        refine lv_aload_n hx hb dX0_test_19 rfl (lv_at hl 0 rfl) ?_
        refine lv_sipush (v := 151) hx hb dX0_test_20 (by decide) ?_
        refine r_callVI C hl.1 hG [.int 151] [] (m0_take E l 151 g) LX0_36 rfl KC0 rfl (rm_ok (by omega) (by decide)) (Nat.le_of_ble_eq_true rfl) ⟨Nat.le_refl _, Nat.le_refl _⟩ rfl dX0_test_23 h (fun u2 H locs hG h => ?_)
        refine lv_if_eq (tgt := 59) hx hb dX0_test_26 (by decide) (fun c3 => ?_) (fun c3 => ?_)
        · have h := (if_inv h).1 c3
          refine lv_iconst (v := 1) hx hb dX0_test_59 (by decide) ?_
          exact r_iret C hG hr rfl dX0_test_60 h
        · have h := (if_inv h).2 c3
          refine lv_aload_n hx hb dX0_test_29 rfl (lv_at hl 0 rfl) ?_
          refine lv_iload_n hx hb dX0_test_30 rfl (lv_at hl 1 rfl) ?_
          refine r_callVI C hl.1 hG [.int v1] [] (IH.2.1 v1 u2.2) LX0_67 rfl KC0 rfl (rm_ok (by omega) (by decide)) (Nat.le_of_ble_eq_true rfl) ⟨Nat.le_refl _, Nat.le_refl _⟩ rfl dX0_test_31 h (fun u4 H locs hG h => ?_)
          refine lv_if_ne (tgt := 39) hx hb dX0_test_34 (by decide) (fun c5 => ?_) (fun c5 => ?_)
          · have h := (if_inv h).2 c5
            refine lv_aload_n hx hb dX0_test_39 rfl (lv_at hl 0 rfl) ?_
            refine r_getA (j := 8) C hG FX0_15 rfl rfl dX0_test_40 ?_
            refine lv_sipush (v := 151) hx hb dX0_test_43 (by decide) ?_
            refine lv_aload_n hx hb dX0_test_46 rfl (lv_at hl 0 rfl) ?_
            refine r_getI C hG FX0_24 rfl rfl dX0_test_47 ?_
            refine r_callVV C hl.1 hG [.int 151, .int (u4.2 13 2)] [] (m2_write E l 8 rfl 151 (u4.2 13 2) u4.2) LX0_51 rfl KC2 rfl (rm_ok (by omega) (by decide)) (Nat.le_of_ble_eq_true rfl) ⟨Nat.le_refl _, Nat.le_refl _⟩ rfl dX0_test_50 h (fun g6 H locs hG h => ?_)
            refine r_iinc (w := 1) (lv' := fun x7 => [(2, .int x7), (0, .ref (E.ad 13)), (1, .int v1)]) C dX0_test_53 hl (k := 2) rfl (by decide) (by decide) (fun _ => rfl) h (fun x7 ls hl h => ?_)
            refine lv_goto (tgt := 12) hx hb dX0_test_56 (by decide) ?_
            exact ih v1 x7 g6 _ _ _ hG (lv_sub hl [1, 2, 0] rfl) h
          · have h := (if_inv h).1 c5
            refine lv_iconst (v := 0) hx hb dX0_test_37 (by decide) ?_
            exact r_iret C hG hr rfl dX0_test_38 h
  refine lv_aload_n hx hb dX0_test_0 rfl (lv_at hl 0 rfl) ?_
  refine lv_iload_n hx hb dX0_test_1 rfl (lv_at hl 1 rfl) ?_
  refine r_callVI C hl.1 hG [.int a1] [] (IH.2.1 a1 g) LX0_67 rfl KC0 rfl (rm_ok (by omega) (by decide)) (Nat.le_of_ble_eq_true rfl) ⟨Nat.le_refl _, Nat.le_refl _⟩ rfl dX0_test_2 h (fun u8 H locs hG h => ?_)
  refine lv_if_ne (tgt := 10) hx hb dX0_test_5 (by decide) (fun c9 => ?_) (fun c9 => ?_)
  · have h := (if_inv h).2 c9
    refine lv_iconst (v := 0) hx hb dX0_test_10 (by decide) ?_
    refine lv_istore_n (lv' := [(2, .int 0), (0, .ref (E.ad 13)), (1, .int a1)]) hx hb dX0_test_11 rfl hl (by decide) rfl (fun ls hl => ?_)
    exact j12 FU a1 0 u8.2 _ _ _ hG (lv_sub hl [1, 2, 0] rfl) h
  · have h := (if_inv h).1 c9
    refine lv_iconst (v := 0) hx hb dX0_test_8 (by decide) ?_
    exact r_iret C hG hr rfl dX0_test_9 h
def k0_both_12 (R : Nat → Int32 → Int32 → G → Option (Int32 × G))  : Nat → Int32 → Int32 → G → Option (Int32 × G)
  | 0, _, _, _ => none
  | f + 1, v1, v2, g =>
        if 400 ≤ v2 then
          some (1, g)
        else
          (k0_take 150 g).bind fun u2 =>
          if u2.1 = 0 then
            some (1, u2.2)
          else
            (R 2 v1 0 u2.2).bind fun u4 =>
            if u4.1 = 0 then
              some (0, u4.2)
            else
              (k2_write 8 150 (u4.2 13 2) u4.2).bind fun g6 =>
              bd (v2 + 1) fun x7 =>
              k0_both_12 R f v1 x7 g6
def kb0_both (R : Nat → Int32 → Int32 → G → Option (Int32 × G))  (a1 : Int32) (g : G) : Option (Int32 × G) :=
  (R 2 a1 0 g).bind fun u8 =>
  if u8.1 = 0 then
    some (0, u8.2)
  else
    k0_both_12 R FU a1 0 u8.2
set_option maxRecDepth 100000 in
set_option maxHeartbeats 4000000 in
theorem m0_both_b (E : EV) (l : Launch) (d : Nat) (R : Nat → Int32 → Int32 → G → Option (Int32 × G)) (IH : SG0 E l R d) (a1 : Int32) (g : G) : ∀ u, kb0_both R a1 g = some u → MI E l yX0_both cX0_both 3 (some .boolean) (2 + d + 1) 0 0 [.ref (E.ad 13), .int a1] g u := by
  intro u h
  refine MG.of (by decide +kernel) (Nat.le_of_ble_eq_true rfl) ?_
  intro p e s m args below meth c C hr hnm ls hl hG
  have C : Cx p s m args meth c cX0_both 3 RX0 E := C
  have hx := C.1
  have hb := C.2.1
  have hl : lv_has ls 3 [(0, .ref (E.ad 13)), (1, .int a1)] := hl
  unfold kb0_both at h
  have j12 : ∀ f : Nat, ∀ (v1 : Int32) (v2 : Int32) (g : G) (H : Heap) (locs : List Loc) (ls : Array Slot), Gd E s H locs g [] → lv_has ls 3 [(0, .ref (E.ad 13)), (1, .int v1), (2, .int v2)] → k0_both_12 R f v1 v2 g = some u → W p l e (rmD (2 + d + 1) 0 0) s m args below meth c H locs 0 0 (MQ below (QI E s.heap.size u.1 u.2) args s 0 0 (AA E s.heap.size)) (F0 m 12 ls []) := by
    intro f
    induction f with
    | zero =>
      intro v1 v2 g H locs ls hG hl h
      unfold k0_both_12 at h
      cases h
    | succ f ih =>
      intro v1 v2 g H locs ls hG hl h
      unfold k0_both_12 at h
      refine lv_iload_n hx hb dX0_both_12 rfl (lv_at hl 2 rfl) ?_
      refine lv_sipush (v := 400) hx hb dX0_both_13 (by decide) ?_
      refine lv_icmp_ge (tgt := 59) hx hb dX0_both_16 (by decide) (fun c1 => ?_) (fun c1 => ?_)
      · have h := (if_inv h).1 c1
        refine lv_iconst (v := 1) hx hb dX0_both_59 (by decide) ?_
        exact r_iret C hG hr rfl dX0_both_60 h
      · have h := (if_inv h).2 c1
        refine lv_aload_n hx hb dX0_both_19 rfl (lv_at hl 0 rfl) ?_
        refine lv_sipush (v := 150) hx hb dX0_both_20 (by decide) ?_
        refine r_callVI C hl.1 hG [.int 150] [] (m0_take E l 150 g) LX0_36 rfl KC0 rfl (rm_ok (by omega) (by decide)) (Nat.le_of_ble_eq_true rfl) ⟨Nat.le_refl _, Nat.le_refl _⟩ rfl dX0_both_23 h (fun u2 H locs hG h => ?_)
        refine lv_if_eq (tgt := 59) hx hb dX0_both_26 (by decide) (fun c3 => ?_) (fun c3 => ?_)
        · have h := (if_inv h).1 c3
          refine lv_iconst (v := 1) hx hb dX0_both_59 (by decide) ?_
          exact r_iret C hG hr rfl dX0_both_60 h
        · have h := (if_inv h).2 c3
          refine lv_aload_n hx hb dX0_both_29 rfl (lv_at hl 0 rfl) ?_
          refine lv_iload_n hx hb dX0_both_30 rfl (lv_at hl 1 rfl) ?_
          refine r_callVI C hl.1 hG [.int v1] [] (IH.2.2.1 v1 u2.2) LX0_70 rfl KC0 rfl (rm_ok (by omega) (by decide)) (Nat.le_of_ble_eq_true rfl) ⟨Nat.le_refl _, Nat.le_refl _⟩ rfl dX0_both_31 h (fun u4 H locs hG h => ?_)
          refine lv_if_ne (tgt := 39) hx hb dX0_both_34 (by decide) (fun c5 => ?_) (fun c5 => ?_)
          · have h := (if_inv h).2 c5
            refine lv_aload_n hx hb dX0_both_39 rfl (lv_at hl 0 rfl) ?_
            refine r_getA (j := 8) C hG FX0_15 rfl rfl dX0_both_40 ?_
            refine lv_sipush (v := 150) hx hb dX0_both_43 (by decide) ?_
            refine lv_aload_n hx hb dX0_both_46 rfl (lv_at hl 0 rfl) ?_
            refine r_getI C hG FX0_24 rfl rfl dX0_both_47 ?_
            refine r_callVV C hl.1 hG [.int 150, .int (u4.2 13 2)] [] (m2_write E l 8 rfl 150 (u4.2 13 2) u4.2) LX0_51 rfl KC2 rfl (rm_ok (by omega) (by decide)) (Nat.le_of_ble_eq_true rfl) ⟨Nat.le_refl _, Nat.le_refl _⟩ rfl dX0_both_50 h (fun g6 H locs hG h => ?_)
            refine r_iinc (w := 1) (lv' := fun x7 => [(2, .int x7), (0, .ref (E.ad 13)), (1, .int v1)]) C dX0_both_53 hl (k := 2) rfl (by decide) (by decide) (fun _ => rfl) h (fun x7 ls hl h => ?_)
            refine lv_goto (tgt := 12) hx hb dX0_both_56 (by decide) ?_
            exact ih v1 x7 g6 _ _ _ hG (lv_sub hl [1, 2, 0] rfl) h
          · have h := (if_inv h).1 c5
            refine lv_iconst (v := 0) hx hb dX0_both_37 (by decide) ?_
            exact r_iret C hG hr rfl dX0_both_38 h
  refine lv_aload_n hx hb dX0_both_0 rfl (lv_at hl 0 rfl) ?_
  refine lv_iload_n hx hb dX0_both_1 rfl (lv_at hl 1 rfl) ?_
  refine r_callVI C hl.1 hG [.int a1] [] (IH.2.2.1 a1 g) LX0_70 rfl KC0 rfl (rm_ok (by omega) (by decide)) (Nat.le_of_ble_eq_true rfl) ⟨Nat.le_refl _, Nat.le_refl _⟩ rfl dX0_both_2 h (fun u8 H locs hG h => ?_)
  refine lv_if_ne (tgt := 10) hx hb dX0_both_5 (by decide) (fun c9 => ?_) (fun c9 => ?_)
  · have h := (if_inv h).2 c9
    refine lv_iconst (v := 0) hx hb dX0_both_10 (by decide) ?_
    refine lv_istore_n (lv' := [(2, .int 0), (0, .ref (E.ad 13)), (1, .int a1)]) hx hb dX0_both_11 rfl hl (by decide) rfl (fun ls hl => ?_)
    exact j12 FU a1 0 u8.2 _ _ _ hG (lv_sub hl [1, 2, 0] rfl) h
  · have h := (if_inv h).1 c9
    refine lv_iconst (v := 0) hx hb dX0_both_8 (by decide) ?_
    exact r_iret C hG hr rfl dX0_both_9 h
def k0_single_272 (R : Nat → Int32 → Int32 → G → Option (Int32 × G))  (v1 : Int32) (v3 : Int32) (t0 : Int32) (g : G) : Option (Int32 × G) :=
      if t0 = 0 then
        some (0, g)
      else
        (R 3 v1 0 g).bind fun u2 =>
        if u2.1 = 0 then
          some (0, u2.2)
        else
          (k2_write 8 v3 (u2.2 13 2) u2.2).bind fun g4 =>
          some (1, g4)
def kb0_single (R : Nat → Int32 → Int32 → G → Option (Int32 × G))  (a1 : Int32) (g : G) : Option (Int32 × G) :=
  (k6_kindAt (g 13 2) g).bind fun u5 =>
  if u5 = 91 then
    if 8 ≤ a1 then
      some (0, g)
    else
      (k0_take 91 g).bind fun u8 =>
      if u8.1 = 0 then
        some (0, u8.2)
      else
        (R 0 (a1 + 1) 0 u8.2).bind fun u10 =>
        if u10.1 = 0 then
          some (0, u10.2)
        else
          (k0_take 93 u10.2).bind fun u12 =>
          if u12.1 = 0 then
            some (0, u12.2)
          else
            some (1, u12.2)
  else
  if u5 = 147 then
    (k2_write 8 147 (g 13 2) g).bind fun g15 =>
    (k0_take 147 g15).bind fun u16 =>
    zr u16.1 u16.2
  else
  if u5 = 148 then
    (k2_write 8 148 ((g 13 2) + 1) g).bind fun g18 =>
    (k0_take 148 g18).bind fun u19 =>
    if u19.1 = 0 then
      some (0, u19.2)
    else
      (k0_take 2 u19.2).bind fun u21 =>
      if u21.1 = 0 then
        some (0, u21.2)
      else
        some (1, u21.2)
  else
  if u5 = 149 then
    if 8 ≤ a1 then
      some (0, g)
    else
      (k0_take 149 g).bind fun u25 =>
      if u25.1 = 0 then
        some (0, u25.2)
      else
        (R 2 (a1 + 1) 0 u25.2).bind fun u27 =>
        if u27.1 = 0 then
          some (0, u27.2)
        else
          (k2_write 8 149 (u27.2 13 2) u27.2).bind fun g29 =>
          some (1, g29)
  else
  (R 3 a1 0 g).bind fun u30 =>
  if u30.1 = 0 then
    some (0, u30.2)
  else
    (k6_kindAt (u30.2 13 2) u30.2).bind fun u32 =>
    (k0_take 60 u30.2).bind fun u33 =>
    if u33.1 = 0 then
      (k0_take 62 u33.2).bind fun u35 =>
      if u35.1 = 0 then
        (k0_take 61 u35.2).bind fun u37 =>
        if u37.1 = 0 then
          (k0_take 4 u37.2).bind fun u39 =>
          if u39.1 = 0 then
            (k0_take 5 u39.2).bind fun u41 =>
            if u41.1 = 0 then
              k0_single_272 R a1 u32 0 u41.2
            else
              k0_single_272 R a1 u32 1 u41.2
          else
            k0_single_272 R a1 u32 1 u39.2
        else
          k0_single_272 R a1 u32 1 u37.2
      else
        k0_single_272 R a1 u32 1 u35.2
    else
      k0_single_272 R a1 u32 1 u33.2
set_option maxRecDepth 100000 in
set_option maxHeartbeats 4000000 in
theorem m0_single_b (E : EV) (l : Launch) (d : Nat) (R : Nat → Int32 → Int32 → G → Option (Int32 × G)) (IH : SG0 E l R d) (a1 : Int32) (g : G) : ∀ u, kb0_single R a1 g = some u → MI E l yX0_single cX0_single 5 (some .boolean) (2 + d + 1) 0 0 [.ref (E.ad 13), .int a1] g u := by
  intro u h
  refine MG.of (by decide +kernel) (Nat.le_of_ble_eq_true rfl) ?_
  intro p e s m args below meth c C hr hnm ls hl hG
  have C : Cx p s m args meth c cX0_single 5 RX0 E := C
  have hx := C.1
  have hb := C.2.1
  have hl : lv_has ls 5 [(0, .ref (E.ad 13)), (1, .int a1)] := hl
  unfold kb0_single at h
  have j272 : ∀ (v1 : Int32) (v3 : Int32) (t0 : Int32) (g : G) (H : Heap) (locs : List Loc) (ls : Array Slot), Gd E s H locs g [] → lv_has ls 5 [(0, .ref (E.ad 13)), (1, .int v1), (3, .int v3)] → k0_single_272 R v1 v3 t0 g = some u → W p l e (rmD (2 + d + 1) 0 0) s m args below meth c H locs 0 0 (MQ below (QI E s.heap.size u.1 u.2) args s 0 0 (AA E s.heap.size)) (F0 m 272 ls [.int t0]) := by
    intro v1 v3 t0 g H locs ls hG hl h
    unfold k0_single_272 at h
    refine lv_istore (lv' := [(4, .int t0), (0, .ref (E.ad 13)), (1, .int v1), (3, .int v3)]) hx hb dX0_single_272 hl (by decide) rfl (fun ls hl => ?_)
    refine lv_iload hx hb dX0_single_274 (lv_at hl 0 rfl) ?_
    refine lv_if_eq (tgt := 287) hx hb dX0_single_276 (by decide) (fun c1 => ?_) (fun c1 => ?_)
    · have h := (if_inv h).1 c1
      refine lv_iconst (v := 0) hx hb dX0_single_287 (by decide) ?_
      exact r_iret C hG hr rfl dX0_single_288 h
    · have h := (if_inv h).2 c1
      refine lv_aload_n hx hb dX0_single_279 rfl (lv_at hl 1 rfl) ?_
      refine lv_iload_n hx hb dX0_single_280 rfl (lv_at hl 2 rfl) ?_
      refine r_callVI C hl.1 hG [.int v1] [] (IH.2.2.2.1 v1 g) LX0_64 rfl KC0 rfl (rm_ok (by omega) (by decide)) (Nat.le_of_ble_eq_true rfl) ⟨Nat.le_refl _, Nat.le_refl _⟩ rfl dX0_single_281 h (fun u2 H locs hG h => ?_)
      refine lv_if_ne (tgt := 289) hx hb dX0_single_284 (by decide) (fun c3 => ?_) (fun c3 => ?_)
      · have h := (if_inv h).2 c3
        refine lv_aload_n hx hb dX0_single_289 rfl (lv_at hl 1 rfl) ?_
        refine r_getA (j := 8) C hG FX0_15 rfl rfl dX0_single_290 ?_
        refine lv_iload_n hx hb dX0_single_293 rfl (lv_at hl 3 rfl) ?_
        refine lv_aload_n hx hb dX0_single_294 rfl (lv_at hl 1 rfl) ?_
        refine r_getI C hG FX0_24 rfl rfl dX0_single_295 ?_
        refine r_callVV C hl.1 hG [.int v3, .int (u2.2 13 2)] [] (m2_write E l 8 rfl v3 (u2.2 13 2) u2.2) LX0_51 rfl KC2 rfl (rm_ok (by omega) (by decide)) (Nat.le_of_ble_eq_true rfl) ⟨Nat.le_refl _, Nat.le_refl _⟩ rfl dX0_single_298 h (fun g4 H locs hG h => ?_)
        refine lv_iconst (v := 1) hx hb dX0_single_301 (by decide) ?_
        exact r_iret C hG hr rfl dX0_single_302 h
      · have h := (if_inv h).1 c3
        refine lv_iconst (v := 0) hx hb dX0_single_287 (by decide) ?_
        exact r_iret C hG hr rfl dX0_single_288 h
  refine lv_aload_n hx hb dX0_single_0 rfl (lv_at hl 0 rfl) ?_
  refine r_getA (j := 3) C hG FX0_9 rfl rfl dX0_single_1 ?_
  refine lv_aload_n hx hb dX0_single_4 rfl (lv_at hl 0 rfl) ?_
  refine r_getI C hG FX0_24 rfl rfl dX0_single_5 ?_
  refine r_callVIP C hl.1 hG [.int (g 13 2)] [] (m6_kindAt E l (g 13 2) g) LX0_39 rfl KC6 rfl (rm_ok (by omega) (by decide)) (Nat.le_of_ble_eq_true rfl) ⟨Nat.le_refl _, Nat.le_refl _⟩ rfl dX0_single_8 h (fun u5 H locs hG h => ?_)
  refine lv_istore_n (lv' := [(2, .int u5), (0, .ref (E.ad 13)), (1, .int a1)]) hx hb dX0_single_11 rfl hl (by decide) rfl (fun ls hl => ?_)
  refine lv_iload_n hx hb dX0_single_12 rfl (lv_at hl 0 rfl) ?_
  by_cases c6 : u5 = 91
  · have h := (if_inv h).1 c6
    refine lv_lookup (off := 87) (tgt := 100) hx hb dX0_single_13 (by decide +kernel) (by rw [c6]; decide +kernel) (by decide) ?_
    refine lv_iload_n hx hb dX0_single_100 rfl (lv_at hl 2 rfl) ?_
    refine lv_bipush (v := 8) hx hb dX0_single_101 (by decide) ?_
    refine lv_icmp_ge (tgt := 138) hx hb dX0_single_103 (by decide) (fun c7 => ?_) (fun c7 => ?_)
    · have h := (if_inv h).1 c7
      refine lv_iconst (v := 0) hx hb dX0_single_138 (by decide) ?_
      exact r_iret C hG hr rfl dX0_single_139 h
    · have h := (if_inv h).2 c7
      refine lv_aload_n hx hb dX0_single_106 rfl (lv_at hl 1 rfl) ?_
      refine lv_bipush (v := 91) hx hb dX0_single_107 (by decide) ?_
      refine r_callVI C hl.1 hG [.int 91] [] (m0_take E l 91 g) LX0_36 rfl KC0 rfl (rm_ok (by omega) (by decide)) (Nat.le_of_ble_eq_true rfl) ⟨Nat.le_refl _, Nat.le_refl _⟩ rfl dX0_single_109 h (fun u8 H locs hG h => ?_)
      refine lv_if_eq (tgt := 138) hx hb dX0_single_112 (by decide) (fun c9 => ?_) (fun c9 => ?_)
      · have h := (if_inv h).1 c9
        refine lv_iconst (v := 0) hx hb dX0_single_138 (by decide) ?_
        exact r_iret C hG hr rfl dX0_single_139 h
      · have h := (if_inv h).2 c9
        refine lv_aload_n hx hb dX0_single_115 rfl (lv_at hl 1 rfl) ?_
        refine lv_iload_n hx hb dX0_single_116 rfl (lv_at hl 2 rfl) ?_
        refine lv_iconst (v := 1) hx hb dX0_single_117 (by decide) ?_
        refine lv_iadd hx hb dX0_single_118 ?_
        refine r_callVI C hl.1 hG [.int (a1 + 1)] [] (IH.1 (a1 + 1) u8.2) LX0_55 rfl KC0 rfl (rm_ok (by omega) (by decide)) (Nat.le_of_ble_eq_true rfl) ⟨Nat.le_refl _, Nat.le_refl _⟩ rfl dX0_single_119 h (fun u10 H locs hG h => ?_)
        refine lv_if_eq (tgt := 138) hx hb dX0_single_122 (by decide) (fun c11 => ?_) (fun c11 => ?_)
        · have h := (if_inv h).1 c11
          refine lv_iconst (v := 0) hx hb dX0_single_138 (by decide) ?_
          exact r_iret C hG hr rfl dX0_single_139 h
        · have h := (if_inv h).2 c11
          refine lv_aload_n hx hb dX0_single_125 rfl (lv_at hl 1 rfl) ?_
          refine lv_bipush (v := 93) hx hb dX0_single_126 (by decide) ?_
          refine r_callVI C hl.1 hG [.int 93] [] (m0_take E l 93 u10.2) LX0_36 rfl KC0 rfl (rm_ok (by omega) (by decide)) (Nat.le_of_ble_eq_true rfl) ⟨Nat.le_refl _, Nat.le_refl _⟩ rfl dX0_single_128 h (fun u12 H locs hG h => ?_)
          refine lv_if_eq (tgt := 138) hx hb dX0_single_131 (by decide) (fun c13 => ?_) (fun c13 => ?_)
          · have h := (if_inv h).1 c13
            refine lv_iconst (v := 0) hx hb dX0_single_138 (by decide) ?_
            exact r_iret C hG hr rfl dX0_single_139 h
          · have h := (if_inv h).2 c13
            refine lv_iconst (v := 1) hx hb dX0_single_134 (by decide) ?_
            refine lv_goto (tgt := 139) hx hb dX0_single_135 (by decide) ?_
            exact r_iret C hG hr rfl dX0_single_139 h
  have h := (if_inv h).2 c6
  by_cases c14 : u5 = 147
  · have h := (if_inv h).1 c14
    refine lv_lookup (off := 127) (tgt := 140) hx hb dX0_single_13 (by decide +kernel) (by rw [c14]; decide +kernel) (by decide) ?_
    refine lv_aload_n hx hb dX0_single_140 rfl (lv_at hl 1 rfl) ?_
    refine r_getA (j := 8) C hG FX0_15 rfl rfl dX0_single_141 ?_
    refine lv_sipush (v := 147) hx hb dX0_single_144 (by decide) ?_
    refine lv_aload_n hx hb dX0_single_147 rfl (lv_at hl 1 rfl) ?_
    refine r_getI C hG FX0_24 rfl rfl dX0_single_148 ?_
    refine r_callVV C hl.1 hG [.int 147, .int (g 13 2)] [] (m2_write E l 8 rfl 147 (g 13 2) g) LX0_51 rfl KC2 rfl (rm_ok (by omega) (by decide)) (Nat.le_of_ble_eq_true rfl) ⟨Nat.le_refl _, Nat.le_refl _⟩ rfl dX0_single_151 h (fun g15 H locs hG h => ?_)
    refine lv_aload_n hx hb dX0_single_154 rfl (lv_at hl 1 rfl) ?_
    refine lv_sipush (v := 147) hx hb dX0_single_155 (by decide) ?_
    refine r_callVI C hl.1 hG [.int 147] [] (m0_take E l 147 g15) LX0_36 rfl KC0 rfl (rm_ok (by omega) (by decide)) (Nat.le_of_ble_eq_true rfl) ⟨Nat.le_refl _, Nat.le_refl _⟩ rfl dX0_single_158 h (fun u16 H locs hG h => ?_)
    exact r_zret C hG hr dX0_single_161 h
  have h := (if_inv h).2 c14
  by_cases c17 : u5 = 148
  · have h := (if_inv h).1 c17
    refine lv_lookup (off := 149) (tgt := 162) hx hb dX0_single_13 (by decide +kernel) (by rw [c17]; decide +kernel) (by decide) ?_
    refine lv_aload_n hx hb dX0_single_162 rfl (lv_at hl 1 rfl) ?_
    refine r_getA (j := 8) C hG FX0_15 rfl rfl dX0_single_163 ?_
    refine lv_sipush (v := 148) hx hb dX0_single_166 (by decide) ?_
    refine lv_aload_n hx hb dX0_single_169 rfl (lv_at hl 1 rfl) ?_
    refine r_getI C hG FX0_24 rfl rfl dX0_single_170 ?_
    refine lv_iconst (v := 1) hx hb dX0_single_173 (by decide) ?_
    refine lv_iadd hx hb dX0_single_174 ?_
    refine r_callVV C hl.1 hG [.int 148, .int ((g 13 2) + 1)] [] (m2_write E l 8 rfl 148 ((g 13 2) + 1) g) LX0_51 rfl KC2 rfl (rm_ok (by omega) (by decide)) (Nat.le_of_ble_eq_true rfl) ⟨Nat.le_refl _, Nat.le_refl _⟩ rfl dX0_single_175 h (fun g18 H locs hG h => ?_)
    refine lv_aload_n hx hb dX0_single_178 rfl (lv_at hl 1 rfl) ?_
    refine lv_sipush (v := 148) hx hb dX0_single_179 (by decide) ?_
    refine r_callVI C hl.1 hG [.int 148] [] (m0_take E l 148 g18) LX0_36 rfl KC0 rfl (rm_ok (by omega) (by decide)) (Nat.le_of_ble_eq_true rfl) ⟨Nat.le_refl _, Nat.le_refl _⟩ rfl dX0_single_182 h (fun u19 H locs hG h => ?_)
    refine lv_if_eq (tgt := 200) hx hb dX0_single_185 (by decide) (fun c20 => ?_) (fun c20 => ?_)
    · have h := (if_inv h).1 c20
      refine lv_iconst (v := 0) hx hb dX0_single_200 (by decide) ?_
      exact r_iret C hG hr rfl dX0_single_201 h
    · have h := (if_inv h).2 c20
      refine lv_aload_n hx hb dX0_single_188 rfl (lv_at hl 1 rfl) ?_
      refine lv_iconst (v := 2) hx hb dX0_single_189 (by decide) ?_
      refine r_callVI C hl.1 hG [.int 2] [] (m0_take E l 2 u19.2) LX0_36 rfl KC0 rfl (rm_ok (by omega) (by decide)) (Nat.le_of_ble_eq_true rfl) ⟨Nat.le_refl _, Nat.le_refl _⟩ rfl dX0_single_190 h (fun u21 H locs hG h => ?_)
      refine lv_if_eq (tgt := 200) hx hb dX0_single_193 (by decide) (fun c22 => ?_) (fun c22 => ?_)
      · have h := (if_inv h).1 c22
        refine lv_iconst (v := 0) hx hb dX0_single_200 (by decide) ?_
        exact r_iret C hG hr rfl dX0_single_201 h
      · have h := (if_inv h).2 c22
        refine lv_iconst (v := 1) hx hb dX0_single_196 (by decide) ?_
        refine lv_goto (tgt := 201) hx hb dX0_single_197 (by decide) ?_
        exact r_iret C hG hr rfl dX0_single_201 h
  have h := (if_inv h).2 c17
  by_cases c23 : u5 = 149
  · have h := (if_inv h).1 c23
    refine lv_lookup (off := 43) (tgt := 56) hx hb dX0_single_13 (by decide +kernel) (by rw [c23]; decide +kernel) (by decide) ?_
    refine lv_iload_n hx hb dX0_single_56 rfl (lv_at hl 2 rfl) ?_
    refine lv_bipush (v := 8) hx hb dX0_single_57 (by decide) ?_
    refine lv_icmp_ge (tgt := 82) hx hb dX0_single_59 (by decide) (fun c24 => ?_) (fun c24 => ?_)
    · have h := (if_inv h).1 c24
      refine lv_iconst (v := 0) hx hb dX0_single_82 (by decide) ?_
      exact r_iret C hG hr rfl dX0_single_83 h
    · have h := (if_inv h).2 c24
      refine lv_aload_n hx hb dX0_single_62 rfl (lv_at hl 1 rfl) ?_
      refine lv_sipush (v := 149) hx hb dX0_single_63 (by decide) ?_
      refine r_callVI C hl.1 hG [.int 149] [] (m0_take E l 149 g) LX0_36 rfl KC0 rfl (rm_ok (by omega) (by decide)) (Nat.le_of_ble_eq_true rfl) ⟨Nat.le_refl _, Nat.le_refl _⟩ rfl dX0_single_66 h (fun u25 H locs hG h => ?_)
      refine lv_if_eq (tgt := 82) hx hb dX0_single_69 (by decide) (fun c26 => ?_) (fun c26 => ?_)
      · have h := (if_inv h).1 c26
        refine lv_iconst (v := 0) hx hb dX0_single_82 (by decide) ?_
        exact r_iret C hG hr rfl dX0_single_83 h
      · have h := (if_inv h).2 c26
        refine lv_aload_n hx hb dX0_single_72 rfl (lv_at hl 1 rfl) ?_
        refine lv_iload_n hx hb dX0_single_73 rfl (lv_at hl 2 rfl) ?_
        refine lv_iconst (v := 1) hx hb dX0_single_74 (by decide) ?_
        refine lv_iadd hx hb dX0_single_75 ?_
        refine r_callVI C hl.1 hG [.int (a1 + 1)] [] (IH.2.2.1 (a1 + 1) u25.2) LX0_70 rfl KC0 rfl (rm_ok (by omega) (by decide)) (Nat.le_of_ble_eq_true rfl) ⟨Nat.le_refl _, Nat.le_refl _⟩ rfl dX0_single_76 h (fun u27 H locs hG h => ?_)
        refine lv_if_ne (tgt := 84) hx hb dX0_single_79 (by decide) (fun c28 => ?_) (fun c28 => ?_)
        · have h := (if_inv h).2 c28
          refine lv_aload_n hx hb dX0_single_84 rfl (lv_at hl 1 rfl) ?_
          refine r_getA (j := 8) C hG FX0_15 rfl rfl dX0_single_85 ?_
          refine lv_sipush (v := 149) hx hb dX0_single_88 (by decide) ?_
          refine lv_aload_n hx hb dX0_single_91 rfl (lv_at hl 1 rfl) ?_
          refine r_getI C hG FX0_24 rfl rfl dX0_single_92 ?_
          refine r_callVV C hl.1 hG [.int 149, .int (u27.2 13 2)] [] (m2_write E l 8 rfl 149 (u27.2 13 2) u27.2) LX0_51 rfl KC2 rfl (rm_ok (by omega) (by decide)) (Nat.le_of_ble_eq_true rfl) ⟨Nat.le_refl _, Nat.le_refl _⟩ rfl dX0_single_95 h (fun g29 H locs hG h => ?_)
          refine lv_iconst (v := 1) hx hb dX0_single_98 (by decide) ?_
          exact r_iret C hG hr rfl dX0_single_99 h
        · have h := (if_inv h).1 c28
          refine lv_iconst (v := 0) hx hb dX0_single_82 (by decide) ?_
          exact r_iret C hG hr rfl dX0_single_83 h
  have h := (if_inv h).2 c23
  refine lv_lookup (off := 189) (tgt := 202) hx hb dX0_single_13 (by decide +kernel) (lk_def _ _ _ (fa_c (nei c6 (by decide)) (fa_c (nei c14 (by decide)) (fa_c (nei c17 (by decide)) (fa_c (nei c23 (by decide)) fa_n))))) (by decide) ?_
  refine lv_aload_n hx hb dX0_single_202 rfl (lv_at hl 1 rfl) ?_
  refine lv_iload_n hx hb dX0_single_203 rfl (lv_at hl 2 rfl) ?_
  refine r_callVI C hl.1 hG [.int a1] [] (IH.2.2.2.1 a1 g) LX0_64 rfl KC0 rfl (rm_ok (by omega) (by decide)) (Nat.le_of_ble_eq_true rfl) ⟨Nat.le_refl _, Nat.le_refl _⟩ rfl dX0_single_204 h (fun u30 H locs hG h => ?_)
  refine lv_if_ne (tgt := 212) hx hb dX0_single_207 (by decide) (fun c31 => ?_) (fun c31 => ?_)
  · have h := (if_inv h).2 c31
    refine lv_aload_n hx hb dX0_single_212 rfl (lv_at hl 1 rfl) ?_
    refine r_getA (j := 3) C hG FX0_9 rfl rfl dX0_single_213 ?_
    refine lv_aload_n hx hb dX0_single_216 rfl (lv_at hl 1 rfl) ?_
    refine r_getI C hG FX0_24 rfl rfl dX0_single_217 ?_
    refine r_callVIP C hl.1 hG [.int (u30.2 13 2)] [] (m6_kindAt E l (u30.2 13 2) u30.2) LX0_39 rfl KC6 rfl (rm_ok (by omega) (by decide)) (Nat.le_of_ble_eq_true rfl) ⟨Nat.le_refl _, Nat.le_refl _⟩ rfl dX0_single_220 h (fun u32 H locs hG h => ?_)
    refine lv_istore_n (lv' := [(3, .int u32), (2, .int u5), (0, .ref (E.ad 13)), (1, .int a1)]) hx hb dX0_single_223 rfl hl (by decide) rfl (fun ls hl => ?_)
    refine lv_aload_n hx hb dX0_single_224 rfl (lv_at hl 2 rfl) ?_
    refine lv_bipush (v := 60) hx hb dX0_single_225 (by decide) ?_
    refine r_callVI C hl.1 hG [.int 60] [] (m0_take E l 60 u30.2) LX0_36 rfl KC0 rfl (rm_ok (by omega) (by decide)) (Nat.le_of_ble_eq_true rfl) ⟨Nat.le_refl _, Nat.le_refl _⟩ rfl dX0_single_227 h (fun u33 H locs hG h => ?_)
    refine lv_if_ne (tgt := 267) hx hb dX0_single_230 (by decide) (fun c34 => ?_) (fun c34 => ?_)
    · have h := (if_inv h).2 c34
      refine lv_iconst (v := 1) hx hb dX0_single_267 (by decide) ?_
      refine lv_goto (tgt := 272) hx hb dX0_single_268 (by decide) ?_
      exact j272 a1 u32 1 u33.2 _ _ _ hG (lv_sub hl [2, 3, 0] rfl) h
    · have h := (if_inv h).1 c34
      refine lv_aload_n hx hb dX0_single_233 rfl (lv_at hl 2 rfl) ?_
      refine lv_bipush (v := 62) hx hb dX0_single_234 (by decide) ?_
      refine r_callVI C hl.1 hG [.int 62] [] (m0_take E l 62 u33.2) LX0_36 rfl KC0 rfl (rm_ok (by omega) (by decide)) (Nat.le_of_ble_eq_true rfl) ⟨Nat.le_refl _, Nat.le_refl _⟩ rfl dX0_single_236 h (fun u35 H locs hG h => ?_)
      refine lv_if_ne (tgt := 267) hx hb dX0_single_239 (by decide) (fun c36 => ?_) (fun c36 => ?_)
      · have h := (if_inv h).2 c36
        refine lv_iconst (v := 1) hx hb dX0_single_267 (by decide) ?_
        refine lv_goto (tgt := 272) hx hb dX0_single_268 (by decide) ?_
        exact j272 a1 u32 1 u35.2 _ _ _ hG (lv_sub hl [2, 3, 0] rfl) h
      · have h := (if_inv h).1 c36
        refine lv_aload_n hx hb dX0_single_242 rfl (lv_at hl 2 rfl) ?_
        refine lv_bipush (v := 61) hx hb dX0_single_243 (by decide) ?_
        refine r_callVI C hl.1 hG [.int 61] [] (m0_take E l 61 u35.2) LX0_36 rfl KC0 rfl (rm_ok (by omega) (by decide)) (Nat.le_of_ble_eq_true rfl) ⟨Nat.le_refl _, Nat.le_refl _⟩ rfl dX0_single_245 h (fun u37 H locs hG h => ?_)
        refine lv_if_ne (tgt := 267) hx hb dX0_single_248 (by decide) (fun c38 => ?_) (fun c38 => ?_)
        · have h := (if_inv h).2 c38
          refine lv_iconst (v := 1) hx hb dX0_single_267 (by decide) ?_
          refine lv_goto (tgt := 272) hx hb dX0_single_268 (by decide) ?_
          exact j272 a1 u32 1 u37.2 _ _ _ hG (lv_sub hl [2, 3, 0] rfl) h
        · have h := (if_inv h).1 c38
          refine lv_aload_n hx hb dX0_single_251 rfl (lv_at hl 2 rfl) ?_
          refine lv_iconst (v := 4) hx hb dX0_single_252 (by decide) ?_
          refine r_callVI C hl.1 hG [.int 4] [] (m0_take E l 4 u37.2) LX0_36 rfl KC0 rfl (rm_ok (by omega) (by decide)) (Nat.le_of_ble_eq_true rfl) ⟨Nat.le_refl _, Nat.le_refl _⟩ rfl dX0_single_253 h (fun u39 H locs hG h => ?_)
          refine lv_if_ne (tgt := 267) hx hb dX0_single_256 (by decide) (fun c40 => ?_) (fun c40 => ?_)
          · have h := (if_inv h).2 c40
            refine lv_iconst (v := 1) hx hb dX0_single_267 (by decide) ?_
            refine lv_goto (tgt := 272) hx hb dX0_single_268 (by decide) ?_
            exact j272 a1 u32 1 u39.2 _ _ _ hG (lv_sub hl [2, 3, 0] rfl) h
          · have h := (if_inv h).1 c40
            refine lv_aload_n hx hb dX0_single_259 rfl (lv_at hl 2 rfl) ?_
            refine lv_iconst (v := 5) hx hb dX0_single_260 (by decide) ?_
            refine r_callVI C hl.1 hG [.int 5] [] (m0_take E l 5 u39.2) LX0_36 rfl KC0 rfl (rm_ok (by omega) (by decide)) (Nat.le_of_ble_eq_true rfl) ⟨Nat.le_refl _, Nat.le_refl _⟩ rfl dX0_single_261 h (fun u41 H locs hG h => ?_)
            refine lv_if_eq (tgt := 271) hx hb dX0_single_264 (by decide) (fun c42 => ?_) (fun c42 => ?_)
            · have h := (if_inv h).1 c42
              refine lv_iconst (v := 0) hx hb dX0_single_271 (by decide) ?_
              exact j272 a1 u32 0 u41.2 _ _ _ hG (lv_sub hl [2, 3, 0] rfl) h
            · have h := (if_inv h).2 c42
              refine lv_iconst (v := 1) hx hb dX0_single_267 (by decide) ?_
              refine lv_goto (tgt := 272) hx hb dX0_single_268 (by decide) ?_
              exact j272 a1 u32 1 u41.2 _ _ _ hG (lv_sub hl [2, 3, 0] rfl) h
  · have h := (if_inv h).1 c31
    refine lv_iconst (v := 0) hx hb dX0_single_210 (by decide) ?_
    exact r_iret C hG hr rfl dX0_single_211 h
def k0_sum_37 (R : Nat → Int32 → Int32 → G → Option (Int32 × G))  (K12 : Int32 → Int32 → G → Option (Int32 × G)) (v1 : Int32) (v2 : Int32) (g : G) : Option (Int32 × G) :=
      (k6_kindAt (g 13 2) g).bind fun u1 =>
      bd (up g 13 2 ((g 13 2) + 1)) fun g2 =>
      (R 4 v1 0 g2).bind fun u3 =>
      if u3.1 = 0 then
        some (0, u3.2)
      else
        (k2_write 8 u1 (u3.2 13 2) u3.2).bind fun g5 =>
        bd (v2 + 1) fun x6 =>
        K12 v1 x6 g5
def k0_sum_12 (R : Nat → Int32 → Int32 → G → Option (Int32 × G))  : Nat → Int32 → Int32 → G → Option (Int32 × G)
  | 0, _, _, _ => none
  | f + 1, v1, v2, g =>
        if 400 ≤ v2 then
          some (1, g)
        else
          (k0_isNext 43 g).bind fun u8 =>
          if u8 = 0 then
            (k0_isNext 45 g).bind fun u10 =>
            if u10 = 0 then
              some (1, g)
            else
              k0_sum_37 R (k0_sum_12 R f) v1 v2 g
          else
            k0_sum_37 R (k0_sum_12 R f) v1 v2 g
def kb0_sum (R : Nat → Int32 → Int32 → G → Option (Int32 × G))  (a1 : Int32) (g : G) : Option (Int32 × G) :=
  (R 4 a1 0 g).bind fun u12 =>
  if u12.1 = 0 then
    some (0, u12.2)
  else
    k0_sum_12 R FU a1 0 u12.2
set_option maxRecDepth 100000 in
set_option maxHeartbeats 4000000 in
theorem m0_sum_b (E : EV) (l : Launch) (d : Nat) (R : Nat → Int32 → Int32 → G → Option (Int32 × G)) (IH : SG0 E l R d) (a1 : Int32) (g : G) : ∀ u, kb0_sum R a1 g = some u → MI E l yX0_sum cX0_sum 4 (some .boolean) (2 + d + 1) 0 0 [.ref (E.ad 13), .int a1] g u := by
  intro u h
  refine MG.of (by decide +kernel) (Nat.le_of_ble_eq_true rfl) ?_
  intro p e s m args below meth c C hr hnm ls hl hG
  have C : Cx p s m args meth c cX0_sum 4 RX0 E := C
  have hx := C.1
  have hb := C.2.1
  have hl : lv_has ls 4 [(0, .ref (E.ad 13)), (1, .int a1)] := hl
  unfold kb0_sum at h
  have j37 : ∀ (K12 : Int32 → Int32 → G → Option (Int32 × G)), (∀ (v1 : Int32) (v2 : Int32) (g : G) (H : Heap) (locs : List Loc) (ls : Array Slot), Gd E s H locs g [] → lv_has ls 4 [(0, .ref (E.ad 13)), (1, .int v1), (2, .int v2)] → K12 v1 v2 g = some u → W p l e (rmD (2 + d + 1) 0 0) s m args below meth c H locs 0 0 (MQ below (QI E s.heap.size u.1 u.2) args s 0 0 (AA E s.heap.size)) (F0 m 12 ls [])) → ∀ (v1 : Int32) (v2 : Int32) (g : G) (H : Heap) (locs : List Loc) (ls : Array Slot), Gd E s H locs g [] → lv_has ls 4 [(0, .ref (E.ad 13)), (1, .int v1), (2, .int v2)] → k0_sum_37 R K12 v1 v2 g = some u → W p l e (rmD (2 + d + 1) 0 0) s m args below meth c H locs 0 0 (MQ below (QI E s.heap.size u.1 u.2) args s 0 0 (AA E s.heap.size)) (F0 m 37 ls []) := by
    intro K12 hK12 v1 v2 g H locs ls hG hl h
    unfold k0_sum_37 at h
    refine lv_aload_n hx hb dX0_sum_37 rfl (lv_at hl 0 rfl) ?_
    refine r_getA (j := 3) C hG FX0_9 rfl rfl dX0_sum_38 ?_
    refine lv_aload_n hx hb dX0_sum_41 rfl (lv_at hl 0 rfl) ?_
    refine r_getI C hG FX0_24 rfl rfl dX0_sum_42 ?_
    refine r_callVIP C hl.1 hG [.int (g 13 2)] [] (m6_kindAt E l (g 13 2) g) LX0_39 rfl KC6 rfl (rm_ok (by omega) (by decide)) (Nat.le_of_ble_eq_true rfl) ⟨Nat.le_refl _, Nat.le_refl _⟩ rfl dX0_sum_45 h (fun u1 H locs hG h => ?_)
    refine lv_istore_n (lv' := [(3, .int u1), (0, .ref (E.ad 13)), (1, .int v1), (2, .int v2)]) hx hb dX0_sum_48 rfl hl (by decide) rfl (fun ls hl => ?_)
    refine lv_aload_n hx hb dX0_sum_49 rfl (lv_at hl 1 rfl) ?_
    refine lv_dup hx hb dX0_sum_50 rfl ?_
    refine r_getI C hG FX0_24 rfl rfl dX0_sum_51 ?_
    refine lv_iconst (v := 1) hx hb dX0_sum_54 (by decide) ?_
    refine lv_iadd hx hb dX0_sum_55 ?_
    refine r_putI C hG FX0_24 rfl rfl dX0_sum_56 h (fun H locs g2 hG h => ?_)
    refine lv_aload_n hx hb dX0_sum_59 rfl (lv_at hl 1 rfl) ?_
    refine lv_iload_n hx hb dX0_sum_60 rfl (lv_at hl 2 rfl) ?_
    refine r_callVI C hl.1 hG [.int v1] [] (IH.2.2.2.2.1 v1 g2) LX0_73 rfl KC0 rfl (rm_ok (by omega) (by decide)) (Nat.le_of_ble_eq_true rfl) ⟨Nat.le_refl _, Nat.le_refl _⟩ rfl dX0_sum_61 h (fun u3 H locs hG h => ?_)
    refine lv_if_ne (tgt := 69) hx hb dX0_sum_64 (by decide) (fun c4 => ?_) (fun c4 => ?_)
    · have h := (if_inv h).2 c4
      refine lv_aload_n hx hb dX0_sum_69 rfl (lv_at hl 1 rfl) ?_
      refine r_getA (j := 8) C hG FX0_15 rfl rfl dX0_sum_70 ?_
      refine lv_iload_n hx hb dX0_sum_73 rfl (lv_at hl 0 rfl) ?_
      refine lv_aload_n hx hb dX0_sum_74 rfl (lv_at hl 1 rfl) ?_
      refine r_getI C hG FX0_24 rfl rfl dX0_sum_75 ?_
      refine r_callVV C hl.1 hG [.int u1, .int (u3.2 13 2)] [] (m2_write E l 8 rfl u1 (u3.2 13 2) u3.2) LX0_51 rfl KC2 rfl (rm_ok (by omega) (by decide)) (Nat.le_of_ble_eq_true rfl) ⟨Nat.le_refl _, Nat.le_refl _⟩ rfl dX0_sum_78 h (fun g5 H locs hG h => ?_)
      refine r_iinc (w := 1) (lv' := fun x6 => [(2, .int x6), (3, .int u1), (0, .ref (E.ad 13)), (1, .int v1)]) C dX0_sum_81 hl (k := 3) rfl (by decide) (by decide) (fun _ => rfl) h (fun x6 ls hl h => ?_)
      refine lv_goto (tgt := 12) hx hb dX0_sum_84 (by decide) ?_
      exact hK12 v1 x6 g5 _ _ _ hG (lv_sub hl [2, 3, 0] rfl) h
    · have h := (if_inv h).1 c4
      refine lv_iconst (v := 0) hx hb dX0_sum_67 (by decide) ?_
      exact r_iret C hG hr rfl dX0_sum_68 h
  have j12 : ∀ f : Nat, ∀ (v1 : Int32) (v2 : Int32) (g : G) (H : Heap) (locs : List Loc) (ls : Array Slot), Gd E s H locs g [] → lv_has ls 4 [(0, .ref (E.ad 13)), (1, .int v1), (2, .int v2)] → k0_sum_12 R f v1 v2 g = some u → W p l e (rmD (2 + d + 1) 0 0) s m args below meth c H locs 0 0 (MQ below (QI E s.heap.size u.1 u.2) args s 0 0 (AA E s.heap.size)) (F0 m 12 ls []) := by
    intro f
    induction f with
    | zero =>
      intro v1 v2 g H locs ls hG hl h
      unfold k0_sum_12 at h
      cases h
    | succ f ih =>
      intro v1 v2 g H locs ls hG hl h
      unfold k0_sum_12 at h
      refine lv_iload_n hx hb dX0_sum_12 rfl (lv_at hl 2 rfl) ?_
      refine lv_sipush (v := 400) hx hb dX0_sum_13 (by decide) ?_
      refine lv_icmp_ge (tgt := 87) hx hb dX0_sum_16 (by decide) (fun c7 => ?_) (fun c7 => ?_)
      · have h := (if_inv h).1 c7
        refine lv_iconst (v := 1) hx hb dX0_sum_87 (by decide) ?_
        exact r_iret C hG hr rfl dX0_sum_88 h
      · have h := (if_inv h).2 c7
        refine lv_aload_n hx hb dX0_sum_19 rfl (lv_at hl 0 rfl) ?_
        refine lv_bipush (v := 43) hx hb dX0_sum_20 (by decide) ?_
        refine r_callVIP C hl.1 hG [.int 43] [] (m0_isNext E l 43 g) LX0_28 rfl KC0 rfl (rm_ok (by omega) (by decide)) (Nat.le_of_ble_eq_true rfl) ⟨Nat.le_refl _, Nat.le_refl _⟩ rfl dX0_sum_22 h (fun u8 H locs hG h => ?_)
        refine lv_if_ne (tgt := 37) hx hb dX0_sum_25 (by decide) (fun c9 => ?_) (fun c9 => ?_)
        · have h := (if_inv h).2 c9
          exact j37 (k0_sum_12 R f) ih v1 v2 g _ _ _ hG (lv_sub hl [0, 1, 2] rfl) h
        · have h := (if_inv h).1 c9
          refine lv_aload_n hx hb dX0_sum_28 rfl (lv_at hl 0 rfl) ?_
          refine lv_bipush (v := 45) hx hb dX0_sum_29 (by decide) ?_
          refine r_callVIP C hl.1 hG [.int 45] [] (m0_isNext E l 45 g) LX0_28 rfl KC0 rfl (rm_ok (by omega) (by decide)) (Nat.le_of_ble_eq_true rfl) ⟨Nat.le_refl _, Nat.le_refl _⟩ rfl dX0_sum_31 h (fun u10 H locs hG h => ?_)
          refine lv_if_eq (tgt := 87) hx hb dX0_sum_34 (by decide) (fun c11 => ?_) (fun c11 => ?_)
          · have h := (if_inv h).1 c11
            refine lv_iconst (v := 1) hx hb dX0_sum_87 (by decide) ?_
            exact r_iret C hG hr rfl dX0_sum_88 h
          · have h := (if_inv h).2 c11
            exact j37 (k0_sum_12 R f) ih v1 v2 g _ _ _ hG (lv_sub hl [0, 1, 2] rfl) h
  refine lv_aload_n hx hb dX0_sum_0 rfl (lv_at hl 0 rfl) ?_
  refine lv_iload_n hx hb dX0_sum_1 rfl (lv_at hl 1 rfl) ?_
  refine r_callVI C hl.1 hG [.int a1] [] (IH.2.2.2.2.1 a1 g) LX0_73 rfl KC0 rfl (rm_ok (by omega) (by decide)) (Nat.le_of_ble_eq_true rfl) ⟨Nat.le_refl _, Nat.le_refl _⟩ rfl dX0_sum_2 h (fun u12 H locs hG h => ?_)
  refine lv_if_ne (tgt := 10) hx hb dX0_sum_5 (by decide) (fun c13 => ?_) (fun c13 => ?_)
  · have h := (if_inv h).2 c13
    refine lv_iconst (v := 0) hx hb dX0_sum_10 (by decide) ?_
    refine lv_istore_n (lv' := [(2, .int 0), (0, .ref (E.ad 13)), (1, .int a1)]) hx hb dX0_sum_11 rfl hl (by decide) rfl (fun ls hl => ?_)
    exact j12 FU a1 0 u12.2 _ _ _ hG (lv_sub hl [1, 2, 0] rfl) h
  · have h := (if_inv h).1 c13
    refine lv_iconst (v := 0) hx hb dX0_sum_8 (by decide) ?_
    exact r_iret C hG hr rfl dX0_sum_9 h
def k0_product_37 (R : Nat → Int32 → Int32 → G → Option (Int32 × G))  (K12 : Int32 → Int32 → G → Option (Int32 × G)) (v1 : Int32) (v2 : Int32) (g : G) : Option (Int32 × G) :=
      (k6_kindAt (g 13 2) g).bind fun u1 =>
      bd (up g 13 2 ((g 13 2) + 1)) fun g2 =>
      (R 5 v1 0 g2).bind fun u3 =>
      if u3.1 = 0 then
        some (0, u3.2)
      else
        (k2_write 8 u1 (u3.2 13 2) u3.2).bind fun g5 =>
        bd (v2 + 1) fun x6 =>
        K12 v1 x6 g5
def k0_product_12 (R : Nat → Int32 → Int32 → G → Option (Int32 × G))  : Nat → Int32 → Int32 → G → Option (Int32 × G)
  | 0, _, _, _ => none
  | f + 1, v1, v2, g =>
        if 400 ≤ v2 then
          some (1, g)
        else
          (k0_isNext 42 g).bind fun u8 =>
          if u8 = 0 then
            (k0_isNext 47 g).bind fun u10 =>
            if u10 = 0 then
              some (1, g)
            else
              k0_product_37 R (k0_product_12 R f) v1 v2 g
          else
            k0_product_37 R (k0_product_12 R f) v1 v2 g
def kb0_product (R : Nat → Int32 → Int32 → G → Option (Int32 × G))  (a1 : Int32) (g : G) : Option (Int32 × G) :=
  (R 5 a1 0 g).bind fun u12 =>
  if u12.1 = 0 then
    some (0, u12.2)
  else
    k0_product_12 R FU a1 0 u12.2
set_option maxRecDepth 100000 in
set_option maxHeartbeats 4000000 in
theorem m0_product_b (E : EV) (l : Launch) (d : Nat) (R : Nat → Int32 → Int32 → G → Option (Int32 × G)) (IH : SG0 E l R d) (a1 : Int32) (g : G) : ∀ u, kb0_product R a1 g = some u → MI E l yX0_product cX0_product 4 (some .boolean) (2 + d + 1) 0 0 [.ref (E.ad 13), .int a1] g u := by
  intro u h
  refine MG.of (by decide +kernel) (Nat.le_of_ble_eq_true rfl) ?_
  intro p e s m args below meth c C hr hnm ls hl hG
  have C : Cx p s m args meth c cX0_product 4 RX0 E := C
  have hx := C.1
  have hb := C.2.1
  have hl : lv_has ls 4 [(0, .ref (E.ad 13)), (1, .int a1)] := hl
  unfold kb0_product at h
  have j37 : ∀ (K12 : Int32 → Int32 → G → Option (Int32 × G)), (∀ (v1 : Int32) (v2 : Int32) (g : G) (H : Heap) (locs : List Loc) (ls : Array Slot), Gd E s H locs g [] → lv_has ls 4 [(0, .ref (E.ad 13)), (1, .int v1), (2, .int v2)] → K12 v1 v2 g = some u → W p l e (rmD (2 + d + 1) 0 0) s m args below meth c H locs 0 0 (MQ below (QI E s.heap.size u.1 u.2) args s 0 0 (AA E s.heap.size)) (F0 m 12 ls [])) → ∀ (v1 : Int32) (v2 : Int32) (g : G) (H : Heap) (locs : List Loc) (ls : Array Slot), Gd E s H locs g [] → lv_has ls 4 [(0, .ref (E.ad 13)), (1, .int v1), (2, .int v2)] → k0_product_37 R K12 v1 v2 g = some u → W p l e (rmD (2 + d + 1) 0 0) s m args below meth c H locs 0 0 (MQ below (QI E s.heap.size u.1 u.2) args s 0 0 (AA E s.heap.size)) (F0 m 37 ls []) := by
    intro K12 hK12 v1 v2 g H locs ls hG hl h
    unfold k0_product_37 at h
    refine lv_aload_n hx hb dX0_product_37 rfl (lv_at hl 0 rfl) ?_
    refine r_getA (j := 3) C hG FX0_9 rfl rfl dX0_product_38 ?_
    refine lv_aload_n hx hb dX0_product_41 rfl (lv_at hl 0 rfl) ?_
    refine r_getI C hG FX0_24 rfl rfl dX0_product_42 ?_
    refine r_callVIP C hl.1 hG [.int (g 13 2)] [] (m6_kindAt E l (g 13 2) g) LX0_39 rfl KC6 rfl (rm_ok (by omega) (by decide)) (Nat.le_of_ble_eq_true rfl) ⟨Nat.le_refl _, Nat.le_refl _⟩ rfl dX0_product_45 h (fun u1 H locs hG h => ?_)
    refine lv_istore_n (lv' := [(3, .int u1), (0, .ref (E.ad 13)), (1, .int v1), (2, .int v2)]) hx hb dX0_product_48 rfl hl (by decide) rfl (fun ls hl => ?_)
    refine lv_aload_n hx hb dX0_product_49 rfl (lv_at hl 1 rfl) ?_
    refine lv_dup hx hb dX0_product_50 rfl ?_
    refine r_getI C hG FX0_24 rfl rfl dX0_product_51 ?_
    refine lv_iconst (v := 1) hx hb dX0_product_54 (by decide) ?_
    refine lv_iadd hx hb dX0_product_55 ?_
    refine r_putI C hG FX0_24 rfl rfl dX0_product_56 h (fun H locs g2 hG h => ?_)
    refine lv_aload_n hx hb dX0_product_59 rfl (lv_at hl 1 rfl) ?_
    refine lv_iload_n hx hb dX0_product_60 rfl (lv_at hl 2 rfl) ?_
    refine r_callVI C hl.1 hG [.int v1] [] (IH.2.2.2.2.2.1 v1 g2) LX0_76 rfl KC0 rfl (rm_ok (by omega) (by decide)) (Nat.le_of_ble_eq_true rfl) ⟨Nat.le_refl _, Nat.le_refl _⟩ rfl dX0_product_61 h (fun u3 H locs hG h => ?_)
    refine lv_if_ne (tgt := 69) hx hb dX0_product_64 (by decide) (fun c4 => ?_) (fun c4 => ?_)
    · have h := (if_inv h).2 c4
      refine lv_aload_n hx hb dX0_product_69 rfl (lv_at hl 1 rfl) ?_
      refine r_getA (j := 8) C hG FX0_15 rfl rfl dX0_product_70 ?_
      refine lv_iload_n hx hb dX0_product_73 rfl (lv_at hl 0 rfl) ?_
      refine lv_aload_n hx hb dX0_product_74 rfl (lv_at hl 1 rfl) ?_
      refine r_getI C hG FX0_24 rfl rfl dX0_product_75 ?_
      refine r_callVV C hl.1 hG [.int u1, .int (u3.2 13 2)] [] (m2_write E l 8 rfl u1 (u3.2 13 2) u3.2) LX0_51 rfl KC2 rfl (rm_ok (by omega) (by decide)) (Nat.le_of_ble_eq_true rfl) ⟨Nat.le_refl _, Nat.le_refl _⟩ rfl dX0_product_78 h (fun g5 H locs hG h => ?_)
      refine r_iinc (w := 1) (lv' := fun x6 => [(2, .int x6), (3, .int u1), (0, .ref (E.ad 13)), (1, .int v1)]) C dX0_product_81 hl (k := 3) rfl (by decide) (by decide) (fun _ => rfl) h (fun x6 ls hl h => ?_)
      refine lv_goto (tgt := 12) hx hb dX0_product_84 (by decide) ?_
      exact hK12 v1 x6 g5 _ _ _ hG (lv_sub hl [2, 3, 0] rfl) h
    · have h := (if_inv h).1 c4
      refine lv_iconst (v := 0) hx hb dX0_product_67 (by decide) ?_
      exact r_iret C hG hr rfl dX0_product_68 h
  have j12 : ∀ f : Nat, ∀ (v1 : Int32) (v2 : Int32) (g : G) (H : Heap) (locs : List Loc) (ls : Array Slot), Gd E s H locs g [] → lv_has ls 4 [(0, .ref (E.ad 13)), (1, .int v1), (2, .int v2)] → k0_product_12 R f v1 v2 g = some u → W p l e (rmD (2 + d + 1) 0 0) s m args below meth c H locs 0 0 (MQ below (QI E s.heap.size u.1 u.2) args s 0 0 (AA E s.heap.size)) (F0 m 12 ls []) := by
    intro f
    induction f with
    | zero =>
      intro v1 v2 g H locs ls hG hl h
      unfold k0_product_12 at h
      cases h
    | succ f ih =>
      intro v1 v2 g H locs ls hG hl h
      unfold k0_product_12 at h
      refine lv_iload_n hx hb dX0_product_12 rfl (lv_at hl 2 rfl) ?_
      refine lv_sipush (v := 400) hx hb dX0_product_13 (by decide) ?_
      refine lv_icmp_ge (tgt := 87) hx hb dX0_product_16 (by decide) (fun c7 => ?_) (fun c7 => ?_)
      · have h := (if_inv h).1 c7
        refine lv_iconst (v := 1) hx hb dX0_product_87 (by decide) ?_
        exact r_iret C hG hr rfl dX0_product_88 h
      · have h := (if_inv h).2 c7
        refine lv_aload_n hx hb dX0_product_19 rfl (lv_at hl 0 rfl) ?_
        refine lv_bipush (v := 42) hx hb dX0_product_20 (by decide) ?_
        refine r_callVIP C hl.1 hG [.int 42] [] (m0_isNext E l 42 g) LX0_28 rfl KC0 rfl (rm_ok (by omega) (by decide)) (Nat.le_of_ble_eq_true rfl) ⟨Nat.le_refl _, Nat.le_refl _⟩ rfl dX0_product_22 h (fun u8 H locs hG h => ?_)
        refine lv_if_ne (tgt := 37) hx hb dX0_product_25 (by decide) (fun c9 => ?_) (fun c9 => ?_)
        · have h := (if_inv h).2 c9
          exact j37 (k0_product_12 R f) ih v1 v2 g _ _ _ hG (lv_sub hl [0, 1, 2] rfl) h
        · have h := (if_inv h).1 c9
          refine lv_aload_n hx hb dX0_product_28 rfl (lv_at hl 0 rfl) ?_
          refine lv_bipush (v := 47) hx hb dX0_product_29 (by decide) ?_
          refine r_callVIP C hl.1 hG [.int 47] [] (m0_isNext E l 47 g) LX0_28 rfl KC0 rfl (rm_ok (by omega) (by decide)) (Nat.le_of_ble_eq_true rfl) ⟨Nat.le_refl _, Nat.le_refl _⟩ rfl dX0_product_31 h (fun u10 H locs hG h => ?_)
          refine lv_if_eq (tgt := 87) hx hb dX0_product_34 (by decide) (fun c11 => ?_) (fun c11 => ?_)
          · have h := (if_inv h).1 c11
            refine lv_iconst (v := 1) hx hb dX0_product_87 (by decide) ?_
            exact r_iret C hG hr rfl dX0_product_88 h
          · have h := (if_inv h).2 c11
            exact j37 (k0_product_12 R f) ih v1 v2 g _ _ _ hG (lv_sub hl [0, 1, 2] rfl) h
  refine lv_aload_n hx hb dX0_product_0 rfl (lv_at hl 0 rfl) ?_
  refine lv_iload_n hx hb dX0_product_1 rfl (lv_at hl 1 rfl) ?_
  refine r_callVI C hl.1 hG [.int a1] [] (IH.2.2.2.2.2.1 a1 g) LX0_76 rfl KC0 rfl (rm_ok (by omega) (by decide)) (Nat.le_of_ble_eq_true rfl) ⟨Nat.le_refl _, Nat.le_refl _⟩ rfl dX0_product_2 h (fun u12 H locs hG h => ?_)
  refine lv_if_ne (tgt := 10) hx hb dX0_product_5 (by decide) (fun c13 => ?_) (fun c13 => ?_)
  · have h := (if_inv h).2 c13
    refine lv_iconst (v := 0) hx hb dX0_product_10 (by decide) ?_
    refine lv_istore_n (lv' := [(2, .int 0), (0, .ref (E.ad 13)), (1, .int a1)]) hx hb dX0_product_11 rfl hl (by decide) rfl (fun ls hl => ?_)
    exact j12 FU a1 0 u12.2 _ _ _ hG (lv_sub hl [1, 2, 0] rfl) h
  · have h := (if_inv h).1 c13
    refine lv_iconst (v := 0) hx hb dX0_product_8 (by decide) ?_
    exact r_iret C hG hr rfl dX0_product_9 h
def k0_value_128 (R : Nat → Int32 → Int32 → G → Option (Int32 × G))  (v2 : Int32) (g : G) : Option (Int32 × G) :=
      (k2_write 8 v2 (g 13 2) g).bind fun g1 =>
      (k0_take v2 g1).bind fun u2 =>
      zr u2.1 u2.2
def k0_value_146 (R : Nat → Int32 → Int32 → G → Option (Int32 × G))  (v2 : Int32) (g : G) : Option (Int32 × G) :=
      (k2_write 8 v2 ((g 13 2) + 2) g).bind fun g3 =>
      (k0_take v2 g3).bind fun u4 =>
      if u4.1 = 0 then
        some (0, u4.2)
      else
        (k0_take 146 u4.2).bind fun u6 =>
        if u6.1 = 0 then
          some (0, u6.2)
        else
          (k0_take 2 u6.2).bind fun u8 =>
          if u8.1 = 0 then
            some (0, u8.2)
          else
            some (1, u8.2)
def k0_value_274 (R : Nat → Int32 → Int32 → G → Option (Int32 × G))  (v1 : Int32) (v2 : Int32) (g : G) : Option (Int32 × G) :=
      (k0_take v2 g).bind fun u10 =>
      if u10.1 = 0 then
        some (0, u10.2)
      else
        (R 6 v2 v1 u10.2).bind fun u12 =>
        if u12.1 = 0 then
          some (0, u12.2)
        else
          some (1, u12.2)
def kb0_value (R : Nat → Int32 → Int32 → G → Option (Int32 × G))  (a1 : Int32) (g : G) : Option (Int32 × G) :=
  (k6_kindAt (g 13 2) g).bind fun u14 =>
  if u14 = 3 then
    k0_value_128 R u14 g
  else
  if u14 = 40 then
    if 8 ≤ a1 then
      some (0, g)
    else
      (k0_take 40 g).bind fun u18 =>
      if u18.1 = 0 then
        some (0, u18.2)
      else
        (R 3 (a1 + 1) 0 u18.2).bind fun u20 =>
        if u20.1 = 0 then
          some (0, u20.2)
        else
          (k0_take 41 u20.2).bind fun u22 =>
          if u22.1 = 0 then
            some (0, u22.2)
          else
            some (1, u22.2)
  else
  if u14 = 45 then
    if 8 ≤ a1 then
      some (0, g)
    else
      (k0_take 45 g).bind fun u26 =>
      if u26.1 = 0 then
        some (0, u26.2)
      else
        (R 5 (a1 + 1) 0 u26.2).bind fun u28 =>
        if u28.1 = 0 then
          some (0, u28.2)
        else
          (k2_write 8 6 (u28.2 13 2) u28.2).bind fun g30 =>
          some (1, g30)
  else
  if u14 = 129 then
    k0_value_146 R u14 g
  else
  if u14 = 130 then
    k0_value_146 R u14 g
  else
  if u14 = 140 then
    k0_value_128 R u14 g
  else
  if u14 = 141 then
    k0_value_128 R u14 g
  else
  if u14 = 142 then
    k0_value_128 R u14 g
  else
  if u14 = 143 then
    k0_value_146 R u14 g
  else
  if u14 = 144 then
    k0_value_146 R u14 g
  else
  if u14 = 145 then
    k0_value_146 R u14 g
  else
  if u14 = 152 then
    k0_value_274 R a1 u14 g
  else
  if u14 = 153 then
    k0_value_274 R a1 u14 g
  else
  some (0, g)
set_option maxRecDepth 100000 in
set_option maxHeartbeats 4000000 in
theorem m0_value_b (E : EV) (l : Launch) (d : Nat) (R : Nat → Int32 → Int32 → G → Option (Int32 × G)) (IH : SG0 E l R d) (a1 : Int32) (g : G) : ∀ u, kb0_value R a1 g = some u → MI E l yX0_value cX0_value 3 (some .boolean) (2 + d + 1) 0 0 [.ref (E.ad 13), .int a1] g u := by
  intro u h
  refine MG.of (by decide +kernel) (Nat.le_of_ble_eq_true rfl) ?_
  intro p e s m args below meth c C hr hnm ls hl hG
  have C : Cx p s m args meth c cX0_value 3 RX0 E := C
  have hx := C.1
  have hb := C.2.1
  have hl : lv_has ls 3 [(0, .ref (E.ad 13)), (1, .int a1)] := hl
  unfold kb0_value at h
  have j128 : ∀ (v2 : Int32) (g : G) (H : Heap) (locs : List Loc) (ls : Array Slot), Gd E s H locs g [] → lv_has ls 3 [(0, .ref (E.ad 13)), (2, .int v2)] → k0_value_128 R v2 g = some u → W p l e (rmD (2 + d + 1) 0 0) s m args below meth c H locs 0 0 (MQ below (QI E s.heap.size u.1 u.2) args s 0 0 (AA E s.heap.size)) (F0 m 128 ls []) := by
    intro v2 g H locs ls hG hl h
    unfold k0_value_128 at h
    refine lv_aload_n hx hb dX0_value_128 rfl (lv_at hl 0 rfl) ?_
    refine r_getA (j := 8) C hG FX0_15 rfl rfl dX0_value_129 ?_
    refine lv_iload_n hx hb dX0_value_132 rfl (lv_at hl 1 rfl) ?_
    refine lv_aload_n hx hb dX0_value_133 rfl (lv_at hl 0 rfl) ?_
    refine r_getI C hG FX0_24 rfl rfl dX0_value_134 ?_
    refine r_callVV C hl.1 hG [.int v2, .int (g 13 2)] [] (m2_write E l 8 rfl v2 (g 13 2) g) LX0_51 rfl KC2 rfl (rm_ok (by omega) (by decide)) (Nat.le_of_ble_eq_true rfl) ⟨Nat.le_refl _, Nat.le_refl _⟩ rfl dX0_value_137 h (fun g1 H locs hG h => ?_)
    refine lv_aload_n hx hb dX0_value_140 rfl (lv_at hl 0 rfl) ?_
    refine lv_iload_n hx hb dX0_value_141 rfl (lv_at hl 1 rfl) ?_
    refine r_callVI C hl.1 hG [.int v2] [] (m0_take E l v2 g1) LX0_36 rfl KC0 rfl (rm_ok (by omega) (by decide)) (Nat.le_of_ble_eq_true rfl) ⟨Nat.le_refl _, Nat.le_refl _⟩ rfl dX0_value_142 h (fun u2 H locs hG h => ?_)
    exact r_zret C hG hr dX0_value_145 h
  have j146 : ∀ (v2 : Int32) (g : G) (H : Heap) (locs : List Loc) (ls : Array Slot), Gd E s H locs g [] → lv_has ls 3 [(0, .ref (E.ad 13)), (2, .int v2)] → k0_value_146 R v2 g = some u → W p l e (rmD (2 + d + 1) 0 0) s m args below meth c H locs 0 0 (MQ below (QI E s.heap.size u.1 u.2) args s 0 0 (AA E s.heap.size)) (F0 m 146 ls []) := by
    intro v2 g H locs ls hG hl h
    unfold k0_value_146 at h
    refine lv_aload_n hx hb dX0_value_146 rfl (lv_at hl 0 rfl) ?_
    refine r_getA (j := 8) C hG FX0_15 rfl rfl dX0_value_147 ?_
    refine lv_iload_n hx hb dX0_value_150 rfl (lv_at hl 1 rfl) ?_
    refine lv_aload_n hx hb dX0_value_151 rfl (lv_at hl 0 rfl) ?_
    refine r_getI C hG FX0_24 rfl rfl dX0_value_152 ?_
    refine lv_iconst (v := 2) hx hb dX0_value_155 (by decide) ?_
    refine lv_iadd hx hb dX0_value_156 ?_
    refine r_callVV C hl.1 hG [.int v2, .int ((g 13 2) + 2)] [] (m2_write E l 8 rfl v2 ((g 13 2) + 2) g) LX0_51 rfl KC2 rfl (rm_ok (by omega) (by decide)) (Nat.le_of_ble_eq_true rfl) ⟨Nat.le_refl _, Nat.le_refl _⟩ rfl dX0_value_157 h (fun g3 H locs hG h => ?_)
    refine lv_aload_n hx hb dX0_value_160 rfl (lv_at hl 0 rfl) ?_
    refine lv_iload_n hx hb dX0_value_161 rfl (lv_at hl 1 rfl) ?_
    refine r_callVI C hl.1 hG [.int v2] [] (m0_take E l v2 g3) LX0_36 rfl KC0 rfl (rm_ok (by omega) (by decide)) (Nat.le_of_ble_eq_true rfl) ⟨Nat.le_refl _, Nat.le_refl _⟩ rfl dX0_value_162 h (fun u4 H locs hG h => ?_)
    refine lv_if_eq (tgt := 190) hx hb dX0_value_165 (by decide) (fun c5 => ?_) (fun c5 => ?_)
    · have h := (if_inv h).1 c5
      refine lv_iconst (v := 0) hx hb dX0_value_190 (by decide) ?_
      exact r_iret C hG hr rfl dX0_value_191 h
    · have h := (if_inv h).2 c5
      refine lv_aload_n hx hb dX0_value_168 rfl (lv_at hl 0 rfl) ?_
      refine lv_sipush (v := 146) hx hb dX0_value_169 (by decide) ?_
      refine r_callVI C hl.1 hG [.int 146] [] (m0_take E l 146 u4.2) LX0_36 rfl KC0 rfl (rm_ok (by omega) (by decide)) (Nat.le_of_ble_eq_true rfl) ⟨Nat.le_refl _, Nat.le_refl _⟩ rfl dX0_value_172 h (fun u6 H locs hG h => ?_)
      refine lv_if_eq (tgt := 190) hx hb dX0_value_175 (by decide) (fun c7 => ?_) (fun c7 => ?_)
      · have h := (if_inv h).1 c7
        refine lv_iconst (v := 0) hx hb dX0_value_190 (by decide) ?_
        exact r_iret C hG hr rfl dX0_value_191 h
      · have h := (if_inv h).2 c7
        refine lv_aload_n hx hb dX0_value_178 rfl (lv_at hl 0 rfl) ?_
        refine lv_iconst (v := 2) hx hb dX0_value_179 (by decide) ?_
        refine r_callVI C hl.1 hG [.int 2] [] (m0_take E l 2 u6.2) LX0_36 rfl KC0 rfl (rm_ok (by omega) (by decide)) (Nat.le_of_ble_eq_true rfl) ⟨Nat.le_refl _, Nat.le_refl _⟩ rfl dX0_value_180 h (fun u8 H locs hG h => ?_)
        refine lv_if_eq (tgt := 190) hx hb dX0_value_183 (by decide) (fun c9 => ?_) (fun c9 => ?_)
        · have h := (if_inv h).1 c9
          refine lv_iconst (v := 0) hx hb dX0_value_190 (by decide) ?_
          exact r_iret C hG hr rfl dX0_value_191 h
        · have h := (if_inv h).2 c9
          refine lv_iconst (v := 1) hx hb dX0_value_186 (by decide) ?_
          refine lv_goto (tgt := 191) hx hb dX0_value_187 (by decide) ?_
          exact r_iret C hG hr rfl dX0_value_191 h
  have j274 : ∀ (v1 : Int32) (v2 : Int32) (g : G) (H : Heap) (locs : List Loc) (ls : Array Slot), Gd E s H locs g [] → lv_has ls 3 [(0, .ref (E.ad 13)), (1, .int v1), (2, .int v2)] → k0_value_274 R v1 v2 g = some u → W p l e (rmD (2 + d + 1) 0 0) s m args below meth c H locs 0 0 (MQ below (QI E s.heap.size u.1 u.2) args s 0 0 (AA E s.heap.size)) (F0 m 274 ls []) := by
    intro v1 v2 g H locs ls hG hl h
    unfold k0_value_274 at h
    refine lv_aload_n hx hb dX0_value_274 rfl (lv_at hl 0 rfl) ?_
    refine lv_iload_n hx hb dX0_value_275 rfl (lv_at hl 2 rfl) ?_
    refine r_callVI C hl.1 hG [.int v2] [] (m0_take E l v2 g) LX0_36 rfl KC0 rfl (rm_ok (by omega) (by decide)) (Nat.le_of_ble_eq_true rfl) ⟨Nat.le_refl _, Nat.le_refl _⟩ rfl dX0_value_276 h (fun u10 H locs hG h => ?_)
    refine lv_if_eq (tgt := 295) hx hb dX0_value_279 (by decide) (fun c11 => ?_) (fun c11 => ?_)
    · have h := (if_inv h).1 c11
      refine lv_iconst (v := 0) hx hb dX0_value_295 (by decide) ?_
      exact r_iret C hG hr rfl dX0_value_296 h
    · have h := (if_inv h).2 c11
      refine lv_aload_n hx hb dX0_value_282 rfl (lv_at hl 0 rfl) ?_
      refine lv_iload_n hx hb dX0_value_283 rfl (lv_at hl 2 rfl) ?_
      refine lv_iload_n hx hb dX0_value_284 rfl (lv_at hl 1 rfl) ?_
      refine r_callVI C hl.1 hG [.int v2, .int v1] [] (IH.2.2.2.2.2.2 v2 v1 u10.2) LX0_79 rfl KC0 rfl (rm_ok (by omega) (by decide)) (Nat.le_of_ble_eq_true rfl) ⟨Nat.le_refl _, Nat.le_refl _⟩ rfl dX0_value_285 h (fun u12 H locs hG h => ?_)
      refine lv_if_eq (tgt := 295) hx hb dX0_value_288 (by decide) (fun c13 => ?_) (fun c13 => ?_)
      · have h := (if_inv h).1 c13
        refine lv_iconst (v := 0) hx hb dX0_value_295 (by decide) ?_
        exact r_iret C hG hr rfl dX0_value_296 h
      · have h := (if_inv h).2 c13
        refine lv_iconst (v := 1) hx hb dX0_value_291 (by decide) ?_
        refine lv_goto (tgt := 296) hx hb dX0_value_292 (by decide) ?_
        exact r_iret C hG hr rfl dX0_value_296 h
  refine lv_aload_n hx hb dX0_value_0 rfl (lv_at hl 0 rfl) ?_
  refine r_getA (j := 3) C hG FX0_9 rfl rfl dX0_value_1 ?_
  refine lv_aload_n hx hb dX0_value_4 rfl (lv_at hl 0 rfl) ?_
  refine r_getI C hG FX0_24 rfl rfl dX0_value_5 ?_
  refine r_callVIP C hl.1 hG [.int (g 13 2)] [] (m6_kindAt E l (g 13 2) g) LX0_39 rfl KC6 rfl (rm_ok (by omega) (by decide)) (Nat.le_of_ble_eq_true rfl) ⟨Nat.le_refl _, Nat.le_refl _⟩ rfl dX0_value_8 h (fun u14 H locs hG h => ?_)
  refine lv_istore_n (lv' := [(2, .int u14), (0, .ref (E.ad 13)), (1, .int a1)]) hx hb dX0_value_11 rfl hl (by decide) rfl (fun ls hl => ?_)
  refine lv_iload_n hx hb dX0_value_12 rfl (lv_at hl 0 rfl) ?_
  by_cases c15 : u14 = 3
  · have h := (if_inv h).1 c15
    refine lv_lookup (off := 115) (tgt := 128) hx hb dX0_value_13 (by decide +kernel) (by rw [c15]; decide +kernel) (by decide) ?_
    exact j128 u14 g _ _ _ hG (lv_sub hl [1, 0] rfl) h
  have h := (if_inv h).2 c15
  by_cases c16 : u14 = 40
  · have h := (if_inv h).1 c16
    refine lv_lookup (off := 221) (tgt := 234) hx hb dX0_value_13 (by decide +kernel) (by rw [c16]; decide +kernel) (by decide) ?_
    refine lv_iload_n hx hb dX0_value_234 rfl (lv_at hl 2 rfl) ?_
    refine lv_bipush (v := 8) hx hb dX0_value_235 (by decide) ?_
    refine lv_icmp_ge (tgt := 272) hx hb dX0_value_237 (by decide) (fun c17 => ?_) (fun c17 => ?_)
    · have h := (if_inv h).1 c17
      refine lv_iconst (v := 0) hx hb dX0_value_272 (by decide) ?_
      exact r_iret C hG hr rfl dX0_value_273 h
    · have h := (if_inv h).2 c17
      refine lv_aload_n hx hb dX0_value_240 rfl (lv_at hl 1 rfl) ?_
      refine lv_bipush (v := 40) hx hb dX0_value_241 (by decide) ?_
      refine r_callVI C hl.1 hG [.int 40] [] (m0_take E l 40 g) LX0_36 rfl KC0 rfl (rm_ok (by omega) (by decide)) (Nat.le_of_ble_eq_true rfl) ⟨Nat.le_refl _, Nat.le_refl _⟩ rfl dX0_value_243 h (fun u18 H locs hG h => ?_)
      refine lv_if_eq (tgt := 272) hx hb dX0_value_246 (by decide) (fun c19 => ?_) (fun c19 => ?_)
      · have h := (if_inv h).1 c19
        refine lv_iconst (v := 0) hx hb dX0_value_272 (by decide) ?_
        exact r_iret C hG hr rfl dX0_value_273 h
      · have h := (if_inv h).2 c19
        refine lv_aload_n hx hb dX0_value_249 rfl (lv_at hl 1 rfl) ?_
        refine lv_iload_n hx hb dX0_value_250 rfl (lv_at hl 2 rfl) ?_
        refine lv_iconst (v := 1) hx hb dX0_value_251 (by decide) ?_
        refine lv_iadd hx hb dX0_value_252 ?_
        refine r_callVI C hl.1 hG [.int (a1 + 1)] [] (IH.2.2.2.1 (a1 + 1) u18.2) LX0_64 rfl KC0 rfl (rm_ok (by omega) (by decide)) (Nat.le_of_ble_eq_true rfl) ⟨Nat.le_refl _, Nat.le_refl _⟩ rfl dX0_value_253 h (fun u20 H locs hG h => ?_)
        refine lv_if_eq (tgt := 272) hx hb dX0_value_256 (by decide) (fun c21 => ?_) (fun c21 => ?_)
        · have h := (if_inv h).1 c21
          refine lv_iconst (v := 0) hx hb dX0_value_272 (by decide) ?_
          exact r_iret C hG hr rfl dX0_value_273 h
        · have h := (if_inv h).2 c21
          refine lv_aload_n hx hb dX0_value_259 rfl (lv_at hl 1 rfl) ?_
          refine lv_bipush (v := 41) hx hb dX0_value_260 (by decide) ?_
          refine r_callVI C hl.1 hG [.int 41] [] (m0_take E l 41 u20.2) LX0_36 rfl KC0 rfl (rm_ok (by omega) (by decide)) (Nat.le_of_ble_eq_true rfl) ⟨Nat.le_refl _, Nat.le_refl _⟩ rfl dX0_value_262 h (fun u22 H locs hG h => ?_)
          refine lv_if_eq (tgt := 272) hx hb dX0_value_265 (by decide) (fun c23 => ?_) (fun c23 => ?_)
          · have h := (if_inv h).1 c23
            refine lv_iconst (v := 0) hx hb dX0_value_272 (by decide) ?_
            exact r_iret C hG hr rfl dX0_value_273 h
          · have h := (if_inv h).2 c23
            refine lv_iconst (v := 1) hx hb dX0_value_268 (by decide) ?_
            refine lv_goto (tgt := 273) hx hb dX0_value_269 (by decide) ?_
            exact r_iret C hG hr rfl dX0_value_273 h
  have h := (if_inv h).2 c16
  by_cases c24 : u14 = 45
  · have h := (if_inv h).1 c24
    refine lv_lookup (off := 179) (tgt := 192) hx hb dX0_value_13 (by decide +kernel) (by rw [c24]; decide +kernel) (by decide) ?_
    refine lv_iload_n hx hb dX0_value_192 rfl (lv_at hl 2 rfl) ?_
    refine lv_bipush (v := 8) hx hb dX0_value_193 (by decide) ?_
    refine lv_icmp_ge (tgt := 217) hx hb dX0_value_195 (by decide) (fun c25 => ?_) (fun c25 => ?_)
    · have h := (if_inv h).1 c25
      refine lv_iconst (v := 0) hx hb dX0_value_217 (by decide) ?_
      exact r_iret C hG hr rfl dX0_value_218 h
    · have h := (if_inv h).2 c25
      refine lv_aload_n hx hb dX0_value_198 rfl (lv_at hl 1 rfl) ?_
      refine lv_bipush (v := 45) hx hb dX0_value_199 (by decide) ?_
      refine r_callVI C hl.1 hG [.int 45] [] (m0_take E l 45 g) LX0_36 rfl KC0 rfl (rm_ok (by omega) (by decide)) (Nat.le_of_ble_eq_true rfl) ⟨Nat.le_refl _, Nat.le_refl _⟩ rfl dX0_value_201 h (fun u26 H locs hG h => ?_)
      refine lv_if_eq (tgt := 217) hx hb dX0_value_204 (by decide) (fun c27 => ?_) (fun c27 => ?_)
      · have h := (if_inv h).1 c27
        refine lv_iconst (v := 0) hx hb dX0_value_217 (by decide) ?_
        exact r_iret C hG hr rfl dX0_value_218 h
      · have h := (if_inv h).2 c27
        refine lv_aload_n hx hb dX0_value_207 rfl (lv_at hl 1 rfl) ?_
        refine lv_iload_n hx hb dX0_value_208 rfl (lv_at hl 2 rfl) ?_
        refine lv_iconst (v := 1) hx hb dX0_value_209 (by decide) ?_
        refine lv_iadd hx hb dX0_value_210 ?_
        refine r_callVI C hl.1 hG [.int (a1 + 1)] [] (IH.2.2.2.2.2.1 (a1 + 1) u26.2) LX0_76 rfl KC0 rfl (rm_ok (by omega) (by decide)) (Nat.le_of_ble_eq_true rfl) ⟨Nat.le_refl _, Nat.le_refl _⟩ rfl dX0_value_211 h (fun u28 H locs hG h => ?_)
        refine lv_if_ne (tgt := 219) hx hb dX0_value_214 (by decide) (fun c29 => ?_) (fun c29 => ?_)
        · have h := (if_inv h).2 c29
          refine lv_aload_n hx hb dX0_value_219 rfl (lv_at hl 1 rfl) ?_
          refine r_getA (j := 8) C hG FX0_15 rfl rfl dX0_value_220 ?_
          refine lv_bipush (v := 6) hx hb dX0_value_223 (by decide) ?_
          refine lv_aload_n hx hb dX0_value_225 rfl (lv_at hl 1 rfl) ?_
          refine r_getI C hG FX0_24 rfl rfl dX0_value_226 ?_
          refine r_callVV C hl.1 hG [.int 6, .int (u28.2 13 2)] [] (m2_write E l 8 rfl 6 (u28.2 13 2) u28.2) LX0_51 rfl KC2 rfl (rm_ok (by omega) (by decide)) (Nat.le_of_ble_eq_true rfl) ⟨Nat.le_refl _, Nat.le_refl _⟩ rfl dX0_value_229 h (fun g30 H locs hG h => ?_)
          refine lv_iconst (v := 1) hx hb dX0_value_232 (by decide) ?_
          exact r_iret C hG hr rfl dX0_value_233 h
        · have h := (if_inv h).1 c29
          refine lv_iconst (v := 0) hx hb dX0_value_217 (by decide) ?_
          exact r_iret C hG hr rfl dX0_value_218 h
  have h := (if_inv h).2 c24
  by_cases c31 : u14 = 129
  · have h := (if_inv h).1 c31
    refine lv_lookup (off := 133) (tgt := 146) hx hb dX0_value_13 (by decide +kernel) (by rw [c31]; decide +kernel) (by decide) ?_
    exact j146 u14 g _ _ _ hG (lv_sub hl [1, 0] rfl) h
  have h := (if_inv h).2 c31
  by_cases c32 : u14 = 130
  · have h := (if_inv h).1 c32
    refine lv_lookup (off := 133) (tgt := 146) hx hb dX0_value_13 (by decide +kernel) (by rw [c32]; decide +kernel) (by decide) ?_
    exact j146 u14 g _ _ _ hG (lv_sub hl [1, 0] rfl) h
  have h := (if_inv h).2 c32
  by_cases c33 : u14 = 140
  · have h := (if_inv h).1 c33
    refine lv_lookup (off := 115) (tgt := 128) hx hb dX0_value_13 (by decide +kernel) (by rw [c33]; decide +kernel) (by decide) ?_
    exact j128 u14 g _ _ _ hG (lv_sub hl [1, 0] rfl) h
  have h := (if_inv h).2 c33
  by_cases c34 : u14 = 141
  · have h := (if_inv h).1 c34
    refine lv_lookup (off := 115) (tgt := 128) hx hb dX0_value_13 (by decide +kernel) (by rw [c34]; decide +kernel) (by decide) ?_
    exact j128 u14 g _ _ _ hG (lv_sub hl [1, 0] rfl) h
  have h := (if_inv h).2 c34
  by_cases c35 : u14 = 142
  · have h := (if_inv h).1 c35
    refine lv_lookup (off := 115) (tgt := 128) hx hb dX0_value_13 (by decide +kernel) (by rw [c35]; decide +kernel) (by decide) ?_
    exact j128 u14 g _ _ _ hG (lv_sub hl [1, 0] rfl) h
  have h := (if_inv h).2 c35
  by_cases c36 : u14 = 143
  · have h := (if_inv h).1 c36
    refine lv_lookup (off := 133) (tgt := 146) hx hb dX0_value_13 (by decide +kernel) (by rw [c36]; decide +kernel) (by decide) ?_
    exact j146 u14 g _ _ _ hG (lv_sub hl [1, 0] rfl) h
  have h := (if_inv h).2 c36
  by_cases c37 : u14 = 144
  · have h := (if_inv h).1 c37
    refine lv_lookup (off := 133) (tgt := 146) hx hb dX0_value_13 (by decide +kernel) (by rw [c37]; decide +kernel) (by decide) ?_
    exact j146 u14 g _ _ _ hG (lv_sub hl [1, 0] rfl) h
  have h := (if_inv h).2 c37
  by_cases c38 : u14 = 145
  · have h := (if_inv h).1 c38
    refine lv_lookup (off := 133) (tgt := 146) hx hb dX0_value_13 (by decide +kernel) (by rw [c38]; decide +kernel) (by decide) ?_
    exact j146 u14 g _ _ _ hG (lv_sub hl [1, 0] rfl) h
  have h := (if_inv h).2 c38
  by_cases c39 : u14 = 152
  · have h := (if_inv h).1 c39
    refine lv_lookup (off := 261) (tgt := 274) hx hb dX0_value_13 (by decide +kernel) (by rw [c39]; decide +kernel) (by decide) ?_
    exact j274 a1 u14 g _ _ _ hG (lv_sub hl [1, 2, 0] rfl) h
  have h := (if_inv h).2 c39
  by_cases c40 : u14 = 153
  · have h := (if_inv h).1 c40
    refine lv_lookup (off := 261) (tgt := 274) hx hb dX0_value_13 (by decide +kernel) (by rw [c40]; decide +kernel) (by decide) ?_
    exact j274 a1 u14 g _ _ _ hG (lv_sub hl [1, 2, 0] rfl) h
  have h := (if_inv h).2 c40
  refine lv_lookup (off := 284) (tgt := 297) hx hb dX0_value_13 (by decide +kernel) (lk_def _ _ _ (fa_c (nei c15 (by decide)) (fa_c (nei c16 (by decide)) (fa_c (nei c24 (by decide)) (fa_c (nei c31 (by decide)) (fa_c (nei c32 (by decide)) (fa_c (nei c33 (by decide)) (fa_c (nei c34 (by decide)) (fa_c (nei c35 (by decide)) (fa_c (nei c36 (by decide)) (fa_c (nei c37 (by decide)) (fa_c (nei c38 (by decide)) (fa_c (nei c39 (by decide)) (fa_c (nei c40 (by decide)) fa_n)))))))))))))) (by decide) ?_
  refine lv_iconst (v := 0) hx hb dX0_value_297 (by decide) ?_
  exact r_iret C hG hr rfl dX0_value_298 h
def kb0_pair (R : Nat → Int32 → Int32 → G → Option (Int32 × G))  (a1 : Int32) (a2 : Int32) (g : G) : Option (Int32 × G) :=
  if 8 ≤ a2 then
    some (0, g)
  else
    (k0_take 40 g).bind fun u2 =>
    if u2.1 = 0 then
      some (0, u2.2)
    else
      (R 3 (a2 + 1) 0 u2.2).bind fun u4 =>
      if u4.1 = 0 then
        some (0, u4.2)
      else
        (k0_take 44 u4.2).bind fun u6 =>
        if u6.1 = 0 then
          some (0, u6.2)
        else
          (R 3 (a2 + 1) 0 u6.2).bind fun u8 =>
          if u8.1 = 0 then
            some (0, u8.2)
          else
            (k0_take 41 u8.2).bind fun u10 =>
            if u10.1 = 0 then
              some (0, u10.2)
            else
              (k2_write 8 a1 (u10.2 13 2) u10.2).bind fun g12 =>
              some (1, g12)
set_option maxRecDepth 100000 in
set_option maxHeartbeats 4000000 in
theorem m0_pair_b (E : EV) (l : Launch) (d : Nat) (R : Nat → Int32 → Int32 → G → Option (Int32 × G)) (IH : SG0 E l R d) (a1 : Int32) (a2 : Int32) (g : G) : ∀ u, kb0_pair R a1 a2 g = some u → MI E l yX0_pair cX0_pair 3 (some .boolean) (2 + d + 1) 0 0 [.ref (E.ad 13), .int a1, .int a2] g u := by
  intro u h
  refine MG.of (by decide +kernel) (Nat.le_of_ble_eq_true rfl) ?_
  intro p e s m args below meth c C hr hnm ls hl hG
  have C : Cx p s m args meth c cX0_pair 3 RX0 E := C
  have hx := C.1
  have hb := C.2.1
  have hl : lv_has ls 3 [(0, .ref (E.ad 13)), (1, .int a1), (2, .int a2)] := hl
  unfold kb0_pair at h
  refine lv_iload_n hx hb dX0_pair_0 rfl (lv_at hl 2 rfl) ?_
  refine lv_bipush (v := 8) hx hb dX0_pair_1 (by decide) ?_
  refine lv_icmp_ge (tgt := 25) hx hb dX0_pair_3 (by decide) (fun c1 => ?_) (fun c1 => ?_)
  · have h := (if_inv h).1 c1
    refine lv_iconst (v := 0) hx hb dX0_pair_25 (by decide) ?_
    exact r_iret C hG hr rfl dX0_pair_26 h
  · have h := (if_inv h).2 c1
    refine lv_aload_n hx hb dX0_pair_6 rfl (lv_at hl 0 rfl) ?_
    refine lv_bipush (v := 40) hx hb dX0_pair_7 (by decide) ?_
    refine r_callVI C hl.1 hG [.int 40] [] (m0_take E l 40 g) LX0_36 rfl KC0 rfl (rm_ok (by omega) (by decide)) (Nat.le_of_ble_eq_true rfl) ⟨Nat.le_refl _, Nat.le_refl _⟩ rfl dX0_pair_9 h (fun u2 H locs hG h => ?_)
    refine lv_if_eq (tgt := 25) hx hb dX0_pair_12 (by decide) (fun c3 => ?_) (fun c3 => ?_)
    · have h := (if_inv h).1 c3
      refine lv_iconst (v := 0) hx hb dX0_pair_25 (by decide) ?_
      exact r_iret C hG hr rfl dX0_pair_26 h
    · have h := (if_inv h).2 c3
      refine lv_aload_n hx hb dX0_pair_15 rfl (lv_at hl 0 rfl) ?_
      refine lv_iload_n hx hb dX0_pair_16 rfl (lv_at hl 2 rfl) ?_
      refine lv_iconst (v := 1) hx hb dX0_pair_17 (by decide) ?_
      refine lv_iadd hx hb dX0_pair_18 ?_
      refine r_callVI C hl.1 hG [.int (a2 + 1)] [] (IH.2.2.2.1 (a2 + 1) u2.2) LX0_64 rfl KC0 rfl (rm_ok (by omega) (by decide)) (Nat.le_of_ble_eq_true rfl) ⟨Nat.le_refl _, Nat.le_refl _⟩ rfl dX0_pair_19 h (fun u4 H locs hG h => ?_)
      refine lv_if_ne (tgt := 27) hx hb dX0_pair_22 (by decide) (fun c5 => ?_) (fun c5 => ?_)
      · have h := (if_inv h).2 c5
        refine lv_aload_n hx hb dX0_pair_27 rfl (lv_at hl 0 rfl) ?_
        refine lv_bipush (v := 44) hx hb dX0_pair_28 (by decide) ?_
        refine r_callVI C hl.1 hG [.int 44] [] (m0_take E l 44 u4.2) LX0_36 rfl KC0 rfl (rm_ok (by omega) (by decide)) (Nat.le_of_ble_eq_true rfl) ⟨Nat.le_refl _, Nat.le_refl _⟩ rfl dX0_pair_30 h (fun u6 H locs hG h => ?_)
        refine lv_if_eq (tgt := 55) hx hb dX0_pair_33 (by decide) (fun c7 => ?_) (fun c7 => ?_)
        · have h := (if_inv h).1 c7
          refine lv_iconst (v := 0) hx hb dX0_pair_55 (by decide) ?_
          exact r_iret C hG hr rfl dX0_pair_56 h
        · have h := (if_inv h).2 c7
          refine lv_aload_n hx hb dX0_pair_36 rfl (lv_at hl 0 rfl) ?_
          refine lv_iload_n hx hb dX0_pair_37 rfl (lv_at hl 2 rfl) ?_
          refine lv_iconst (v := 1) hx hb dX0_pair_38 (by decide) ?_
          refine lv_iadd hx hb dX0_pair_39 ?_
          refine r_callVI C hl.1 hG [.int (a2 + 1)] [] (IH.2.2.2.1 (a2 + 1) u6.2) LX0_64 rfl KC0 rfl (rm_ok (by omega) (by decide)) (Nat.le_of_ble_eq_true rfl) ⟨Nat.le_refl _, Nat.le_refl _⟩ rfl dX0_pair_40 h (fun u8 H locs hG h => ?_)
          refine lv_if_eq (tgt := 55) hx hb dX0_pair_43 (by decide) (fun c9 => ?_) (fun c9 => ?_)
          · have h := (if_inv h).1 c9
            refine lv_iconst (v := 0) hx hb dX0_pair_55 (by decide) ?_
            exact r_iret C hG hr rfl dX0_pair_56 h
          · have h := (if_inv h).2 c9
            refine lv_aload_n hx hb dX0_pair_46 rfl (lv_at hl 0 rfl) ?_
            refine lv_bipush (v := 41) hx hb dX0_pair_47 (by decide) ?_
            refine r_callVI C hl.1 hG [.int 41] [] (m0_take E l 41 u8.2) LX0_36 rfl KC0 rfl (rm_ok (by omega) (by decide)) (Nat.le_of_ble_eq_true rfl) ⟨Nat.le_refl _, Nat.le_refl _⟩ rfl dX0_pair_49 h (fun u10 H locs hG h => ?_)
            refine lv_if_ne (tgt := 57) hx hb dX0_pair_52 (by decide) (fun c11 => ?_) (fun c11 => ?_)
            · have h := (if_inv h).2 c11
              refine lv_aload_n hx hb dX0_pair_57 rfl (lv_at hl 0 rfl) ?_
              refine r_getA (j := 8) C hG FX0_15 rfl rfl dX0_pair_58 ?_
              refine lv_iload_n hx hb dX0_pair_61 rfl (lv_at hl 1 rfl) ?_
              refine lv_aload_n hx hb dX0_pair_62 rfl (lv_at hl 0 rfl) ?_
              refine r_getI C hG FX0_24 rfl rfl dX0_pair_63 ?_
              refine r_callVV C hl.1 hG [.int a1, .int (u10.2 13 2)] [] (m2_write E l 8 rfl a1 (u10.2 13 2) u10.2) LX0_51 rfl KC2 rfl (rm_ok (by omega) (by decide)) (Nat.le_of_ble_eq_true rfl) ⟨Nat.le_refl _, Nat.le_refl _⟩ rfl dX0_pair_66 h (fun g12 H locs hG h => ?_)
              refine lv_iconst (v := 1) hx hb dX0_pair_69 (by decide) ?_
              exact r_iret C hG hr rfl dX0_pair_70 h
            · have h := (if_inv h).1 c11
              refine lv_iconst (v := 0) hx hb dX0_pair_55 (by decide) ?_
              exact r_iret C hG hr rfl dX0_pair_56 h
      · have h := (if_inv h).1 c5
        refine lv_iconst (v := 0) hx hb dX0_pair_25 (by decide) ?_
        exact r_iret C hG hr rfl dX0_pair_26 h
def kG0 : Nat → Nat → Int32 → Int32 → G → Option (Int32 × G)
  | 0, _, _, _, _ => none
  | d + 1, 0, a, _, g => kb0_test (kG0 d) a g
  | d + 1, 1, a, _, g => kb0_both (kG0 d) a g
  | d + 1, 2, a, _, g => kb0_single (kG0 d) a g
  | d + 1, 3, a, _, g => kb0_sum (kG0 d) a g
  | d + 1, 4, a, _, g => kb0_product (kG0 d) a g
  | d + 1, 5, a, _, g => kb0_value (kG0 d) a g
  | d + 1, 6, a, b, g => kb0_pair (kG0 d) a b g
  | _ + 1, _, _, _, _ => none
set_option maxRecDepth 100000 in
theorem sg0 (E : EV) (l : Launch) : ∀ d, SG0 E l (kG0 d) d := by
  intro d
  induction d with
  | zero =>
    refine ⟨?_, ?_, ?_, ?_, ?_, ?_, ?_⟩ <;> intros <;> rename_i h <;> unfold kG0 at h <;> cases h
  | succ d ih =>
    exact ⟨fun a1 g u h => m0_test_b E l d (kG0 d) ih a1 g u h, fun a1 g u h => m0_both_b E l d (kG0 d) ih a1 g u h, fun a1 g u h => m0_single_b E l d (kG0 d) ih a1 g u h, fun a1 g u h => m0_sum_b E l d (kG0 d) ih a1 g u h, fun a1 g u h => m0_product_b E l d (kG0 d) ih a1 g u h, fun a1 g u h => m0_value_b E l d (kG0 d) ih a1 g u h, fun a1 a2 g u h => m0_pair_b E l d (kG0 d) ih a1 a2 g u h⟩
def k0_test (a1 : Int32) (g : G) : Option (Int32 × G) := kG0 100 0 a1 0 g
theorem m0_test (E : EV) (l : Launch) (a1 : Int32) (g : G) : ∀ u, k0_test a1 g = some u → MI E l yX0_test cX0_test 3 (some .boolean) 102 0 0 [.ref (E.ad 13), .int a1] g u := fun u h => (sg0 E l 100).1 a1 g u h
def k0_both (a1 : Int32) (g : G) : Option (Int32 × G) := kG0 100 1 a1 0 g
theorem m0_both (E : EV) (l : Launch) (a1 : Int32) (g : G) : ∀ u, k0_both a1 g = some u → MI E l yX0_both cX0_both 3 (some .boolean) 102 0 0 [.ref (E.ad 13), .int a1] g u := fun u h => (sg0 E l 100).2.1 a1 g u h
def k0_single (a1 : Int32) (g : G) : Option (Int32 × G) := kG0 100 2 a1 0 g
theorem m0_single (E : EV) (l : Launch) (a1 : Int32) (g : G) : ∀ u, k0_single a1 g = some u → MI E l yX0_single cX0_single 5 (some .boolean) 102 0 0 [.ref (E.ad 13), .int a1] g u := fun u h => (sg0 E l 100).2.2.1 a1 g u h
def k0_sum (a1 : Int32) (g : G) : Option (Int32 × G) := kG0 100 3 a1 0 g
theorem m0_sum (E : EV) (l : Launch) (a1 : Int32) (g : G) : ∀ u, k0_sum a1 g = some u → MI E l yX0_sum cX0_sum 4 (some .boolean) 102 0 0 [.ref (E.ad 13), .int a1] g u := fun u h => (sg0 E l 100).2.2.2.1 a1 g u h
def k0_product (a1 : Int32) (g : G) : Option (Int32 × G) := kG0 100 4 a1 0 g
theorem m0_product (E : EV) (l : Launch) (a1 : Int32) (g : G) : ∀ u, k0_product a1 g = some u → MI E l yX0_product cX0_product 4 (some .boolean) 102 0 0 [.ref (E.ad 13), .int a1] g u := fun u h => (sg0 E l 100).2.2.2.2.1 a1 g u h
def k0_value (a1 : Int32) (g : G) : Option (Int32 × G) := kG0 100 5 a1 0 g
theorem m0_value (E : EV) (l : Launch) (a1 : Int32) (g : G) : ∀ u, k0_value a1 g = some u → MI E l yX0_value cX0_value 3 (some .boolean) 102 0 0 [.ref (E.ad 13), .int a1] g u := fun u h => (sg0 E l 100).2.2.2.2.2.1 a1 g u h
def k0_pair (a1 : Int32) (a2 : Int32) (g : G) : Option (Int32 × G) := kG0 100 6 a1 a2 g
theorem m0_pair (E : EV) (l : Launch) (a1 : Int32) (a2 : Int32) (g : G) : ∀ u, k0_pair a1 a2 g = some u → MI E l yX0_pair cX0_pair 3 (some .boolean) 102 0 0 [.ref (E.ad 13), .int a1, .int a2] g u := fun u h => (sg0 E l 100).2.2.2.2.2.2 a1 a2 g u h
def k0_order  (a1 : Int32) (g : G) : Option (Int32 × G) :=
  (k8_isOrder a1 g).bind fun u1 =>
  if u1 = 0 then
    some (0, g)
  else
    (k0_take a1 g).bind fun u3 =>
    if u3.1 = 0 then
      some (0, u3.2)
    else
      (k0_take 2 u3.2).bind fun u5 =>
      if u5.1 = 0 then
        some (0, u5.2)
      else
        (k8_isOrderBySum a1 u5.2).bind fun u7 =>
        if u7 = 0 then
          some (1, u5.2)
        else
          (k0_take 134 u5.2).bind fun u9 =>
          if u9.1 = 0 then
            some (0, u9.2)
          else
            (k0_sum 0 u9.2).bind fun u11 =>
            if u11.1 = 0 then
              some (0, u11.2)
            else
              some (1, u11.2)
set_option maxRecDepth 100000 in
set_option maxHeartbeats 4000000 in
theorem m0_order (E : EV) (l : Launch) (a1 : Int32) (g : G) : ∀ u, k0_order a1 g = some u → MI E l yX0_order cX0_order 2 (some .boolean) 103 0 0 [.ref (E.ad 13), .int a1] g u := by
  intro u h
  refine MG.of (by decide +kernel) (Nat.le_of_ble_eq_true rfl) ?_
  intro p e s m args below meth c C hr hnm ls hl hG
  have C : Cx p s m args meth c cX0_order 2 RX0 E := C
  have hx := C.1
  have hb := C.2.1
  have hl : lv_has ls 2 [(0, .ref (E.ad 13)), (1, .int a1)] := hl
  unfold k0_order at h
  refine lv_iload_n hx hb dX0_order_0 rfl (lv_at hl 1 rfl) ?_
  refine r_callSIP C hl.1 hG [.int a1] [] (m8_isOrder E l a1 g) LX0_58 rfl (rm_ok (by decide) (by decide)) (Nat.le_of_ble_eq_true rfl) ⟨Nat.le_refl _, Nat.le_refl _⟩ rfl dX0_order_1 h (fun u1 H locs hG h => ?_)
  refine lv_if_eq (tgt := 23) hx hb dX0_order_4 (by decide) (fun c2 => ?_) (fun c2 => ?_)
  · have h := (if_inv h).1 c2
    refine lv_iconst (v := 0) hx hb dX0_order_23 (by decide) ?_
    exact r_iret C hG hr rfl dX0_order_24 h
  · have h := (if_inv h).2 c2
    refine lv_aload_n hx hb dX0_order_7 rfl (lv_at hl 0 rfl) ?_
    refine lv_iload_n hx hb dX0_order_8 rfl (lv_at hl 1 rfl) ?_
    refine r_callVI C hl.1 hG [.int a1] [] (m0_take E l a1 g) LX0_36 rfl KC0 rfl (rm_ok (by decide) (by decide)) (Nat.le_of_ble_eq_true rfl) ⟨Nat.le_refl _, Nat.le_refl _⟩ rfl dX0_order_9 h (fun u3 H locs hG h => ?_)
    refine lv_if_eq (tgt := 23) hx hb dX0_order_12 (by decide) (fun c4 => ?_) (fun c4 => ?_)
    · have h := (if_inv h).1 c4
      refine lv_iconst (v := 0) hx hb dX0_order_23 (by decide) ?_
      exact r_iret C hG hr rfl dX0_order_24 h
    · have h := (if_inv h).2 c4
      refine lv_aload_n hx hb dX0_order_15 rfl (lv_at hl 0 rfl) ?_
      refine lv_iconst (v := 2) hx hb dX0_order_16 (by decide) ?_
      refine r_callVI C hl.1 hG [.int 2] [] (m0_take E l 2 u3.2) LX0_36 rfl KC0 rfl (rm_ok (by decide) (by decide)) (Nat.le_of_ble_eq_true rfl) ⟨Nat.le_refl _, Nat.le_refl _⟩ rfl dX0_order_17 h (fun u5 H locs hG h => ?_)
      refine lv_if_ne (tgt := 25) hx hb dX0_order_20 (by decide) (fun c6 => ?_) (fun c6 => ?_)
      · have h := (if_inv h).2 c6
        refine lv_iload_n hx hb dX0_order_25 rfl (lv_at hl 1 rfl) ?_
        refine r_callSIP C hl.1 hG [.int a1] [] (m8_isOrderBySum E l a1 u5.2) LX0_61 rfl (rm_ok (by decide) (by decide)) (Nat.le_of_ble_eq_true rfl) ⟨Nat.le_refl _, Nat.le_refl _⟩ rfl dX0_order_26 h (fun u7 H locs hG h => ?_)
        refine lv_if_eq (tgt := 50) hx hb dX0_order_29 (by decide) (fun c8 => ?_) (fun c8 => ?_)
        · have h := (if_inv h).1 c8
          refine lv_iconst (v := 1) hx hb dX0_order_50 (by decide) ?_
          refine lv_goto (tgt := 55) hx hb dX0_order_51 (by decide) ?_
          exact r_iret C hG hr rfl dX0_order_55 h
        · have h := (if_inv h).2 c8
          refine lv_aload_n hx hb dX0_order_32 rfl (lv_at hl 0 rfl) ?_
          refine lv_sipush (v := 134) hx hb dX0_order_33 (by decide) ?_
          refine r_callVI C hl.1 hG [.int 134] [] (m0_take E l 134 u5.2) LX0_36 rfl KC0 rfl (rm_ok (by decide) (by decide)) (Nat.le_of_ble_eq_true rfl) ⟨Nat.le_refl _, Nat.le_refl _⟩ rfl dX0_order_36 h (fun u9 H locs hG h => ?_)
          refine lv_if_eq (tgt := 54) hx hb dX0_order_39 (by decide) (fun c10 => ?_) (fun c10 => ?_)
          · have h := (if_inv h).1 c10
            refine lv_iconst (v := 0) hx hb dX0_order_54 (by decide) ?_
            exact r_iret C hG hr rfl dX0_order_55 h
          · have h := (if_inv h).2 c10
            refine lv_aload_n hx hb dX0_order_42 rfl (lv_at hl 0 rfl) ?_
            refine lv_iconst (v := 0) hx hb dX0_order_43 (by decide) ?_
            refine r_callVI C hl.1 hG [.int 0] [] (m0_sum E l 0 u9.2) LX0_64 rfl KC0 rfl (rm_ok (by decide) (by decide)) (Nat.le_of_ble_eq_true rfl) ⟨Nat.le_refl _, Nat.le_refl _⟩ rfl dX0_order_44 h (fun u11 H locs hG h => ?_)
            refine lv_if_eq (tgt := 54) hx hb dX0_order_47 (by decide) (fun c12 => ?_) (fun c12 => ?_)
            · have h := (if_inv h).1 c12
              refine lv_iconst (v := 0) hx hb dX0_order_54 (by decide) ?_
              exact r_iret C hG hr rfl dX0_order_55 h
            · have h := (if_inv h).2 c12
              refine lv_iconst (v := 1) hx hb dX0_order_50 (by decide) ?_
              refine lv_goto (tgt := 55) hx hb dX0_order_51 (by decide) ?_
              exact r_iret C hG hr rfl dX0_order_55 h
      · have h := (if_inv h).1 c6
        refine lv_iconst (v := 0) hx hb dX0_order_23 (by decide) ?_
        exact r_iret C hG hr rfl dX0_order_24 h
def k0_line_35  (g : G) : Option (Int32 × G) :=
      (k0_take 3 g).bind fun u1 =>
      zr u1.1 u1.2
def k0_line_103  (v1 : Int32) (v2 : Int32) (g : G) : Option (Int32 × G) :=
      (k2_write 8 v1 v2 g).bind fun g2 =>
      some (1, g2)
def k0_line  (g : G) : Option (Int32 × G) :=
  (k0_take 128 g).bind fun u3 =>
  if u3.1 = 0 then
    (k0_take 131 u3.2).bind fun u5 =>
    if u5.1 = 0 then
      (k0_take 132 u5.2).bind fun u7 =>
      if u7.1 = 0 then
        (k6_kindAt (u7.2 13 2) u7.2).bind fun u9 =>
        bd ((u7.2 13 2) + 1) fun x10 =>
        (k0_order u9 u7.2).bind fun u11 =>
        if u11.1 = 0 then
          some (0, u11.2)
        else
          (k0_take 139 u11.2).bind fun u13 =>
          if u13.1 = 0 then
            (k2_write 8 7 x10 u13.2).bind fun g17 =>
            k0_line_103 u9 x10 g17
          else
            (k0_test 0 u13.2).bind fun u15 =>
            if u15.1 = 0 then
              some (0, u15.2)
            else
              k0_line_103 u9 x10 u15.2
      else
        k0_line_35 u7.2
    else
      k0_line_35 u5.2
  else
    (k0_mirror u3.2).bind fun u18 =>
    zr u18.1 u18.2
set_option maxRecDepth 100000 in
set_option maxHeartbeats 4000000 in
theorem m0_line (E : EV) (l : Launch) (g : G) : ∀ u, k0_line g = some u → MI E l yX0_line cX0_line 3 (some .boolean) 104 0 0 [.ref (E.ad 13)] g u := by
  intro u h
  refine MG.of (by decide +kernel) (Nat.le_of_ble_eq_true rfl) ?_
  intro p e s m args below meth c C hr hnm ls hl hG
  have C : Cx p s m args meth c cX0_line 3 RX0 E := C
  have hx := C.1
  have hb := C.2.1
  have hl : lv_has ls 3 [(0, .ref (E.ad 13))] := hl
  unfold k0_line at h
  have j35 : ∀ (g : G) (H : Heap) (locs : List Loc) (ls : Array Slot), Gd E s H locs g [] → lv_has ls 3 [(0, .ref (E.ad 13))] → k0_line_35 g = some u → W p l e (rmD 104 0 0) s m args below meth c H locs 0 0 (MQ below (QI E s.heap.size u.1 u.2) args s 0 0 (AA E s.heap.size)) (F0 m 35 ls []) := by
    intro g H locs ls hG hl h
    unfold k0_line_35 at h
    refine lv_aload_n hx hb dX0_line_35 rfl (lv_at hl 0 rfl) ?_
    refine lv_iconst (v := 3) hx hb dX0_line_36 (by decide) ?_
    refine r_callVI C hl.1 hG [.int 3] [] (m0_take E l 3 g) LX0_36 rfl KC0 rfl (rm_ok (by decide) (by decide)) (Nat.le_of_ble_eq_true rfl) ⟨Nat.le_refl _, Nat.le_refl _⟩ rfl dX0_line_37 h (fun u1 H locs hG h => ?_)
    exact r_zret C hG hr dX0_line_40 h
  have j103 : ∀ (v1 : Int32) (v2 : Int32) (g : G) (H : Heap) (locs : List Loc) (ls : Array Slot), Gd E s H locs g [] → lv_has ls 3 [(0, .ref (E.ad 13)), (1, .int v1), (2, .int v2)] → k0_line_103 v1 v2 g = some u → W p l e (rmD 104 0 0) s m args below meth c H locs 0 0 (MQ below (QI E s.heap.size u.1 u.2) args s 0 0 (AA E s.heap.size)) (F0 m 103 ls []) := by
    intro v1 v2 g H locs ls hG hl h
    unfold k0_line_103 at h
    refine lv_aload_n hx hb dX0_line_103 rfl (lv_at hl 0 rfl) ?_
    refine r_getA (j := 8) C hG FX0_15 rfl rfl dX0_line_104 ?_
    refine lv_iload_n hx hb dX0_line_107 rfl (lv_at hl 1 rfl) ?_
    refine lv_iload_n hx hb dX0_line_108 rfl (lv_at hl 2 rfl) ?_
    refine r_callVV C hl.1 hG [.int v1, .int v2] [] (m2_write E l 8 rfl v1 v2 g) LX0_51 rfl KC2 rfl (rm_ok (by decide) (by decide)) (Nat.le_of_ble_eq_true rfl) ⟨Nat.le_refl _, Nat.le_refl _⟩ rfl dX0_line_109 h (fun g2 H locs hG h => ?_)
    refine lv_iconst (v := 1) hx hb dX0_line_112 (by decide) ?_
    exact r_iret C hG hr rfl dX0_line_113 h
  refine lv_aload_n hx hb dX0_line_0 rfl (lv_at hl 0 rfl) ?_
  refine lv_sipush (v := 128) hx hb dX0_line_1 (by decide) ?_
  refine r_callVI C hl.1 hG [.int 128] [] (m0_take E l 128 g) LX0_36 rfl KC0 rfl (rm_ok (by decide) (by decide)) (Nat.le_of_ble_eq_true rfl) ⟨Nat.le_refl _, Nat.le_refl _⟩ rfl dX0_line_4 h (fun u3 H locs hG h => ?_)
  refine lv_if_eq (tgt := 15) hx hb dX0_line_7 (by decide) (fun c4 => ?_) (fun c4 => ?_)
  · have h := (if_inv h).1 c4
    refine lv_aload_n hx hb dX0_line_15 rfl (lv_at hl 0 rfl) ?_
    refine lv_sipush (v := 131) hx hb dX0_line_16 (by decide) ?_
    refine r_callVI C hl.1 hG [.int 131] [] (m0_take E l 131 u3.2) LX0_36 rfl KC0 rfl (rm_ok (by decide) (by decide)) (Nat.le_of_ble_eq_true rfl) ⟨Nat.le_refl _, Nat.le_refl _⟩ rfl dX0_line_19 h (fun u5 H locs hG h => ?_)
    refine lv_if_ne (tgt := 35) hx hb dX0_line_22 (by decide) (fun c6 => ?_) (fun c6 => ?_)
    · have h := (if_inv h).2 c6
      exact j35 u5.2 _ _ _ hG (lv_sub hl [0] rfl) h
    · have h := (if_inv h).1 c6
      refine lv_aload_n hx hb dX0_line_25 rfl (lv_at hl 0 rfl) ?_
      refine lv_sipush (v := 132) hx hb dX0_line_26 (by decide) ?_
      refine r_callVI C hl.1 hG [.int 132] [] (m0_take E l 132 u5.2) LX0_36 rfl KC0 rfl (rm_ok (by decide) (by decide)) (Nat.le_of_ble_eq_true rfl) ⟨Nat.le_refl _, Nat.le_refl _⟩ rfl dX0_line_29 h (fun u7 H locs hG h => ?_)
      refine lv_if_eq (tgt := 41) hx hb dX0_line_32 (by decide) (fun c8 => ?_) (fun c8 => ?_)
      · have h := (if_inv h).1 c8
        refine lv_aload_n hx hb dX0_line_41 rfl (lv_at hl 0 rfl) ?_
        refine r_getA (j := 3) C hG FX0_9 rfl rfl dX0_line_42 ?_
        refine lv_aload_n hx hb dX0_line_45 rfl (lv_at hl 0 rfl) ?_
        refine r_getI C hG FX0_24 rfl rfl dX0_line_46 ?_
        refine r_callVIP C hl.1 hG [.int (u7.2 13 2)] [] (m6_kindAt E l (u7.2 13 2) u7.2) LX0_39 rfl KC6 rfl (rm_ok (by decide) (by decide)) (Nat.le_of_ble_eq_true rfl) ⟨Nat.le_refl _, Nat.le_refl _⟩ rfl dX0_line_49 h (fun u9 H locs hG h => ?_)
        refine lv_istore_n (lv' := [(1, .int u9), (0, .ref (E.ad 13))]) hx hb dX0_line_52 rfl hl (by decide) rfl (fun ls hl => ?_)
        refine lv_aload_n hx hb dX0_line_53 rfl (lv_at hl 1 rfl) ?_
        refine r_getI C hG FX0_24 rfl rfl dX0_line_54 ?_
        refine lv_iconst (v := 1) hx hb dX0_line_57 (by decide) ?_
        refine lv_iadd hx hb dX0_line_58 ?_
        refine r_nm h (fun x10 h => ?_)
        refine lv_istore_n (lv' := [(2, .int x10), (1, .int u9), (0, .ref (E.ad 13))]) hx hb dX0_line_59 rfl hl (by decide) rfl (fun ls hl => ?_)
        refine lv_aload_n hx hb dX0_line_60 rfl (lv_at hl 2 rfl) ?_
        refine lv_iload_n hx hb dX0_line_61 rfl (lv_at hl 1 rfl) ?_
        refine r_callVI C hl.1 hG [.int u9] [] (m0_order E l u9 u7.2) LX0_48 rfl KC0 rfl (rm_ok (by decide) (by decide)) (Nat.le_of_ble_eq_true rfl) ⟨Nat.le_refl _, Nat.le_refl _⟩ rfl dX0_line_62 h (fun u11 H locs hG h => ?_)
        refine lv_if_ne (tgt := 70) hx hb dX0_line_65 (by decide) (fun c12 => ?_) (fun c12 => ?_)
        · have h := (if_inv h).2 c12
          refine lv_aload_n hx hb dX0_line_70 rfl (lv_at hl 2 rfl) ?_
          refine lv_sipush (v := 139) hx hb dX0_line_71 (by decide) ?_
          refine r_callVI C hl.1 hG [.int 139] [] (m0_take E l 139 u11.2) LX0_36 rfl KC0 rfl (rm_ok (by decide) (by decide)) (Nat.le_of_ble_eq_true rfl) ⟨Nat.le_refl _, Nat.le_refl _⟩ rfl dX0_line_74 h (fun u13 H locs hG h => ?_)
          refine lv_if_ne (tgt := 93) hx hb dX0_line_77 (by decide) (fun c14 => ?_) (fun c14 => ?_)
          · have h := (if_inv h).2 c14
            refine lv_aload_n hx hb dX0_line_93 rfl (lv_at hl 2 rfl) ?_
            refine lv_iconst (v := 0) hx hb dX0_line_94 (by decide) ?_
            refine r_callVI C hl.1 hG [.int 0] [] (m0_test E l 0 u13.2) LX0_55 rfl KC0 rfl (rm_ok (by decide) (by decide)) (Nat.le_of_ble_eq_true rfl) ⟨Nat.le_refl _, Nat.le_refl _⟩ rfl dX0_line_95 h (fun u15 H locs hG h => ?_)
            refine lv_if_ne (tgt := 103) hx hb dX0_line_98 (by decide) (fun c16 => ?_) (fun c16 => ?_)
            · have h := (if_inv h).2 c16
              exact j103 u9 x10 u15.2 _ _ _ hG (lv_sub hl [2, 1, 0] rfl) h
            · have h := (if_inv h).1 c16
              refine lv_iconst (v := 0) hx hb dX0_line_101 (by decide) ?_
              exact r_iret C hG hr rfl dX0_line_102 h
          · have h := (if_inv h).1 c14
            refine lv_aload_n hx hb dX0_line_80 rfl (lv_at hl 2 rfl) ?_
            refine r_getA (j := 8) C hG FX0_15 rfl rfl dX0_line_81 ?_
            refine lv_bipush (v := 7) hx hb dX0_line_84 (by decide) ?_
            refine lv_iload_n hx hb dX0_line_86 rfl (lv_at hl 0 rfl) ?_
            refine r_callVV C hl.1 hG [.int 7, .int x10] [] (m2_write E l 8 rfl 7 x10 u13.2) LX0_51 rfl KC2 rfl (rm_ok (by decide) (by decide)) (Nat.le_of_ble_eq_true rfl) ⟨Nat.le_refl _, Nat.le_refl _⟩ rfl dX0_line_87 h (fun g17 H locs hG h => ?_)
            refine lv_goto (tgt := 103) hx hb dX0_line_90 (by decide) ?_
            exact j103 u9 x10 g17 _ _ _ hG (lv_sub hl [2, 1, 0] rfl) h
        · have h := (if_inv h).1 c12
          refine lv_iconst (v := 0) hx hb dX0_line_68 (by decide) ?_
          exact r_iret C hG hr rfl dX0_line_69 h
      · have h := (if_inv h).2 c8
        exact j35 u7.2 _ _ _ hG (lv_sub hl [0] rfl) h
  · have h := (if_inv h).2 c4
    refine lv_aload_n hx hb dX0_line_10 rfl (lv_at hl 0 rfl) ?_
    refine r_callVI C hl.1 hG [] [] (m0_mirror E l u3.2) LX0_45 rfl KC0 rfl (rm_ok (by decide) (by decide)) (Nat.le_of_ble_eq_true rfl) ⟨Nat.le_refl _, Nat.le_refl _⟩ rfl dX0_line_11 h (fun u18 H locs hG h => ?_)
    exact r_zret C hG hr dX0_line_14 h
def k0_firstMisfit_45  (g : G) : Option (Int32 × G) :=
      some ((g 13 2), g)
def k0_firstMisfit_56  (g : G) : Option (Int32 × G) :=
      (k0_isNext 0 g).bind fun u1 =>
      if u1 = 0 then
        some ((g 13 2), g)
      else
        some ((-1), g)
def k0_firstMisfit_14  : Nat → Int32 → G → Option (Int32 × G)
  | 0, _, _ => none
  | f + 1, v1, g =>
        if 400 ≤ v1 then
          k0_firstMisfit_56 g
        else
          (k0_isNext 0 g).bind fun u4 =>
          if u4 = 0 then
            (k0_line g).bind fun u6 =>
            if u6.1 = 0 then
              k0_firstMisfit_45 u6.2
            else
              (k0_take 59 u6.2).bind fun u8 =>
              if u8.1 = 0 then
                k0_firstMisfit_45 u8.2
              else
                bd (v1 + 1) fun x10 =>
                k0_firstMisfit_14 f x10 u8.2
          else
            k0_firstMisfit_56 g
def k0_firstMisfit  (g : G) : Option (Int32 × G) :=
  (k2_clear 8 g).bind fun g11 =>
  bd (up g11 13 2 0) fun g12 =>
  k0_firstMisfit_14 FU 0 g12
set_option maxRecDepth 100000 in
set_option maxHeartbeats 4000000 in
theorem m0_firstMisfit (E : EV) (l : Launch) (g : G) : ∀ u, k0_firstMisfit g = some u → MI E l yX0_firstMisfit cX0_firstMisfit 2 (some .int) 105 0 0 [.ref (E.ad 13)] g u := by
  intro u h
  refine MG.of (by decide +kernel) (Nat.le_of_ble_eq_true rfl) ?_
  intro p e s m args below meth c C hr hnm ls hl hG
  have C : Cx p s m args meth c cX0_firstMisfit 2 RX0 E := C
  have hx := C.1
  have hb := C.2.1
  have hl : lv_has ls 2 [(0, .ref (E.ad 13))] := hl
  unfold k0_firstMisfit at h
  have j45 : ∀ (g : G) (H : Heap) (locs : List Loc) (ls : Array Slot), Gd E s H locs g [] → lv_has ls 2 [(0, .ref (E.ad 13))] → k0_firstMisfit_45 g = some u → W p l e (rmD 105 0 0) s m args below meth c H locs 0 0 (MQ below (QI E s.heap.size u.1 u.2) args s 0 0 (AA E s.heap.size)) (F0 m 45 ls []) := by
    intro g H locs ls hG hl h
    unfold k0_firstMisfit_45 at h
    refine lv_aload_n hx hb dX0_firstMisfit_45 rfl (lv_at hl 0 rfl) ?_
    refine r_getI C hG FX0_24 rfl rfl dX0_firstMisfit_46 ?_
    exact r_iret C hG hr rfl dX0_firstMisfit_49 h
  have j56 : ∀ (g : G) (H : Heap) (locs : List Loc) (ls : Array Slot), Gd E s H locs g [] → lv_has ls 2 [(0, .ref (E.ad 13))] → k0_firstMisfit_56 g = some u → W p l e (rmD 105 0 0) s m args below meth c H locs 0 0 (MQ below (QI E s.heap.size u.1 u.2) args s 0 0 (AA E s.heap.size)) (F0 m 56 ls []) := by
    intro g H locs ls hG hl h
    unfold k0_firstMisfit_56 at h
    refine lv_aload_n hx hb dX0_firstMisfit_56 rfl (lv_at hl 0 rfl) ?_
    refine lv_iconst (v := 0) hx hb dX0_firstMisfit_57 (by decide) ?_
    refine r_callVIP C hl.1 hG [.int 0] [] (m0_isNext E l 0 g) LX0_28 rfl KC0 rfl (rm_ok (by decide) (by decide)) (Nat.le_of_ble_eq_true rfl) ⟨Nat.le_refl _, Nat.le_refl _⟩ rfl dX0_firstMisfit_58 h (fun u1 H locs hG h => ?_)
    refine lv_if_eq (tgt := 68) hx hb dX0_firstMisfit_61 (by decide) (fun c2 => ?_) (fun c2 => ?_)
    · have h := (if_inv h).1 c2
      refine lv_aload_n hx hb dX0_firstMisfit_68 rfl (lv_at hl 0 rfl) ?_
      refine r_getI C hG FX0_24 rfl rfl dX0_firstMisfit_69 ?_
      exact r_iret C hG hr rfl dX0_firstMisfit_72 h
    · have h := (if_inv h).2 c2
      refine lv_iconst (v := (-1)) hx hb dX0_firstMisfit_64 (by decide) ?_
      refine lv_goto (tgt := 72) hx hb dX0_firstMisfit_65 (by decide) ?_
      exact r_iret C hG hr rfl dX0_firstMisfit_72 h
  have j14 : ∀ f : Nat, ∀ (v1 : Int32) (g : G) (H : Heap) (locs : List Loc) (ls : Array Slot), Gd E s H locs g [] → lv_has ls 2 [(0, .ref (E.ad 13)), (1, .int v1)] → k0_firstMisfit_14 f v1 g = some u → W p l e (rmD 105 0 0) s m args below meth c H locs 0 0 (MQ below (QI E s.heap.size u.1 u.2) args s 0 0 (AA E s.heap.size)) (F0 m 14 ls []) := by
    intro f
    induction f with
    | zero =>
      intro v1 g H locs ls hG hl h
      unfold k0_firstMisfit_14 at h
      cases h
    | succ f ih =>
      intro v1 g H locs ls hG hl h
      unfold k0_firstMisfit_14 at h
      refine lv_iload_n hx hb dX0_firstMisfit_14 rfl (lv_at hl 1 rfl) ?_
      refine lv_sipush (v := 400) hx hb dX0_firstMisfit_15 (by decide) ?_
      refine lv_icmp_ge (tgt := 56) hx hb dX0_firstMisfit_18 (by decide) (fun c3 => ?_) (fun c3 => ?_)
      · have h := (if_inv h).1 c3
        exact j56 g _ _ _ hG (lv_sub hl [0] rfl) h
      · have h := (if_inv h).2 c3
        refine lv_aload_n hx hb dX0_firstMisfit_21 rfl (lv_at hl 0 rfl) ?_
        refine lv_iconst (v := 0) hx hb dX0_firstMisfit_22 (by decide) ?_
        refine r_callVIP C hl.1 hG [.int 0] [] (m0_isNext E l 0 g) LX0_28 rfl KC0 rfl (rm_ok (by decide) (by decide)) (Nat.le_of_ble_eq_true rfl) ⟨Nat.le_refl _, Nat.le_refl _⟩ rfl dX0_firstMisfit_23 h (fun u4 H locs hG h => ?_)
        refine lv_if_ne (tgt := 56) hx hb dX0_firstMisfit_26 (by decide) (fun c5 => ?_) (fun c5 => ?_)
        · have h := (if_inv h).2 c5
          exact j56 g _ _ _ hG (lv_sub hl [0] rfl) h
        · have h := (if_inv h).1 c5
          refine lv_aload_n hx hb dX0_firstMisfit_29 rfl (lv_at hl 0 rfl) ?_
          refine r_callVI C hl.1 hG [] [] (m0_line E l g) LX0_32 rfl KC0 rfl (rm_ok (by decide) (by decide)) (Nat.le_of_ble_eq_true rfl) ⟨Nat.le_refl _, Nat.le_refl _⟩ rfl dX0_firstMisfit_30 h (fun u6 H locs hG h => ?_)
          refine lv_if_eq (tgt := 45) hx hb dX0_firstMisfit_33 (by decide) (fun c7 => ?_) (fun c7 => ?_)
          · have h := (if_inv h).1 c7
            exact j45 u6.2 _ _ _ hG (lv_sub hl [0] rfl) h
          · have h := (if_inv h).2 c7
            refine lv_aload_n hx hb dX0_firstMisfit_36 rfl (lv_at hl 0 rfl) ?_
            refine lv_bipush (v := 59) hx hb dX0_firstMisfit_37 (by decide) ?_
            refine r_callVI C hl.1 hG [.int 59] [] (m0_take E l 59 u6.2) LX0_36 rfl KC0 rfl (rm_ok (by decide) (by decide)) (Nat.le_of_ble_eq_true rfl) ⟨Nat.le_refl _, Nat.le_refl _⟩ rfl dX0_firstMisfit_39 h (fun u8 H locs hG h => ?_)
            refine lv_if_ne (tgt := 50) hx hb dX0_firstMisfit_42 (by decide) (fun c9 => ?_) (fun c9 => ?_)
            · have h := (if_inv h).2 c9
              refine r_iinc (w := 1) (lv' := fun x10 => [(1, .int x10), (0, .ref (E.ad 13))]) C dX0_firstMisfit_50 hl (k := 1) rfl (by decide) (by decide) (fun _ => rfl) h (fun x10 ls hl h => ?_)
              refine lv_goto (tgt := 14) hx hb dX0_firstMisfit_53 (by decide) ?_
              exact ih x10 u8.2 _ _ _ hG (lv_sub hl [1, 0] rfl) h
            · have h := (if_inv h).1 c9
              exact j45 u8.2 _ _ _ hG (lv_sub hl [0] rfl) h
  refine lv_aload_n hx hb dX0_firstMisfit_0 rfl (lv_at hl 0 rfl) ?_
  refine r_getA (j := 8) C hG FX0_15 rfl rfl dX0_firstMisfit_1 ?_
  refine r_callVV C hl.1 hG [] [] (m2_clear E l 8 rfl g) LX0_19 rfl KC2 rfl (rm_ok (by decide) (by decide)) (Nat.le_of_ble_eq_true rfl) ⟨Nat.le_refl _, Nat.le_refl _⟩ rfl dX0_firstMisfit_4 h (fun g11 H locs hG h => ?_)
  refine lv_aload_n hx hb dX0_firstMisfit_7 rfl (lv_at hl 0 rfl) ?_
  refine lv_iconst (v := 0) hx hb dX0_firstMisfit_8 (by decide) ?_
  refine r_putI C hG FX0_24 rfl rfl dX0_firstMisfit_9 h (fun H locs g12 hG h => ?_)
  refine lv_iconst (v := 0) hx hb dX0_firstMisfit_12 (by decide) ?_
  refine lv_istore_n (lv' := [(1, .int 0), (0, .ref (E.ad 13))]) hx hb dX0_firstMisfit_13 rfl hl (by decide) rfl (fun ls hl => ?_)
  exact j14 FU 0 g12 _ _ _ hG (lv_sub hl [1, 0] rfl) h
