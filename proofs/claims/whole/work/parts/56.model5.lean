def k11_passMinutes_31  : Nat → Int32 → Int32 → Int32 → G → Option (Int32 × G)
  | 0, _, _, _, _ => none
  | f + 1, v1, v2, v3, g =>
        if v1 ≤ v3 then
          some (((g 79 9) - v2), g)
        else
          (k11_pass 79 g).bind fun u2 =>
          bd (v3 + 1) fun x3 =>
          k11_passMinutes_31 f v1 v2 x3 u2.2
def k11_passMinutes  (a1 : Int32) (g : G) : Option (Int32 × G) :=
  bd (up g 47 0 0) fun g4 =>
  (k11_isIn a1 1 100 g4).bind fun u5 =>
  if u5 = 0 then
    (k11_no 1 g4).bind fun u8 =>
    some (u8.1, u8.2)
  else
    bd (g4 79 9) fun x7 =>
    k11_passMinutes_31 FU a1 x7 0 g4
set_option maxRecDepth 100000 in
set_option maxHeartbeats 4000000 in
theorem m11_passMinutes (E : EV) (l : Launch) (a1 : Int32) (g : G) : ∀ u, k11_passMinutes a1 g = some u → MI E l yX11_passMinutes cX11_passMinutes 4 (some .int) 8 0 0 [.ref (E.ad 47), .int a1] g u := by
  intro u h
  refine MG.of (by decide +kernel) (Nat.le_of_ble_eq_true rfl) ?_
  intro p e s m args below meth c C hr hnm ls hl hG
  have C : Cx p s m args meth c cX11_passMinutes 4 RX11 E := C
  have hx := C.1
  have hb := C.2.1
  have hl : lv_has ls 4 [(0, .ref (E.ad 47)), (1, .int a1)] := hl
  unfold k11_passMinutes at h
  have j31 : ∀ f : Nat, ∀ (v1 : Int32) (v2 : Int32) (v3 : Int32) (g : G) (H : Heap) (locs : List Loc) (ls : Array Slot), Gd E s H locs g [] → lv_has ls 4 [(0, .ref (E.ad 47)), (1, .int v1), (2, .int v2), (3, .int v3)] → k11_passMinutes_31 f v1 v2 v3 g = some u → W p l e (rmD 8 0 0) s m args below meth c H locs 0 0 (MQ below (QI E s.heap.size u.1 u.2) args s 0 0 (AA E s.heap.size)) (F0 m 31 ls []) := by
    intro f
    induction f with
    | zero =>
      intro v1 v2 v3 g H locs ls hG hl h
      unfold k11_passMinutes_31 at h
      cases h
    | succ f ih =>
      intro v1 v2 v3 g H locs ls hG hl h
      unfold k11_passMinutes_31 at h
      refine lv_iload_n hx hb dX11_passMinutes_31 rfl (lv_at hl 3 rfl) ?_
      refine lv_iload_n hx hb dX11_passMinutes_32 rfl (lv_at hl 1 rfl) ?_
      refine lv_icmp_ge (tgt := 51) hx hb dX11_passMinutes_33 (by decide) (fun c1 => ?_) (fun c1 => ?_)
      · have h := (if_inv h).1 c1
        refine lv_aload_n hx hb dX11_passMinutes_51 rfl (lv_at hl 0 rfl) ?_
        refine r_getA (j := 79) C hG FX11_48 rfl rfl dX11_passMinutes_52 ?_
        refine r_getI C hG FX11_355 rfl rfl dX11_passMinutes_55 ?_
        refine lv_iload_n hx hb dX11_passMinutes_58 rfl (lv_at hl 2 rfl) ?_
        refine lv_isub hx hb dX11_passMinutes_59 ?_
        exact r_iret C hG hr rfl dX11_passMinutes_60 h
      · have h := (if_inv h).2 c1
        refine lv_aload_n hx hb dX11_passMinutes_36 rfl (lv_at hl 0 rfl) ?_
        refine lv_aload_n hx hb dX11_passMinutes_37 rfl (lv_at hl 0 rfl) ?_
        refine r_getA (j := 79) C hG FX11_48 rfl rfl dX11_passMinutes_38 ?_
        refine r_callVI C hl.1 hG [.ref (E.ad 79)] [] (m11_pass E l 79 rfl g) LX11_372 rfl KC11 rfl (rm_ok (by decide) (by decide)) (Nat.le_of_ble_eq_true rfl) ⟨Nat.le_refl _, Nat.le_refl _⟩ rfl dX11_passMinutes_41 h (fun u2 H locs hG h => ?_)
        refine lv_pop hx hb dX11_passMinutes_44 rfl ?_
        refine r_iinc (w := 1) (lv' := fun x3 => [(3, .int x3), (0, .ref (E.ad 47)), (1, .int v1), (2, .int v2)]) C dX11_passMinutes_45 hl (k := 3) rfl (by decide) (by decide) (fun _ => rfl) h (fun x3 ls hl h => ?_)
        refine lv_goto (tgt := 31) hx hb dX11_passMinutes_48 (by decide) ?_
        exact ih v1 v2 x3 u2.2 _ _ _ hG (lv_sub hl [1, 2, 3, 0] rfl) h
  refine lv_aload_n hx hb dX11_passMinutes_0 rfl (lv_at hl 0 rfl) ?_
  refine lv_iconst (v := 0) hx hb dX11_passMinutes_1 (by decide) ?_
  refine r_putI C hG FX11_64 rfl rfl dX11_passMinutes_2 h (fun H locs g4 hG h => ?_)
  refine lv_iload_n hx hb dX11_passMinutes_5 rfl (lv_at hl 1 rfl) ?_
  refine lv_iconst (v := 1) hx hb dX11_passMinutes_6 (by decide) ?_
  refine lv_bipush (v := 100) hx hb dX11_passMinutes_7 (by decide) ?_
  refine r_callSIP C hl.1 hG [.int a1, .int 1, .int 100] [] (m11_isIn E l a1 1 100 g4) LX11_67 rfl (rm_ok (by decide) (by decide)) (Nat.le_of_ble_eq_true rfl) ⟨Nat.le_refl _, Nat.le_refl _⟩ rfl dX11_passMinutes_9 h (fun u5 H locs hG h => ?_)
  refine lv_if_ne (tgt := 21) hx hb dX11_passMinutes_12 (by decide) (fun c6 => ?_) (fun c6 => ?_)
  · have h := (if_inv h).2 c6
    refine lv_aload_n hx hb dX11_passMinutes_21 rfl (lv_at hl 0 rfl) ?_
    refine r_getA (j := 79) C hG FX11_48 rfl rfl dX11_passMinutes_22 ?_
    refine r_getI C hG FX11_355 rfl rfl dX11_passMinutes_25 ?_
    refine r_nm h (fun x7 h => ?_)
    refine lv_istore_n (lv' := [(2, .int x7), (0, .ref (E.ad 47)), (1, .int a1)]) hx hb dX11_passMinutes_28 rfl hl (by decide) rfl (fun ls hl => ?_)
    refine lv_iconst (v := 0) hx hb dX11_passMinutes_29 (by decide) ?_
    refine lv_istore_n (lv' := [(3, .int 0), (2, .int x7), (0, .ref (E.ad 47)), (1, .int a1)]) hx hb dX11_passMinutes_30 rfl hl (by decide) rfl (fun ls hl => ?_)
    exact j31 FU a1 x7 0 g4 _ _ _ hG (lv_sub hl [2, 3, 1, 0] rfl) h
  · have h := (if_inv h).1 c6
    refine lv_aload_n hx hb dX11_passMinutes_15 rfl (lv_at hl 0 rfl) ?_
    refine lv_iconst (v := 1) hx hb dX11_passMinutes_16 (by decide) ?_
    refine r_callVI C hl.1 hG [.int 1] [] (m11_no E l 1 g4) LX11_262 rfl KC11 rfl (rm_ok (by decide) (by decide)) (Nat.le_of_ble_eq_true rfl) ⟨Nat.le_refl _, Nat.le_refl _⟩ rfl dX11_passMinutes_17 h (fun u8 H locs hG h => ?_)
    exact r_iret C hG hr rfl dX11_passMinutes_20 h
def k11_lightAfter_34  : Nat → Int32 → Int32 → G → Option (Int32 × G)
  | 0, _, _, _ => none
  | f + 1, v1, v2, g =>
        if v1 ≤ v2 then
          (k11_light 86 g).bind fun u2 =>
          some (u2.1, u2.2)
        else
          (k11_pass 86 g).bind fun u3 =>
          bd (v2 + 1) fun x4 =>
          k11_lightAfter_34 f v1 x4 u3.2
def k11_lightAfter  (a1 : Int32) (g : G) : Option (Int32 × G) :=
  bd (up g 47 0 0) fun g5 =>
  (k11_isIn a1 1 100 g5).bind fun u6 =>
  if u6 = 0 then
    (k11_no 1 g5).bind fun u9 =>
    some (u9.1, u9.2)
  else
    (k9_become 86 79 g5).bind fun g8 =>
    k11_lightAfter_34 FU a1 0 g8
set_option maxRecDepth 100000 in
set_option maxHeartbeats 4000000 in
theorem m11_lightAfter (E : EV) (l : Launch) (a1 : Int32) (g : G) : ∀ u, k11_lightAfter a1 g = some u → MI E l yX11_lightAfter cX11_lightAfter 3 (some .int) 8 0 0 [.ref (E.ad 47), .int a1] g u := by
  intro u h
  refine MG.of (by decide +kernel) (Nat.le_of_ble_eq_true rfl) ?_
  intro p e s m args below meth c C hr hnm ls hl hG
  have C : Cx p s m args meth c cX11_lightAfter 3 RX11 E := C
  have hx := C.1
  have hb := C.2.1
  have hl : lv_has ls 3 [(0, .ref (E.ad 47)), (1, .int a1)] := hl
  unfold k11_lightAfter at h
  have j34 : ∀ f : Nat, ∀ (v1 : Int32) (v2 : Int32) (g : G) (H : Heap) (locs : List Loc) (ls : Array Slot), Gd E s H locs g [] → lv_has ls 3 [(0, .ref (E.ad 47)), (1, .int v1), (2, .int v2)] → k11_lightAfter_34 f v1 v2 g = some u → W p l e (rmD 8 0 0) s m args below meth c H locs 0 0 (MQ below (QI E s.heap.size u.1 u.2) args s 0 0 (AA E s.heap.size)) (F0 m 34 ls []) := by
    intro f
    induction f with
    | zero =>
      intro v1 v2 g H locs ls hG hl h
      unfold k11_lightAfter_34 at h
      cases h
    | succ f ih =>
      intro v1 v2 g H locs ls hG hl h
      unfold k11_lightAfter_34 at h
      refine lv_iload_n hx hb dX11_lightAfter_34 rfl (lv_at hl 2 rfl) ?_
      refine lv_iload_n hx hb dX11_lightAfter_35 rfl (lv_at hl 1 rfl) ?_
      refine lv_icmp_ge (tgt := 54) hx hb dX11_lightAfter_36 (by decide) (fun c1 => ?_) (fun c1 => ?_)
      · have h := (if_inv h).1 c1
        refine lv_aload_n hx hb dX11_lightAfter_54 rfl (lv_at hl 0 rfl) ?_
        refine lv_aload_n hx hb dX11_lightAfter_55 rfl (lv_at hl 0 rfl) ?_
        refine r_getA (j := 86) C hG FX11_52 rfl rfl dX11_lightAfter_56 ?_
        refine r_callVI C hl.1 hG [.ref (E.ad 86)] [] (m11_light E l 86 rfl g) LX11_304 rfl KC11 rfl (rm_ok (by decide) (by decide)) (Nat.le_of_ble_eq_true rfl) ⟨Nat.le_refl _, Nat.le_refl _⟩ rfl dX11_lightAfter_59 h (fun u2 H locs hG h => ?_)
        exact r_iret C hG hr rfl dX11_lightAfter_62 h
      · have h := (if_inv h).2 c1
        refine lv_aload_n hx hb dX11_lightAfter_39 rfl (lv_at hl 0 rfl) ?_
        refine lv_aload_n hx hb dX11_lightAfter_40 rfl (lv_at hl 0 rfl) ?_
        refine r_getA (j := 86) C hG FX11_52 rfl rfl dX11_lightAfter_41 ?_
        refine r_callVI C hl.1 hG [.ref (E.ad 86)] [] (m11_pass E l 86 rfl g) LX11_372 rfl KC11 rfl (rm_ok (by decide) (by decide)) (Nat.le_of_ble_eq_true rfl) ⟨Nat.le_refl _, Nat.le_refl _⟩ rfl dX11_lightAfter_44 h (fun u3 H locs hG h => ?_)
        refine lv_pop hx hb dX11_lightAfter_47 rfl ?_
        refine r_iinc (w := 1) (lv' := fun x4 => [(2, .int x4), (0, .ref (E.ad 47)), (1, .int v1)]) C dX11_lightAfter_48 hl (k := 2) rfl (by decide) (by decide) (fun _ => rfl) h (fun x4 ls hl h => ?_)
        refine lv_goto (tgt := 34) hx hb dX11_lightAfter_51 (by decide) ?_
        exact ih v1 x4 u3.2 _ _ _ hG (lv_sub hl [1, 2, 0] rfl) h
  refine lv_aload_n hx hb dX11_lightAfter_0 rfl (lv_at hl 0 rfl) ?_
  refine lv_iconst (v := 0) hx hb dX11_lightAfter_1 (by decide) ?_
  refine r_putI C hG FX11_64 rfl rfl dX11_lightAfter_2 h (fun H locs g5 hG h => ?_)
  refine lv_iload_n hx hb dX11_lightAfter_5 rfl (lv_at hl 1 rfl) ?_
  refine lv_iconst (v := 1) hx hb dX11_lightAfter_6 (by decide) ?_
  refine lv_bipush (v := 100) hx hb dX11_lightAfter_7 (by decide) ?_
  refine r_callSIP C hl.1 hG [.int a1, .int 1, .int 100] [] (m11_isIn E l a1 1 100 g5) LX11_67 rfl (rm_ok (by decide) (by decide)) (Nat.le_of_ble_eq_true rfl) ⟨Nat.le_refl _, Nat.le_refl _⟩ rfl dX11_lightAfter_9 h (fun u6 H locs hG h => ?_)
  refine lv_if_ne (tgt := 21) hx hb dX11_lightAfter_12 (by decide) (fun c7 => ?_) (fun c7 => ?_)
  · have h := (if_inv h).2 c7
    refine lv_aload_n hx hb dX11_lightAfter_21 rfl (lv_at hl 0 rfl) ?_
    refine r_getA (j := 86) C hG FX11_52 rfl rfl dX11_lightAfter_22 ?_
    refine lv_aload_n hx hb dX11_lightAfter_25 rfl (lv_at hl 0 rfl) ?_
    refine r_getA (j := 79) C hG FX11_48 rfl rfl dX11_lightAfter_26 ?_
    refine r_callVV C hl.1 hG [.ref (E.ad 79)] [] (m9_become E l 86 79 rfl rfl g5) LX11_375 rfl KC9 rfl (rm_ok (by decide) (by decide)) (Nat.le_of_ble_eq_true rfl) ⟨Nat.le_refl _, Nat.le_refl _⟩ rfl dX11_lightAfter_29 h (fun g8 H locs hG h => ?_)
    refine lv_iconst (v := 0) hx hb dX11_lightAfter_32 (by decide) ?_
    refine lv_istore_n (lv' := [(2, .int 0), (0, .ref (E.ad 47)), (1, .int a1)]) hx hb dX11_lightAfter_33 rfl hl (by decide) rfl (fun ls hl => ?_)
    exact j34 FU a1 0 g8 _ _ _ hG (lv_sub hl [1, 2, 0] rfl) h
  · have h := (if_inv h).1 c7
    refine lv_aload_n hx hb dX11_lightAfter_15 rfl (lv_at hl 0 rfl) ?_
    refine lv_iconst (v := 1) hx hb dX11_lightAfter_16 (by decide) ?_
    refine r_callVI C hl.1 hG [.int 1] [] (m11_no E l 1 g5) LX11_262 rfl KC11 rfl (rm_ok (by decide) (by decide)) (Nat.le_of_ble_eq_true rfl) ⟨Nat.le_refl _, Nat.le_refl _⟩ rfl dX11_lightAfter_17 h (fun u9 H locs hG h => ?_)
    exact r_iret C hG hr rfl dX11_lightAfter_20 h
def k11_minutesUntilSeen_18  : Nat → Int32 → G → Option (Int32 × G)
  | 0, _, _ => none
  | f + 1, v1, g =>
        if 100 < v1 then
          some ((-1), g)
        else
          (k11_seen 86 g).bind fun u2 =>
          if u2.1 = 0 then
            (k11_pass 86 u2.2).bind fun u4 =>
            bd (v1 + 1) fun x5 =>
            k11_minutesUntilSeen_18 f x5 u4.2
          else
            some (v1, u2.2)
def k11_minutesUntilSeen  (g : G) : Option (Int32 × G) :=
  bd (up g 47 0 0) fun g6 =>
  (k9_become 86 79 g6).bind fun g7 =>
  k11_minutesUntilSeen_18 FU 0 g7
set_option maxRecDepth 100000 in
set_option maxHeartbeats 4000000 in
theorem m11_minutesUntilSeen (E : EV) (l : Launch) (g : G) : ∀ u, k11_minutesUntilSeen g = some u → MI E l yX11_minutesUntilSeen cX11_minutesUntilSeen 2 (some .int) 8 0 0 [.ref (E.ad 47)] g u := by
  intro u h
  refine MG.of (by decide +kernel) (Nat.le_of_ble_eq_true rfl) ?_
  intro p e s m args below meth c C hr hnm ls hl hG
  have C : Cx p s m args meth c cX11_minutesUntilSeen 2 RX11 E := C
  have hx := C.1
  have hb := C.2.1
  have hl : lv_has ls 2 [(0, .ref (E.ad 47))] := hl
  unfold k11_minutesUntilSeen at h
  have j18 : ∀ f : Nat, ∀ (v1 : Int32) (g : G) (H : Heap) (locs : List Loc) (ls : Array Slot), Gd E s H locs g [] → lv_has ls 2 [(0, .ref (E.ad 47)), (1, .int v1)] → k11_minutesUntilSeen_18 f v1 g = some u → W p l e (rmD 8 0 0) s m args below meth c H locs 0 0 (MQ below (QI E s.heap.size u.1 u.2) args s 0 0 (AA E s.heap.size)) (F0 m 18 ls []) := by
    intro f
    induction f with
    | zero =>
      intro v1 g H locs ls hG hl h
      unfold k11_minutesUntilSeen_18 at h
      cases h
    | succ f ih =>
      intro v1 g H locs ls hG hl h
      unfold k11_minutesUntilSeen_18 at h
      refine lv_iload_n hx hb dX11_minutesUntilSeen_18 rfl (lv_at hl 1 rfl) ?_
      refine lv_bipush (v := 100) hx hb dX11_minutesUntilSeen_19 (by decide) ?_
      refine lv_icmp_gt (tgt := 52) hx hb dX11_minutesUntilSeen_21 (by decide) (fun c1 => ?_) (fun c1 => ?_)
      · have h := (if_inv h).1 c1
        refine lv_iconst (v := (-1)) hx hb dX11_minutesUntilSeen_52 (by decide) ?_
        exact r_iret C hG hr rfl dX11_minutesUntilSeen_53 h
      · have h := (if_inv h).2 c1
        refine lv_aload_n hx hb dX11_minutesUntilSeen_24 rfl (lv_at hl 0 rfl) ?_
        refine lv_aload_n hx hb dX11_minutesUntilSeen_25 rfl (lv_at hl 0 rfl) ?_
        refine r_getA (j := 86) C hG FX11_52 rfl rfl dX11_minutesUntilSeen_26 ?_
        refine r_callVI C hl.1 hG [.ref (E.ad 86)] [] (m11_seen E l 86 rfl g) LX11_317 rfl KC11 rfl (rm_ok (by decide) (by decide)) (Nat.le_of_ble_eq_true rfl) ⟨Nat.le_refl _, Nat.le_refl _⟩ rfl dX11_minutesUntilSeen_29 h (fun u2 H locs hG h => ?_)
        refine lv_if_eq (tgt := 37) hx hb dX11_minutesUntilSeen_32 (by decide) (fun c3 => ?_) (fun c3 => ?_)
        · have h := (if_inv h).1 c3
          refine lv_aload_n hx hb dX11_minutesUntilSeen_37 rfl (lv_at hl 0 rfl) ?_
          refine lv_aload_n hx hb dX11_minutesUntilSeen_38 rfl (lv_at hl 0 rfl) ?_
          refine r_getA (j := 86) C hG FX11_52 rfl rfl dX11_minutesUntilSeen_39 ?_
          refine r_callVI C hl.1 hG [.ref (E.ad 86)] [] (m11_pass E l 86 rfl u2.2) LX11_372 rfl KC11 rfl (rm_ok (by decide) (by decide)) (Nat.le_of_ble_eq_true rfl) ⟨Nat.le_refl _, Nat.le_refl _⟩ rfl dX11_minutesUntilSeen_42 h (fun u4 H locs hG h => ?_)
          refine lv_pop hx hb dX11_minutesUntilSeen_45 rfl ?_
          refine r_iinc (w := 1) (lv' := fun x5 => [(1, .int x5), (0, .ref (E.ad 47))]) C dX11_minutesUntilSeen_46 hl (k := 1) rfl (by decide) (by decide) (fun _ => rfl) h (fun x5 ls hl h => ?_)
          refine lv_goto (tgt := 18) hx hb dX11_minutesUntilSeen_49 (by decide) ?_
          exact ih x5 u4.2 _ _ _ hG (lv_sub hl [1, 0] rfl) h
        · have h := (if_inv h).2 c3
          refine lv_iload_n hx hb dX11_minutesUntilSeen_35 rfl (lv_at hl 1 rfl) ?_
          exact r_iret C hG hr rfl dX11_minutesUntilSeen_36 h
  refine lv_aload_n hx hb dX11_minutesUntilSeen_0 rfl (lv_at hl 0 rfl) ?_
  refine lv_iconst (v := 0) hx hb dX11_minutesUntilSeen_1 (by decide) ?_
  refine r_putI C hG FX11_64 rfl rfl dX11_minutesUntilSeen_2 h (fun H locs g6 hG h => ?_)
  refine lv_aload_n hx hb dX11_minutesUntilSeen_5 rfl (lv_at hl 0 rfl) ?_
  refine r_getA (j := 86) C hG FX11_52 rfl rfl dX11_minutesUntilSeen_6 ?_
  refine lv_aload_n hx hb dX11_minutesUntilSeen_9 rfl (lv_at hl 0 rfl) ?_
  refine r_getA (j := 79) C hG FX11_48 rfl rfl dX11_minutesUntilSeen_10 ?_
  refine r_callVV C hl.1 hG [.ref (E.ad 79)] [] (m9_become E l 86 79 rfl rfl g6) LX11_375 rfl KC9 rfl (rm_ok (by decide) (by decide)) (Nat.le_of_ble_eq_true rfl) ⟨Nat.le_refl _, Nat.le_refl _⟩ rfl dX11_minutesUntilSeen_13 h (fun g7 H locs hG h => ?_)
  refine lv_iconst (v := 0) hx hb dX11_minutesUntilSeen_16 (by decide) ?_
  refine lv_istore_n (lv' := [(1, .int 0), (0, .ref (E.ad 47))]) hx hb dX11_minutesUntilSeen_17 rfl hl (by decide) rfl (fun ls hl => ?_)
  exact j18 FU 0 g7 _ _ _ hG (lv_sub hl [1, 0] rfl) h
def k11_minutesUntilDone_48  (K27 : Int32 → Int32 → G → Option (Int32 × G)) (v2 : Int32) (v3 : Int32) (g : G) : Option (Int32 × G) :=
      if v2 = 0 then
        some (v3, g)
      else
        bd (v3 + 1) fun x2 =>
        K27 v2 x2 g
def k11_minutesUntilDone_27  : Nat → Int32 → Int32 → G → Option (Int32 × G)
  | 0, _, _, _ => none
  | f + 1, v2, v3, g =>
        if 300 < v3 then
          some ((-1), g)
        else
          (k11_pass 86 g).bind fun u4 =>
          if u4.1 = 0 then
            k11_minutesUntilDone_48 (k11_minutesUntilDone_27 f) v2 v3 u4.2
          else
            bd (v2 + (-1)) fun x6 =>
            k11_minutesUntilDone_48 (k11_minutesUntilDone_27 f) x6 v3 u4.2
def k11_minutesUntilDone  (a1 : Int32) (g : G) : Option (Int32 × G) :=
  (k11_isJob a1 g).bind fun u7 =>
  if u7.1 = 0 then
    some (0, u7.2)
  else
    (k9_become 86 79 u7.2).bind fun g9 =>
    bd (a1 + 1) fun x10 =>
    k11_minutesUntilDone_27 FU x10 1 g9
set_option maxRecDepth 100000 in
set_option maxHeartbeats 4000000 in
theorem m11_minutesUntilDone (E : EV) (l : Launch) (a1 : Int32) (g : G) : ∀ u, k11_minutesUntilDone a1 g = some u → MI E l yX11_minutesUntilDone cX11_minutesUntilDone 4 (some .int) 8 0 0 [.ref (E.ad 47), .int a1] g u := by
  intro u h
  refine MG.of (by decide +kernel) (Nat.le_of_ble_eq_true rfl) ?_
  intro p e s m args below meth c C hr hnm ls hl hG
  have C : Cx p s m args meth c cX11_minutesUntilDone 4 RX11 E := C
  have hx := C.1
  have hb := C.2.1
  have hl : lv_has ls 4 [(0, .ref (E.ad 47)), (1, .int a1)] := hl
  unfold k11_minutesUntilDone at h
  have j48 : ∀ (K27 : Int32 → Int32 → G → Option (Int32 × G)), (∀ (v2 : Int32) (v3 : Int32) (g : G) (H : Heap) (locs : List Loc) (ls : Array Slot), Gd E s H locs g [] → lv_has ls 4 [(0, .ref (E.ad 47)), (2, .int v2), (3, .int v3)] → K27 v2 v3 g = some u → W p l e (rmD 8 0 0) s m args below meth c H locs 0 0 (MQ below (QI E s.heap.size u.1 u.2) args s 0 0 (AA E s.heap.size)) (F0 m 27 ls [])) → ∀ (v2 : Int32) (v3 : Int32) (g : G) (H : Heap) (locs : List Loc) (ls : Array Slot), Gd E s H locs g [] → lv_has ls 4 [(0, .ref (E.ad 47)), (2, .int v2), (3, .int v3)] → k11_minutesUntilDone_48 K27 v2 v3 g = some u → W p l e (rmD 8 0 0) s m args below meth c H locs 0 0 (MQ below (QI E s.heap.size u.1 u.2) args s 0 0 (AA E s.heap.size)) (F0 m 48 ls []) := by
    intro K27 hK27 v2 v3 g H locs ls hG hl h
    unfold k11_minutesUntilDone_48 at h
    refine lv_iload_n hx hb dX11_minutesUntilDone_48 rfl (lv_at hl 1 rfl) ?_
    refine lv_if_ne (tgt := 54) hx hb dX11_minutesUntilDone_49 (by decide) (fun c1 => ?_) (fun c1 => ?_)
    · have h := (if_inv h).2 c1
      refine r_iinc (w := 1) (lv' := fun x2 => [(3, .int x2), (0, .ref (E.ad 47)), (2, .int v2)]) C dX11_minutesUntilDone_54 hl (k := 2) rfl (by decide) (by decide) (fun _ => rfl) h (fun x2 ls hl h => ?_)
      refine lv_goto (tgt := 27) hx hb dX11_minutesUntilDone_57 (by decide) ?_
      exact hK27 v2 x2 g _ _ _ hG (lv_sub hl [1, 2, 0] rfl) h
    · have h := (if_inv h).1 c1
      refine lv_iload_n hx hb dX11_minutesUntilDone_52 rfl (lv_at hl 2 rfl) ?_
      exact r_iret C hG hr rfl dX11_minutesUntilDone_53 h
  have j27 : ∀ f : Nat, ∀ (v2 : Int32) (v3 : Int32) (g : G) (H : Heap) (locs : List Loc) (ls : Array Slot), Gd E s H locs g [] → lv_has ls 4 [(0, .ref (E.ad 47)), (2, .int v2), (3, .int v3)] → k11_minutesUntilDone_27 f v2 v3 g = some u → W p l e (rmD 8 0 0) s m args below meth c H locs 0 0 (MQ below (QI E s.heap.size u.1 u.2) args s 0 0 (AA E s.heap.size)) (F0 m 27 ls []) := by
    intro f
    induction f with
    | zero =>
      intro v2 v3 g H locs ls hG hl h
      unfold k11_minutesUntilDone_27 at h
      cases h
    | succ f ih =>
      intro v2 v3 g H locs ls hG hl h
      unfold k11_minutesUntilDone_27 at h
      refine lv_iload_n hx hb dX11_minutesUntilDone_27 rfl (lv_at hl 2 rfl) ?_
      refine lv_sipush (v := 300) hx hb dX11_minutesUntilDone_28 (by decide) ?_
      refine lv_icmp_gt (tgt := 60) hx hb dX11_minutesUntilDone_31 (by decide) (fun c3 => ?_) (fun c3 => ?_)
      · have h := (if_inv h).1 c3
        refine lv_iconst (v := (-1)) hx hb dX11_minutesUntilDone_60 (by decide) ?_
        exact r_iret C hG hr rfl dX11_minutesUntilDone_61 h
      · have h := (if_inv h).2 c3
        refine lv_aload_n hx hb dX11_minutesUntilDone_34 rfl (lv_at hl 0 rfl) ?_
        refine lv_aload_n hx hb dX11_minutesUntilDone_35 rfl (lv_at hl 0 rfl) ?_
        refine r_getA (j := 86) C hG FX11_52 rfl rfl dX11_minutesUntilDone_36 ?_
        refine r_callVI C hl.1 hG [.ref (E.ad 86)] [] (m11_pass E l 86 rfl g) LX11_372 rfl KC11 rfl (rm_ok (by decide) (by decide)) (Nat.le_of_ble_eq_true rfl) ⟨Nat.le_refl _, Nat.le_refl _⟩ rfl dX11_minutesUntilDone_39 h (fun u4 H locs hG h => ?_)
        refine lv_if_eq (tgt := 48) hx hb dX11_minutesUntilDone_42 (by decide) (fun c5 => ?_) (fun c5 => ?_)
        · have h := (if_inv h).1 c5
          exact j48 (k11_minutesUntilDone_27 f) ih v2 v3 u4.2 _ _ _ hG (lv_sub hl [0, 1, 2] rfl) h
        · have h := (if_inv h).2 c5
          refine r_iinc (w := (-1)) (lv' := fun x6 => [(2, .int x6), (0, .ref (E.ad 47)), (3, .int v3)]) C dX11_minutesUntilDone_45 hl (k := 1) rfl (by decide) (by decide) (fun _ => rfl) h (fun x6 ls hl h => ?_)
          exact j48 (k11_minutesUntilDone_27 f) ih x6 v3 u4.2 _ _ _ hG (lv_sub hl [1, 0, 2] rfl) h
  refine lv_aload_n hx hb dX11_minutesUntilDone_0 rfl (lv_at hl 0 rfl) ?_
  refine lv_iload_n hx hb dX11_minutesUntilDone_1 rfl (lv_at hl 1 rfl) ?_
  refine r_callVI C hl.1 hG [.int a1] [] (m11_isJob E l a1 g) LX11_358 rfl KC11 rfl (rm_ok (by decide) (by decide)) (Nat.le_of_ble_eq_true rfl) ⟨Nat.le_refl _, Nat.le_refl _⟩ rfl dX11_minutesUntilDone_2 h (fun u7 H locs hG h => ?_)
  refine lv_if_ne (tgt := 10) hx hb dX11_minutesUntilDone_5 (by decide) (fun c8 => ?_) (fun c8 => ?_)
  · have h := (if_inv h).2 c8
    refine lv_aload_n hx hb dX11_minutesUntilDone_10 rfl (lv_at hl 0 rfl) ?_
    refine r_getA (j := 86) C hG FX11_52 rfl rfl dX11_minutesUntilDone_11 ?_
    refine lv_aload_n hx hb dX11_minutesUntilDone_14 rfl (lv_at hl 0 rfl) ?_
    refine r_getA (j := 79) C hG FX11_48 rfl rfl dX11_minutesUntilDone_15 ?_
    refine r_callVV C hl.1 hG [.ref (E.ad 79)] [] (m9_become E l 86 79 rfl rfl u7.2) LX11_375 rfl KC9 rfl (rm_ok (by decide) (by decide)) (Nat.le_of_ble_eq_true rfl) ⟨Nat.le_refl _, Nat.le_refl _⟩ rfl dX11_minutesUntilDone_18 h (fun g9 H locs hG h => ?_)
    refine lv_iload_n hx hb dX11_minutesUntilDone_21 rfl (lv_at hl 1 rfl) ?_
    refine lv_iconst (v := 1) hx hb dX11_minutesUntilDone_22 (by decide) ?_
    refine lv_iadd hx hb dX11_minutesUntilDone_23 ?_
    refine r_nm h (fun x10 h => ?_)
    refine lv_istore_n (lv' := [(2, .int x10), (0, .ref (E.ad 47)), (1, .int a1)]) hx hb dX11_minutesUntilDone_24 rfl hl (by decide) rfl (fun ls hl => ?_)
    refine lv_iconst (v := 1) hx hb dX11_minutesUntilDone_25 (by decide) ?_
    refine lv_istore_n (lv' := [(3, .int 1), (2, .int x10), (0, .ref (E.ad 47)), (1, .int a1)]) hx hb dX11_minutesUntilDone_26 rfl hl (by decide) rfl (fun ls hl => ?_)
    exact j27 FU x10 1 g9 _ _ _ hG (lv_sub hl [2, 1, 0] rfl) h
  · have h := (if_inv h).1 c8
    refine lv_iconst (v := 0) hx hb dX11_minutesUntilDone_8 (by decide) ?_
    exact r_iret C hG hr rfl dX11_minutesUntilDone_9 h
def k11_bestToClean_18  : Nat → Int32 → Int32 → Int32 → G → Option (Int32 × G)
  | 0, _, _, _, _ => none
  | f + 1, v1, v2, v3, g =>
        if (g 54 0) ≤ v3 then
          some (v1, g)
        else
          (k9_become 86 79 g).bind fun g2 =>
          (k9_clean 86 v3 g2).bind fun g3 =>
          (k11_light 86 g3).bind fun u4 =>
          if v2 < u4.1 then
            bd (u4.2 47 22) fun x6 =>
            bd (v3 + 1) fun x7 =>
            k11_bestToClean_18 f v3 x6 x7 u4.2
          else
            bd (v3 + 1) fun x8 =>
            k11_bestToClean_18 f v1 v2 x8 u4.2
def k11_bestToClean  (g : G) : Option (Int32 × G) :=
  bd (up g 47 0 0) fun g9 =>
  (k11_light 79 g9).bind fun u10 =>
  bd u10.1 fun x11 =>
  k11_bestToClean_18 FU (-1) x11 0 u10.2
set_option maxRecDepth 100000 in
set_option maxHeartbeats 4000000 in
theorem m11_bestToClean (E : EV) (l : Launch) (g : G) : ∀ u, k11_bestToClean g = some u → MI E l yX11_bestToClean cX11_bestToClean 4 (some .int) 4 0 0 [.ref (E.ad 47)] g u := by
  intro u h
  refine MG.of (by decide +kernel) (Nat.le_of_ble_eq_true rfl) ?_
  intro p e s m args below meth c C hr hnm ls hl hG
  have C : Cx p s m args meth c cX11_bestToClean 4 RX11 E := C
  have hx := C.1
  have hb := C.2.1
  have hl : lv_has ls 4 [(0, .ref (E.ad 47))] := hl
  unfold k11_bestToClean at h
  have j18 : ∀ f : Nat, ∀ (v1 : Int32) (v2 : Int32) (v3 : Int32) (g : G) (H : Heap) (locs : List Loc) (ls : Array Slot), Gd E s H locs g [] → lv_has ls 4 [(0, .ref (E.ad 47)), (1, .int v1), (2, .int v2), (3, .int v3)] → k11_bestToClean_18 f v1 v2 v3 g = some u → W p l e (rmD 4 0 0) s m args below meth c H locs 0 0 (MQ below (QI E s.heap.size u.1 u.2) args s 0 0 (AA E s.heap.size)) (F0 m 18 ls []) := by
    intro f
    induction f with
    | zero =>
      intro v1 v2 v3 g H locs ls hG hl h
      unfold k11_bestToClean_18 at h
      cases h
    | succ f ih =>
      intro v1 v2 v3 g H locs ls hG hl h
      unfold k11_bestToClean_18 at h
      refine lv_iload_n hx hb dX11_bestToClean_18 rfl (lv_at hl 3 rfl) ?_
      refine lv_aload_n hx hb dX11_bestToClean_19 rfl (lv_at hl 0 rfl) ?_
      refine r_getA (j := 54) C hG FX11_35 rfl rfl dX11_bestToClean_20 ?_
      refine r_getI C hG FX11_149 rfl rfl dX11_bestToClean_23 ?_
      refine lv_icmp_ge (tgt := 76) hx hb dX11_bestToClean_26 (by decide) (fun c1 => ?_) (fun c1 => ?_)
      · have h := (if_inv h).1 c1
        refine lv_iload_n hx hb dX11_bestToClean_76 rfl (lv_at hl 1 rfl) ?_
        exact r_iret C hG hr rfl dX11_bestToClean_77 h
      · have h := (if_inv h).2 c1
        refine lv_aload_n hx hb dX11_bestToClean_29 rfl (lv_at hl 0 rfl) ?_
        refine r_getA (j := 86) C hG FX11_52 rfl rfl dX11_bestToClean_30 ?_
        refine lv_aload_n hx hb dX11_bestToClean_33 rfl (lv_at hl 0 rfl) ?_
        refine r_getA (j := 79) C hG FX11_48 rfl rfl dX11_bestToClean_34 ?_
        refine r_callVV C hl.1 hG [.ref (E.ad 79)] [] (m9_become E l 86 79 rfl rfl g) LX11_375 rfl KC9 rfl (rm_ok (by decide) (by decide)) (Nat.le_of_ble_eq_true rfl) ⟨Nat.le_refl _, Nat.le_refl _⟩ rfl dX11_bestToClean_37 h (fun g2 H locs hG h => ?_)
        refine lv_aload_n hx hb dX11_bestToClean_40 rfl (lv_at hl 0 rfl) ?_
        refine r_getA (j := 86) C hG FX11_52 rfl rfl dX11_bestToClean_41 ?_
        refine lv_iload_n hx hb dX11_bestToClean_44 rfl (lv_at hl 3 rfl) ?_
        refine r_callVV C hl.1 hG [.int v3] [] (m9_clean E l 86 rfl v3 g2) LX11_377 rfl KC9 rfl (rm_ok (by decide) (by decide)) (Nat.le_of_ble_eq_true rfl) ⟨Nat.le_refl _, Nat.le_refl _⟩ rfl dX11_bestToClean_45 h (fun g3 H locs hG h => ?_)
        refine lv_aload_n hx hb dX11_bestToClean_48 rfl (lv_at hl 0 rfl) ?_
        refine lv_aload_n hx hb dX11_bestToClean_49 rfl (lv_at hl 0 rfl) ?_
        refine r_getA (j := 86) C hG FX11_52 rfl rfl dX11_bestToClean_50 ?_
        refine r_callVI C hl.1 hG [.ref (E.ad 86)] [] (m11_light E l 86 rfl g3) LX11_304 rfl KC11 rfl (rm_ok (by decide) (by decide)) (Nat.le_of_ble_eq_true rfl) ⟨Nat.le_refl _, Nat.le_refl _⟩ rfl dX11_bestToClean_53 h (fun u4 H locs hG h => ?_)
        refine lv_iload_n hx hb dX11_bestToClean_56 rfl (lv_at hl 2 rfl) ?_
        refine lv_icmp_gt (tgt := 63) hx hb dX11_bestToClean_57 (by decide) (fun c5 => ?_) (fun c5 => ?_)
        · have h := (if_inv h).1 c5
          refine lv_iload_n hx hb dX11_bestToClean_63 rfl (lv_at hl 3 rfl) ?_
          refine lv_istore_n (lv' := [(1, .int v3), (0, .ref (E.ad 47)), (2, .int v2), (3, .int v3)]) hx hb dX11_bestToClean_64 rfl hl (by decide) rfl (fun ls hl => ?_)
          refine lv_aload_n hx hb dX11_bestToClean_65 rfl (lv_at hl 1 rfl) ?_
          refine r_getI C hG FX11_294 rfl rfl dX11_bestToClean_66 ?_
          refine r_nm h (fun x6 h => ?_)
          refine lv_istore_n (lv' := [(2, .int x6), (1, .int v3), (0, .ref (E.ad 47)), (3, .int v3)]) hx hb dX11_bestToClean_69 rfl hl (by decide) rfl (fun ls hl => ?_)
          refine r_iinc (w := 1) (lv' := fun x7 => [(3, .int x7), (2, .int x6), (1, .int v3), (0, .ref (E.ad 47))]) C dX11_bestToClean_70 hl (k := 3) rfl (by decide) (by decide) (fun _ => rfl) h (fun x7 ls hl h => ?_)
          refine lv_goto (tgt := 18) hx hb dX11_bestToClean_73 (by decide) ?_
          exact ih v3 x6 x7 u4.2 _ _ _ hG (lv_sub hl [3, 2, 1, 0] rfl) h
        · have h := (if_inv h).2 c5
          refine lv_goto (tgt := 70) hx hb dX11_bestToClean_60 (by decide) ?_
          refine r_iinc (w := 1) (lv' := fun x8 => [(3, .int x8), (0, .ref (E.ad 47)), (1, .int v1), (2, .int v2)]) C dX11_bestToClean_70 hl (k := 3) rfl (by decide) (by decide) (fun _ => rfl) h (fun x8 ls hl h => ?_)
          refine lv_goto (tgt := 18) hx hb dX11_bestToClean_73 (by decide) ?_
          exact ih v1 v2 x8 u4.2 _ _ _ hG (lv_sub hl [1, 2, 3, 0] rfl) h
  refine lv_aload_n hx hb dX11_bestToClean_0 rfl (lv_at hl 0 rfl) ?_
  refine lv_iconst (v := 0) hx hb dX11_bestToClean_1 (by decide) ?_
  refine r_putI C hG FX11_64 rfl rfl dX11_bestToClean_2 h (fun H locs g9 hG h => ?_)
  refine lv_iconst (v := (-1)) hx hb dX11_bestToClean_5 (by decide) ?_
  refine lv_istore_n (lv' := [(1, .int (-1)), (0, .ref (E.ad 47))]) hx hb dX11_bestToClean_6 rfl hl (by decide) rfl (fun ls hl => ?_)
  refine lv_aload_n hx hb dX11_bestToClean_7 rfl (lv_at hl 1 rfl) ?_
  refine lv_aload_n hx hb dX11_bestToClean_8 rfl (lv_at hl 1 rfl) ?_
  refine r_getA (j := 79) C hG FX11_48 rfl rfl dX11_bestToClean_9 ?_
  refine r_callVI C hl.1 hG [.ref (E.ad 79)] [] (m11_light E l 79 rfl g9) LX11_304 rfl KC11 rfl (rm_ok (by decide) (by decide)) (Nat.le_of_ble_eq_true rfl) ⟨Nat.le_refl _, Nat.le_refl _⟩ rfl dX11_bestToClean_12 h (fun u10 H locs hG h => ?_)
  refine r_nm h (fun x11 h => ?_)
  refine lv_istore_n (lv' := [(2, .int x11), (1, .int (-1)), (0, .ref (E.ad 47))]) hx hb dX11_bestToClean_15 rfl hl (by decide) rfl (fun ls hl => ?_)
  refine lv_iconst (v := 0) hx hb dX11_bestToClean_16 (by decide) ?_
  refine lv_istore_n (lv' := [(3, .int 0), (2, .int x11), (1, .int (-1)), (0, .ref (E.ad 47))]) hx hb dX11_bestToClean_17 rfl hl (by decide) rfl (fun ls hl => ?_)
  exact j18 FU (-1) x11 0 u10.2 _ _ _ hG (lv_sub hl [3, 2, 1, 0] rfl) h
def k11_bestOffset_38  (K28 : Int32 → Int32 → Int32 → Int32 → G → Option (Int32 × G)) : Nat → Int32 → Int32 → Int32 → Int32 → Int32 → G → Option (Int32 × G)
  | 0, _, _, _, _, _, _ => none
  | f + 1, v1, v2, v3, v4, v5, g =>
        if v5 < (-1) then
          bd (v4 + 1) fun x2 =>
          K28 v1 v2 v3 x2 g
        else
          sto g 89 10 v1 (v5 * v4) fun g3 =>
          (k11_light 86 g3).bind fun u4 =>
          if v3 < u4.1 then
            bd (v5 * v4) fun x6 =>
            bd (u4.2 47 22) fun x7 =>
            bd (v5 + (-2)) fun x8 =>
            k11_bestOffset_38 K28 f v1 x6 x7 v4 x8 u4.2
          else
            bd (v5 + (-2)) fun x9 =>
            k11_bestOffset_38 K28 f v1 v2 v3 v4 x9 u4.2
def k11_bestOffset_28  : Nat → Int32 → Int32 → Int32 → Int32 → G → Option (Int32 × G)
  | 0, _, _, _, _, _ => none
  | f + 1, v1, v2, v3, v4, g =>
        if 90 < v4 then
          some (v2, g)
        else
          k11_bestOffset_38 (k11_bestOffset_28 f) FU v1 v2 v3 v4 1 g
def k11_bestOffset  (a1 : Int32) (g : G) : Option (Int32 × G) :=
  (k11_isMirror a1 g).bind fun u11 =>
  if u11.1 = 0 then
    some (0, u11.2)
  else
    (k9_become 86 79 u11.2).bind fun g13 =>
    k11_bestOffset_28 FU a1 0 (-1) 0 g13
set_option maxRecDepth 100000 in
set_option maxHeartbeats 4000000 in
theorem m11_bestOffset (E : EV) (l : Launch) (a1 : Int32) (g : G) : ∀ u, k11_bestOffset a1 g = some u → MI E l yX11_bestOffset cX11_bestOffset 6 (some .int) 4 0 0 [.ref (E.ad 47), .int a1] g u := by
  intro u h
  refine MG.of (by decide +kernel) (Nat.le_of_ble_eq_true rfl) ?_
  intro p e s m args below meth c C hr hnm ls hl hG
  have C : Cx p s m args meth c cX11_bestOffset 6 RX11 E := C
  have hx := C.1
  have hb := C.2.1
  have hl : lv_has ls 6 [(0, .ref (E.ad 47)), (1, .int a1)] := hl
  unfold k11_bestOffset at h
  have j38 : ∀ (K28 : Int32 → Int32 → Int32 → Int32 → G → Option (Int32 × G)), (∀ (v1 : Int32) (v2 : Int32) (v3 : Int32) (v4 : Int32) (g : G) (H : Heap) (locs : List Loc) (ls : Array Slot), Gd E s H locs g [] → lv_has ls 6 [(0, .ref (E.ad 47)), (1, .int v1), (2, .int v2), (3, .int v3), (4, .int v4)] → K28 v1 v2 v3 v4 g = some u → W p l e (rmD 4 0 0) s m args below meth c H locs 0 0 (MQ below (QI E s.heap.size u.1 u.2) args s 0 0 (AA E s.heap.size)) (F0 m 28 ls [])) → ∀ f : Nat, ∀ (v1 : Int32) (v2 : Int32) (v3 : Int32) (v4 : Int32) (v5 : Int32) (g : G) (H : Heap) (locs : List Loc) (ls : Array Slot), Gd E s H locs g [] → lv_has ls 6 [(0, .ref (E.ad 47)), (1, .int v1), (2, .int v2), (3, .int v3), (4, .int v4), (5, .int v5)] → k11_bestOffset_38 K28 f v1 v2 v3 v4 v5 g = some u → W p l e (rmD 4 0 0) s m args below meth c H locs 0 0 (MQ below (QI E s.heap.size u.1 u.2) args s 0 0 (AA E s.heap.size)) (F0 m 38 ls []) := by
    intro K28 hK28 f
    induction f with
    | zero =>
      intro v1 v2 v3 v4 v5 g H locs ls hG hl h
      unfold k11_bestOffset_38 at h
      cases h
    | succ f ih =>
      intro v1 v2 v3 v4 v5 g H locs ls hG hl h
      unfold k11_bestOffset_38 at h
      refine lv_iload hx hb dX11_bestOffset_38 (lv_at hl 5 rfl) ?_
      refine lv_iconst (v := (-1)) hx hb dX11_bestOffset_40 (by decide) ?_
      refine lv_icmp_lt (tgt := 90) hx hb dX11_bestOffset_41 (by decide) (fun c1 => ?_) (fun c1 => ?_)
      · have h := (if_inv h).1 c1
        refine r_iinc (w := 1) (lv' := fun x2 => [(4, .int x2), (0, .ref (E.ad 47)), (1, .int v1), (2, .int v2), (3, .int v3), (5, .int v5)]) C dX11_bestOffset_90 hl (k := 4) rfl (by decide) (by decide) (fun _ => rfl) h (fun x2 ls hl h => ?_)
        refine lv_goto (tgt := 28) hx hb dX11_bestOffset_93 (by decide) ?_
        exact hK28 v1 v2 v3 x2 g _ _ _ hG (lv_sub hl [1, 2, 3, 4, 0] rfl) h
      · have h := (if_inv h).2 c1
        refine lv_aload_n hx hb dX11_bestOffset_44 rfl (lv_at hl 0 rfl) ?_
        refine r_getA (j := 86) C hG FX11_52 rfl rfl dX11_bestOffset_45 ?_
        refine r_getR (d := 3) C hG FX11_293 rfl rfl (by decide) dX11_bestOffset_48 ?_
        refine lv_iload_n hx hb dX11_bestOffset_51 rfl (lv_at hl 1 rfl) ?_
        refine lv_iload hx hb dX11_bestOffset_52 (lv_at hl 5 rfl) ?_
        refine lv_iload hx hb dX11_bestOffset_54 (lv_at hl 4 rfl) ?_
        refine lv_imul hx hb dX11_bestOffset_56 ?_
        refine r_ist C hG (N := 10) rfl (by decide) dX11_bestOffset_57 h (fun H locs g3 hG h => ?_)
        refine lv_aload_n hx hb dX11_bestOffset_58 rfl (lv_at hl 0 rfl) ?_
        refine lv_aload_n hx hb dX11_bestOffset_59 rfl (lv_at hl 0 rfl) ?_
        refine r_getA (j := 86) C hG FX11_52 rfl rfl dX11_bestOffset_60 ?_
        refine r_callVI C hl.1 hG [.ref (E.ad 86)] [] (m11_light E l 86 rfl g3) LX11_304 rfl KC11 rfl (rm_ok (by decide) (by decide)) (Nat.le_of_ble_eq_true rfl) ⟨Nat.le_refl _, Nat.le_refl _⟩ rfl dX11_bestOffset_63 h (fun u4 H locs hG h => ?_)
        refine lv_iload_n hx hb dX11_bestOffset_66 rfl (lv_at hl 3 rfl) ?_
        refine lv_icmp_gt (tgt := 73) hx hb dX11_bestOffset_67 (by decide) (fun c5 => ?_) (fun c5 => ?_)
        · have h := (if_inv h).1 c5
          refine lv_iload hx hb dX11_bestOffset_73 (lv_at hl 5 rfl) ?_
          refine lv_iload hx hb dX11_bestOffset_75 (lv_at hl 4 rfl) ?_
          refine lv_imul hx hb dX11_bestOffset_77 ?_
          refine r_nm h (fun x6 h => ?_)
          refine lv_istore_n (lv' := [(2, .int x6), (0, .ref (E.ad 47)), (1, .int v1), (3, .int v3), (4, .int v4), (5, .int v5)]) hx hb dX11_bestOffset_78 rfl hl (by decide) rfl (fun ls hl => ?_)
          refine lv_aload_n hx hb dX11_bestOffset_79 rfl (lv_at hl 1 rfl) ?_
          refine r_getI C hG FX11_294 rfl rfl dX11_bestOffset_80 ?_
          refine r_nm h (fun x7 h => ?_)
          refine lv_istore_n (lv' := [(3, .int x7), (2, .int x6), (0, .ref (E.ad 47)), (1, .int v1), (4, .int v4), (5, .int v5)]) hx hb dX11_bestOffset_83 rfl hl (by decide) rfl (fun ls hl => ?_)
          refine r_iinc (w := (-2)) (lv' := fun x8 => [(5, .int x8), (3, .int x7), (2, .int x6), (0, .ref (E.ad 47)), (1, .int v1), (4, .int v4)]) C dX11_bestOffset_84 hl (k := 5) rfl (by decide) (by decide) (fun _ => rfl) h (fun x8 ls hl h => ?_)
          refine lv_goto (tgt := 38) hx hb dX11_bestOffset_87 (by decide) ?_
          exact ih v1 x6 x7 v4 x8 u4.2 _ _ _ hG (lv_sub hl [3, 4, 2, 1, 5, 0] rfl) h
        · have h := (if_inv h).2 c5
          refine lv_goto (tgt := 84) hx hb dX11_bestOffset_70 (by decide) ?_
          refine r_iinc (w := (-2)) (lv' := fun x9 => [(5, .int x9), (0, .ref (E.ad 47)), (1, .int v1), (2, .int v2), (3, .int v3), (4, .int v4)]) C dX11_bestOffset_84 hl (k := 5) rfl (by decide) (by decide) (fun _ => rfl) h (fun x9 ls hl h => ?_)
          refine lv_goto (tgt := 38) hx hb dX11_bestOffset_87 (by decide) ?_
          exact ih v1 v2 v3 v4 x9 u4.2 _ _ _ hG (lv_sub hl [1, 2, 3, 4, 5, 0] rfl) h
  have j28 : ∀ f : Nat, ∀ (v1 : Int32) (v2 : Int32) (v3 : Int32) (v4 : Int32) (g : G) (H : Heap) (locs : List Loc) (ls : Array Slot), Gd E s H locs g [] → lv_has ls 6 [(0, .ref (E.ad 47)), (1, .int v1), (2, .int v2), (3, .int v3), (4, .int v4)] → k11_bestOffset_28 f v1 v2 v3 v4 g = some u → W p l e (rmD 4 0 0) s m args below meth c H locs 0 0 (MQ below (QI E s.heap.size u.1 u.2) args s 0 0 (AA E s.heap.size)) (F0 m 28 ls []) := by
    intro f
    induction f with
    | zero =>
      intro v1 v2 v3 v4 g H locs ls hG hl h
      unfold k11_bestOffset_28 at h
      cases h
    | succ f ih =>
      intro v1 v2 v3 v4 g H locs ls hG hl h
      unfold k11_bestOffset_28 at h
      refine lv_iload hx hb dX11_bestOffset_28 (lv_at hl 4 rfl) ?_
      refine lv_bipush (v := 90) hx hb dX11_bestOffset_30 (by decide) ?_
      refine lv_icmp_gt (tgt := 96) hx hb dX11_bestOffset_32 (by decide) (fun c10 => ?_) (fun c10 => ?_)
      · have h := (if_inv h).1 c10
        refine lv_iload_n hx hb dX11_bestOffset_96 rfl (lv_at hl 2 rfl) ?_
        exact r_iret C hG hr rfl dX11_bestOffset_97 h
      · have h := (if_inv h).2 c10
        refine lv_iconst (v := 1) hx hb dX11_bestOffset_35 (by decide) ?_
        refine lv_istore (lv' := [(5, .int 1), (0, .ref (E.ad 47)), (1, .int v1), (2, .int v2), (3, .int v3), (4, .int v4)]) hx hb dX11_bestOffset_36 hl (by decide) rfl (fun ls hl => ?_)
        exact j38 (k11_bestOffset_28 f) ih FU v1 v2 v3 v4 1 g _ _ _ hG (lv_sub hl [1, 2, 3, 4, 5, 0] rfl) h
  refine lv_aload_n hx hb dX11_bestOffset_0 rfl (lv_at hl 0 rfl) ?_
  refine lv_iload_n hx hb dX11_bestOffset_1 rfl (lv_at hl 1 rfl) ?_
  refine r_callVI C hl.1 hG [.int a1] [] (m11_isMirror E l a1 g) LX11_349 rfl KC11 rfl (rm_ok (by decide) (by decide)) (Nat.le_of_ble_eq_true rfl) ⟨Nat.le_refl _, Nat.le_refl _⟩ rfl dX11_bestOffset_2 h (fun u11 H locs hG h => ?_)
  refine lv_if_ne (tgt := 10) hx hb dX11_bestOffset_5 (by decide) (fun c12 => ?_) (fun c12 => ?_)
  · have h := (if_inv h).2 c12
    refine lv_aload_n hx hb dX11_bestOffset_10 rfl (lv_at hl 0 rfl) ?_
    refine r_getA (j := 86) C hG FX11_52 rfl rfl dX11_bestOffset_11 ?_
    refine lv_aload_n hx hb dX11_bestOffset_14 rfl (lv_at hl 0 rfl) ?_
    refine r_getA (j := 79) C hG FX11_48 rfl rfl dX11_bestOffset_15 ?_
    refine r_callVV C hl.1 hG [.ref (E.ad 79)] [] (m9_become E l 86 79 rfl rfl u11.2) LX11_375 rfl KC9 rfl (rm_ok (by decide) (by decide)) (Nat.le_of_ble_eq_true rfl) ⟨Nat.le_refl _, Nat.le_refl _⟩ rfl dX11_bestOffset_18 h (fun g13 H locs hG h => ?_)
    refine lv_iconst (v := 0) hx hb dX11_bestOffset_21 (by decide) ?_
    refine lv_istore_n (lv' := [(2, .int 0), (0, .ref (E.ad 47)), (1, .int a1)]) hx hb dX11_bestOffset_22 rfl hl (by decide) rfl (fun ls hl => ?_)
    refine lv_iconst (v := (-1)) hx hb dX11_bestOffset_23 (by decide) ?_
    refine lv_istore_n (lv' := [(3, .int (-1)), (2, .int 0), (0, .ref (E.ad 47)), (1, .int a1)]) hx hb dX11_bestOffset_24 rfl hl (by decide) rfl (fun ls hl => ?_)
    refine lv_iconst (v := 0) hx hb dX11_bestOffset_25 (by decide) ?_
    refine lv_istore (lv' := [(4, .int 0), (3, .int (-1)), (2, .int 0), (0, .ref (E.ad 47)), (1, .int a1)]) hx hb dX11_bestOffset_26 hl (by decide) rfl (fun ls hl => ?_)
    exact j28 FU a1 0 (-1) 0 g13 _ _ _ hG (lv_sub hl [3, 4, 2, 1, 0] rfl) h
  · have h := (if_inv h).1 c12
    refine lv_iconst (v := 0) hx hb dX11_bestOffset_8 (by decide) ?_
    exact r_iret C hG hr rfl dX11_bestOffset_9 h
