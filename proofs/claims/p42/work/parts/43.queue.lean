def k3_begin (o : Nat) (g : G) : Option (G) :=
  bd (up g o 2 0) fun g1 =>
  bd (up g1 o 3 0) fun g2 =>
  bd (up g2 o 4 0) fun g3 =>
  some g3
set_option maxRecDepth 100000 in
set_option maxHeartbeats 4000000 in
theorem m3_begin (E : EV) (l : Launch) (o : Nat) (hk : kd o = 3) (g : G) : ∀ u, k3_begin o g = some u → MV E l yX3_begin cX3_begin 1 none 0 0 0 [.ref (E.ad o)] g u := by
  intro u h
  refine MG.of (by decide +kernel) (Nat.le_of_ble_eq_true rfl) ?_
  intro p e s m args below meth c C hr hnm ls hl hG
  have C : Cx p s m args meth c cX3_begin 1 RX3 E := C
  have hx := C.1
  have hb := C.2.1
  have hl : lv_has ls 1 [(0, .ref (E.ad o))] := hl
  unfold k3_begin at h
  refine lv_aload_n hx hb dX3_begin_0 rfl (lv_at hl 0 rfl) ?_
  refine lv_iconst (v := 0) hx hb dX3_begin_1 (by decide) ?_
  refine r_putI C hG FX3_18 hk rfl dX3_begin_2 h (fun H locs g1 hG h => ?_)
  refine lv_aload_n hx hb dX3_begin_5 rfl (lv_at hl 0 rfl) ?_
  refine lv_iconst (v := 0) hx hb dX3_begin_6 (by decide) ?_
  refine r_putI C hG FX3_22 hk rfl dX3_begin_7 h (fun H locs g2 hG h => ?_)
  refine lv_aload_n hx hb dX3_begin_10 rfl (lv_at hl 0 rfl) ?_
  refine lv_iconst (v := 0) hx hb dX3_begin_11 (by decide) ?_
  refine r_putI C hG FX3_25 hk rfl dX3_begin_12 h (fun H locs g3 hG h => ?_)
  exact r_vret C hG hr dX3_begin_15 h
def k3_copy (o : Nat) (o1 : Nat) (g : G) : Option (G) :=
  bd (cpy g (o1 + 1) (o + 1) 12) fun g1 =>
  bd (cpy g1 (o1 + 2) (o + 2) 12) fun g2 =>
  bd (up g2 o 2 (g2 o1 2)) fun g3 =>
  bd (up g3 o 3 (g3 o1 3)) fun g4 =>
  bd (up g4 o 4 (g4 o1 4)) fun g5 =>
  some g5
set_option maxRecDepth 100000 in
set_option maxHeartbeats 4000000 in
theorem m3_copy (E : EV) (l : Launch) (o : Nat) (o1 : Nat) (hk : kd o = 3) (hk1 : kd o1 = 3) (g : G) : ∀ u, k3_copy o o1 g = some u → MV E l yX3_copy cX3_copy 2 none 1 0 0 [.ref (E.ad o), .ref (E.ad o1)] g u := by
  intro u h
  refine MG.of (by decide +kernel) (Nat.le_of_ble_eq_true rfl) ?_
  intro p e s m args below meth c C hr hnm ls hl hG
  have C : Cx p s m args meth c cX3_copy 2 RX3 E := C
  have hx := C.1
  have hb := C.2.1
  have hl : lv_has ls 2 [(0, .ref (E.ad o)), (1, .ref (E.ad o1))] := hl
  unfold k3_copy at h
  refine lv_aload_n hx hb dX3_copy_0 rfl (lv_at hl 1 rfl) ?_
  refine r_getR (d := 1) C hG FX3_9 hk1 rfl (by decide) dX3_copy_1 ?_
  refine lv_iconst (v := 0) hx hb dX3_copy_4 (by decide) ?_
  refine lv_aload_n hx hb dX3_copy_5 rfl (lv_at hl 0 rfl) ?_
  refine r_getR (d := 1) C hG FX3_9 hk rfl (by decide) dX3_copy_6 ?_
  refine lv_iconst (v := 0) hx hb dX3_copy_9 (by decide) ?_
  refine lv_bipush (v := 12) hx hb dX3_copy_10 (by decide) ?_
  refine r_cpy C hl.1 hG (N := 12) LX3_28 (kR3_0 hk1) (kR3_0 hk) (by decide) rfl ⟨(Nat.le_of_ble_eq_true rfl), (by decide +kernel)⟩ dX3_copy_12 h (fun H locs g1 hG h => ?_)
  refine lv_aload_n hx hb dX3_copy_15 rfl (lv_at hl 1 rfl) ?_
  refine r_getR (d := 2) C hG FX3_15 hk1 rfl (by decide) dX3_copy_16 ?_
  refine lv_iconst (v := 0) hx hb dX3_copy_19 (by decide) ?_
  refine lv_aload_n hx hb dX3_copy_20 rfl (lv_at hl 0 rfl) ?_
  refine r_getR (d := 2) C hG FX3_15 hk rfl (by decide) dX3_copy_21 ?_
  refine lv_iconst (v := 0) hx hb dX3_copy_24 (by decide) ?_
  refine lv_bipush (v := 12) hx hb dX3_copy_25 (by decide) ?_
  refine r_cpy C hl.1 hG (N := 12) LX3_28 (kR3_1 hk1) (kR3_1 hk) (by decide) rfl ⟨(Nat.le_of_ble_eq_true rfl), (by decide +kernel)⟩ dX3_copy_27 h (fun H locs g2 hG h => ?_)
  refine lv_aload_n hx hb dX3_copy_30 rfl (lv_at hl 0 rfl) ?_
  refine lv_aload_n hx hb dX3_copy_31 rfl (lv_at hl 1 rfl) ?_
  refine r_getI C hG FX3_18 hk1 rfl dX3_copy_32 ?_
  refine r_putI C hG FX3_18 hk rfl dX3_copy_35 h (fun H locs g3 hG h => ?_)
  refine lv_aload_n hx hb dX3_copy_38 rfl (lv_at hl 0 rfl) ?_
  refine lv_aload_n hx hb dX3_copy_39 rfl (lv_at hl 1 rfl) ?_
  refine r_getI C hG FX3_22 hk1 rfl dX3_copy_40 ?_
  refine r_putI C hG FX3_22 hk rfl dX3_copy_43 h (fun H locs g4 hG h => ?_)
  refine lv_aload_n hx hb dX3_copy_46 rfl (lv_at hl 0 rfl) ?_
  refine lv_aload_n hx hb dX3_copy_47 rfl (lv_at hl 1 rfl) ?_
  refine r_getI C hG FX3_25 hk1 rfl dX3_copy_48 ?_
  refine r_putI C hG FX3_25 hk rfl dX3_copy_51 h (fun H locs g5 hG h => ?_)
  exact r_vret C hG hr dX3_copy_54 h
def k3_kindIn (o : Nat) (a1 : Int32) (g : G) : Option (Int32) :=
  if a1 < 0 then
    some (-1)
  else
    if (g o 2) ≤ a1 then
      some (-1)
    else
      ld g (o + 1) 12 a1 fun x3 =>
      some x3
set_option maxRecDepth 100000 in
set_option maxHeartbeats 4000000 in
theorem m3_kindIn (E : EV) (l : Launch) (o : Nat) (hk : kd o = 3) (a1 : Int32) (g : G) : ∀ u, k3_kindIn o a1 g = some u → MI E l yX3_kindIn cX3_kindIn 2 (some .int) 0 0 0 [.ref (E.ad o), .int a1] g (u, g) := by
  intro u h
  refine MG.of (by decide +kernel) (Nat.le_of_ble_eq_true rfl) ?_
  intro p e s m args below meth c C hr hnm ls hl hG
  have C : Cx p s m args meth c cX3_kindIn 2 RX3 E := C
  have hx := C.1
  have hb := C.2.1
  have hl : lv_has ls 2 [(0, .ref (E.ad o)), (1, .int a1)] := hl
  unfold k3_kindIn at h
  refine lv_iload_n hx hb dX3_kindIn_0 rfl (lv_at hl 1 rfl) ?_
  refine lv_if_lt (tgt := 21) hx hb dX3_kindIn_1 (by decide) (fun c1 => ?_) (fun c1 => ?_)
  · have h := (if_inv h).1 c1
    refine lv_iconst (v := (-1)) hx hb dX3_kindIn_21 (by decide) ?_
    exact r_iretP C hG hr rfl dX3_kindIn_22 h
  · have h := (if_inv h).2 c1
    refine lv_iload_n hx hb dX3_kindIn_4 rfl (lv_at hl 1 rfl) ?_
    refine lv_aload_n hx hb dX3_kindIn_5 rfl (lv_at hl 0 rfl) ?_
    refine r_getI C hG FX3_18 hk rfl dX3_kindIn_6 ?_
    refine lv_icmp_ge (tgt := 21) hx hb dX3_kindIn_9 (by decide) (fun c2 => ?_) (fun c2 => ?_)
    · have h := (if_inv h).1 c2
      refine lv_iconst (v := (-1)) hx hb dX3_kindIn_21 (by decide) ?_
      exact r_iretP C hG hr rfl dX3_kindIn_22 h
    · have h := (if_inv h).2 c2
      refine lv_aload_n hx hb dX3_kindIn_12 rfl (lv_at hl 0 rfl) ?_
      refine r_getR (d := 1) C hG FX3_9 hk rfl (by decide) dX3_kindIn_13 ?_
      refine lv_iload_n hx hb dX3_kindIn_16 rfl (lv_at hl 1 rfl) ?_
      refine r_ild C hG (N := 12) (kR3_0 hk) (by decide) dX3_kindIn_17 h (fun x3 h => ?_)
      refine lv_goto (tgt := 22) hx hb dX3_kindIn_18 (by decide) ?_
      exact r_iretP C hG hr rfl dX3_kindIn_22 h
def k3_mirrorIn (o : Nat) (a1 : Int32) (g : G) : Option (Int32) :=
  if a1 < 0 then
    some (-1)
  else
    if (g o 2) ≤ a1 then
      some (-1)
    else
      ld g (o + 2) 12 a1 fun x3 =>
      some x3
set_option maxRecDepth 100000 in
set_option maxHeartbeats 4000000 in
theorem m3_mirrorIn (E : EV) (l : Launch) (o : Nat) (hk : kd o = 3) (a1 : Int32) (g : G) : ∀ u, k3_mirrorIn o a1 g = some u → MI E l yX3_mirrorIn cX3_mirrorIn 2 (some .int) 0 0 0 [.ref (E.ad o), .int a1] g (u, g) := by
  intro u h
  refine MG.of (by decide +kernel) (Nat.le_of_ble_eq_true rfl) ?_
  intro p e s m args below meth c C hr hnm ls hl hG
  have C : Cx p s m args meth c cX3_mirrorIn 2 RX3 E := C
  have hx := C.1
  have hb := C.2.1
  have hl : lv_has ls 2 [(0, .ref (E.ad o)), (1, .int a1)] := hl
  unfold k3_mirrorIn at h
  refine lv_iload_n hx hb dX3_mirrorIn_0 rfl (lv_at hl 1 rfl) ?_
  refine lv_if_lt (tgt := 21) hx hb dX3_mirrorIn_1 (by decide) (fun c1 => ?_) (fun c1 => ?_)
  · have h := (if_inv h).1 c1
    refine lv_iconst (v := (-1)) hx hb dX3_mirrorIn_21 (by decide) ?_
    exact r_iretP C hG hr rfl dX3_mirrorIn_22 h
  · have h := (if_inv h).2 c1
    refine lv_iload_n hx hb dX3_mirrorIn_4 rfl (lv_at hl 1 rfl) ?_
    refine lv_aload_n hx hb dX3_mirrorIn_5 rfl (lv_at hl 0 rfl) ?_
    refine r_getI C hG FX3_18 hk rfl dX3_mirrorIn_6 ?_
    refine lv_icmp_ge (tgt := 21) hx hb dX3_mirrorIn_9 (by decide) (fun c2 => ?_) (fun c2 => ?_)
    · have h := (if_inv h).1 c2
      refine lv_iconst (v := (-1)) hx hb dX3_mirrorIn_21 (by decide) ?_
      exact r_iretP C hG hr rfl dX3_mirrorIn_22 h
    · have h := (if_inv h).2 c2
      refine lv_aload_n hx hb dX3_mirrorIn_12 rfl (lv_at hl 0 rfl) ?_
      refine r_getR (d := 2) C hG FX3_15 hk rfl (by decide) dX3_mirrorIn_13 ?_
      refine lv_iload_n hx hb dX3_mirrorIn_16 rfl (lv_at hl 1 rfl) ?_
      refine r_ild C hG (N := 12) (kR3_1 hk) (by decide) dX3_mirrorIn_17 h (fun x3 h => ?_)
      refine lv_goto (tgt := 22) hx hb dX3_mirrorIn_18 (by decide) ?_
      exact r_iretP C hG hr rfl dX3_mirrorIn_22 h
def k3_hasJobFor_2 (o : Nat) (g : G) : Nat → Int32 → Int32 → Option (Int32)
  | 0, _, _ => none
  | f + 1, v1, v2 =>
        if (g o 2) ≤ v2 then
          some 0
        else
          ld g (o + 2) 12 v2 fun x2 =>
          if x2 = v1 then
            some 1
          else
            bd (v2 + 1) fun x4 =>
            k3_hasJobFor_2 o g f v1 x4
def k3_hasJobFor (o : Nat) (a1 : Int32) (g : G) : Option (Int32) :=
  k3_hasJobFor_2 o g FU a1 0
set_option maxRecDepth 100000 in
set_option maxHeartbeats 4000000 in
theorem m3_hasJobFor (E : EV) (l : Launch) (o : Nat) (hk : kd o = 3) (a1 : Int32) (g : G) : ∀ u, k3_hasJobFor o a1 g = some u → MI E l yX3_hasJobFor cX3_hasJobFor 3 (some .boolean) 0 0 0 [.ref (E.ad o), .int a1] g (u, g) := by
  intro u h
  refine MG.of (by decide +kernel) (Nat.le_of_ble_eq_true rfl) ?_
  intro p e s m args below meth c C hr hnm ls hl hG
  have C : Cx p s m args meth c cX3_hasJobFor 3 RX3 E := C
  have hx := C.1
  have hb := C.2.1
  have hl : lv_has ls 3 [(0, .ref (E.ad o)), (1, .int a1)] := hl
  unfold k3_hasJobFor at h
  have j2 : ∀ f : Nat, ∀ (v1 : Int32) (v2 : Int32) (H : Heap) (locs : List Loc) (ls : Array Slot), Gd E s H locs g [] → lv_has ls 3 [(0, .ref (E.ad o)), (1, .int v1), (2, .int v2)] → k3_hasJobFor_2 o g f v1 v2 = some u → W p l e (rmD 0 0 0) s m args below meth c H locs 0 0 (MQ below (QI E s.heap.size u g) args s 0 0 (AA E s.heap.size)) (F0 m 2 ls []) := by
    intro f
    induction f with
    | zero =>
      intro v1 v2 H locs ls hG hl h
      unfold k3_hasJobFor_2 at h
      cases h
    | succ f ih =>
      intro v1 v2 H locs ls hG hl h
      unfold k3_hasJobFor_2 at h
      refine lv_iload_n hx hb dX3_hasJobFor_2 rfl (lv_at hl 2 rfl) ?_
      refine lv_aload_n hx hb dX3_hasJobFor_3 rfl (lv_at hl 0 rfl) ?_
      refine r_getI C hG FX3_18 hk rfl dX3_hasJobFor_4 ?_
      refine lv_icmp_ge (tgt := 28) hx hb dX3_hasJobFor_7 (by decide) (fun c1 => ?_) (fun c1 => ?_)
      · have h := (if_inv h).1 c1
        refine lv_iconst (v := 0) hx hb dX3_hasJobFor_28 (by decide) ?_
        exact r_iretP C hG hr rfl dX3_hasJobFor_29 h
      · have h := (if_inv h).2 c1
        refine lv_aload_n hx hb dX3_hasJobFor_10 rfl (lv_at hl 0 rfl) ?_
        refine r_getR (d := 2) C hG FX3_15 hk rfl (by decide) dX3_hasJobFor_11 ?_
        refine lv_iload_n hx hb dX3_hasJobFor_14 rfl (lv_at hl 2 rfl) ?_
        refine r_ild C hG (N := 12) (kR3_1 hk) (by decide) dX3_hasJobFor_15 h (fun x2 h => ?_)
        refine lv_iload_n hx hb dX3_hasJobFor_16 rfl (lv_at hl 1 rfl) ?_
        refine lv_icmp_ne (tgt := 22) hx hb dX3_hasJobFor_17 (by decide) (fun c3 => ?_) (fun c3 => ?_)
        · have h := (if_inv h).2 c3
          refine r_iinc (w := 1) (lv' := fun x4 => [(2, .int x4), (0, .ref (E.ad o)), (1, .int v1)]) C dX3_hasJobFor_22 hl (k := 2) rfl (by decide) (by decide) (fun _ => rfl) h (fun x4 ls hl h => ?_)
          refine lv_goto (tgt := 2) hx hb dX3_hasJobFor_25 (by decide) ?_
          exact ih v1 x4 _ _ _ hG (lv_sub hl [1, 2, 0] rfl) h
        · have h := (if_inv h).1 c3
          refine lv_iconst (v := 1) hx hb dX3_hasJobFor_20 (by decide) ?_
          exact r_iretP C hG hr rfl dX3_hasJobFor_21 h
  refine lv_iconst (v := 0) hx hb dX3_hasJobFor_0 (by decide) ?_
  refine lv_istore_n (lv' := [(2, .int 0), (0, .ref (E.ad o)), (1, .int a1)]) hx hb dX3_hasJobFor_1 rfl hl (by decide) rfl (fun ls hl => ?_)
  exact j2 FU a1 0 _ _ _ hG (lv_sub hl [1, 2, 0] rfl) h
def k3_takesIn_2 (o : Nat) (g : G) : Nat → Int32 → Int32 → Int32 → Option (Int32)
  | 0, _, _, _ => none
  | f + 1, v1, v2, v3 =>
        if (g o 2) ≤ v3 then
          if 12 ≤ (g o 2) then
            some 0
          else
            some 1
        else
          ld g (o + 1) 12 v3 fun x3 =>
          if x3 = v1 then
            ld g (o + 2) 12 v3 fun x6 =>
            if x6 = v2 then
              some 0
            else
              bd (v3 + 1) fun x8 =>
              k3_takesIn_2 o g f v1 v2 x8
          else
            bd (v3 + 1) fun x5 =>
            k3_takesIn_2 o g f v1 v2 x5
def k3_takesIn (o : Nat) (a1 : Int32) (a2 : Int32) (g : G) : Option (Int32) :=
  k3_takesIn_2 o g FU a1 a2 0
set_option maxRecDepth 100000 in
set_option maxHeartbeats 4000000 in
theorem m3_takesIn (E : EV) (l : Launch) (o : Nat) (hk : kd o = 3) (a1 : Int32) (a2 : Int32) (g : G) : ∀ u, k3_takesIn o a1 a2 g = some u → MI E l yX3_takesIn cX3_takesIn 4 (some .boolean) 0 0 0 [.ref (E.ad o), .int a1, .int a2] g (u, g) := by
  intro u h
  refine MG.of (by decide +kernel) (Nat.le_of_ble_eq_true rfl) ?_
  intro p e s m args below meth c C hr hnm ls hl hG
  have C : Cx p s m args meth c cX3_takesIn 4 RX3 E := C
  have hx := C.1
  have hb := C.2.1
  have hl : lv_has ls 4 [(0, .ref (E.ad o)), (1, .int a1), (2, .int a2)] := hl
  unfold k3_takesIn at h
  have j2 : ∀ f : Nat, ∀ (v1 : Int32) (v2 : Int32) (v3 : Int32) (H : Heap) (locs : List Loc) (ls : Array Slot), Gd E s H locs g [] → lv_has ls 4 [(0, .ref (E.ad o)), (1, .int v1), (2, .int v2), (3, .int v3)] → k3_takesIn_2 o g f v1 v2 v3 = some u → W p l e (rmD 0 0 0) s m args below meth c H locs 0 0 (MQ below (QI E s.heap.size u g) args s 0 0 (AA E s.heap.size)) (F0 m 2 ls []) := by
    intro f
    induction f with
    | zero =>
      intro v1 v2 v3 H locs ls hG hl h
      unfold k3_takesIn_2 at h
      cases h
    | succ f ih =>
      intro v1 v2 v3 H locs ls hG hl h
      unfold k3_takesIn_2 at h
      refine lv_iload_n hx hb dX3_takesIn_2 rfl (lv_at hl 3 rfl) ?_
      refine lv_aload_n hx hb dX3_takesIn_3 rfl (lv_at hl 0 rfl) ?_
      refine r_getI C hG FX3_18 hk rfl dX3_takesIn_4 ?_
      refine lv_icmp_ge (tgt := 38) hx hb dX3_takesIn_7 (by decide) (fun c1 => ?_) (fun c1 => ?_)
      · have h := (if_inv h).1 c1
        refine lv_aload_n hx hb dX3_takesIn_38 rfl (lv_at hl 0 rfl) ?_
        refine r_getI C hG FX3_18 hk rfl dX3_takesIn_39 ?_
        refine lv_bipush (v := 12) hx hb dX3_takesIn_42 (by decide) ?_
        refine lv_icmp_ge (tgt := 51) hx hb dX3_takesIn_44 (by decide) (fun c2 => ?_) (fun c2 => ?_)
        · have h := (if_inv h).1 c2
          refine lv_iconst (v := 0) hx hb dX3_takesIn_51 (by decide) ?_
          exact r_iretP C hG hr rfl dX3_takesIn_52 h
        · have h := (if_inv h).2 c2
          refine lv_iconst (v := 1) hx hb dX3_takesIn_47 (by decide) ?_
          refine lv_goto (tgt := 52) hx hb dX3_takesIn_48 (by decide) ?_
          exact r_iretP C hG hr rfl dX3_takesIn_52 h
      · have h := (if_inv h).2 c1
        refine lv_aload_n hx hb dX3_takesIn_10 rfl (lv_at hl 0 rfl) ?_
        refine r_getR (d := 1) C hG FX3_9 hk rfl (by decide) dX3_takesIn_11 ?_
        refine lv_iload_n hx hb dX3_takesIn_14 rfl (lv_at hl 3 rfl) ?_
        refine r_ild C hG (N := 12) (kR3_0 hk) (by decide) dX3_takesIn_15 h (fun x3 h => ?_)
        refine lv_iload_n hx hb dX3_takesIn_16 rfl (lv_at hl 1 rfl) ?_
        refine lv_icmp_ne (tgt := 32) hx hb dX3_takesIn_17 (by decide) (fun c4 => ?_) (fun c4 => ?_)
        · have h := (if_inv h).2 c4
          refine r_iinc (w := 1) (lv' := fun x5 => [(3, .int x5), (0, .ref (E.ad o)), (1, .int v1), (2, .int v2)]) C dX3_takesIn_32 hl (k := 3) rfl (by decide) (by decide) (fun _ => rfl) h (fun x5 ls hl h => ?_)
          refine lv_goto (tgt := 2) hx hb dX3_takesIn_35 (by decide) ?_
          exact ih v1 v2 x5 _ _ _ hG (lv_sub hl [1, 2, 3, 0] rfl) h
        · have h := (if_inv h).1 c4
          refine lv_aload_n hx hb dX3_takesIn_20 rfl (lv_at hl 0 rfl) ?_
          refine r_getR (d := 2) C hG FX3_15 hk rfl (by decide) dX3_takesIn_21 ?_
          refine lv_iload_n hx hb dX3_takesIn_24 rfl (lv_at hl 3 rfl) ?_
          refine r_ild C hG (N := 12) (kR3_1 hk) (by decide) dX3_takesIn_25 h (fun x6 h => ?_)
          refine lv_iload_n hx hb dX3_takesIn_26 rfl (lv_at hl 2 rfl) ?_
          refine lv_icmp_ne (tgt := 32) hx hb dX3_takesIn_27 (by decide) (fun c7 => ?_) (fun c7 => ?_)
          · have h := (if_inv h).2 c7
            refine r_iinc (w := 1) (lv' := fun x8 => [(3, .int x8), (0, .ref (E.ad o)), (1, .int v1), (2, .int v2)]) C dX3_takesIn_32 hl (k := 3) rfl (by decide) (by decide) (fun _ => rfl) h (fun x8 ls hl h => ?_)
            refine lv_goto (tgt := 2) hx hb dX3_takesIn_35 (by decide) ?_
            exact ih v1 v2 x8 _ _ _ hG (lv_sub hl [1, 2, 3, 0] rfl) h
          · have h := (if_inv h).1 c7
            refine lv_iconst (v := 0) hx hb dX3_takesIn_30 (by decide) ?_
            exact r_iretP C hG hr rfl dX3_takesIn_31 h
  refine lv_iconst (v := 0) hx hb dX3_takesIn_0 (by decide) ?_
  refine lv_istore_n (lv' := [(3, .int 0), (0, .ref (E.ad o)), (1, .int a1), (2, .int a2)]) hx hb dX3_takesIn_1 rfl hl (by decide) rfl (fun ls hl => ?_)
  exact j2 FU a1 a2 0 _ _ _ hG (lv_sub hl [1, 2, 3, 0] rfl) h
def k3_add (o : Nat) (a1 : Int32) (a2 : Int32) (g : G) : Option (G) :=
  (k3_takesIn o a1 a2 g).bind fun u1 =>
  if u1 = 0 then
    some g
  else
    sto g (o + 1) 12 (g o 2) a1 fun g3 =>
    sto g3 (o + 2) 12 (g3 o 2) a2 fun g4 =>
    bd (up g4 o 2 ((g4 o 2) + 1)) fun g5 =>
    some g5
set_option maxRecDepth 100000 in
set_option maxHeartbeats 4000000 in
theorem m3_add (E : EV) (l : Launch) (o : Nat) (hk : kd o = 3) (a1 : Int32) (a2 : Int32) (g : G) : ∀ u, k3_add o a1 a2 g = some u → MV E l yX3_add cX3_add 3 none 1 0 0 [.ref (E.ad o), .int a1, .int a2] g u := by
  intro u h
  refine MG.of (by decide +kernel) (Nat.le_of_ble_eq_true rfl) ?_
  intro p e s m args below meth c C hr hnm ls hl hG
  have C : Cx p s m args meth c cX3_add 3 RX3 E := C
  have hx := C.1
  have hb := C.2.1
  have hl : lv_has ls 3 [(0, .ref (E.ad o)), (1, .int a1), (2, .int a2)] := hl
  unfold k3_add at h
  refine lv_aload_n hx hb dX3_add_0 rfl (lv_at hl 0 rfl) ?_
  refine lv_iload_n hx hb dX3_add_1 rfl (lv_at hl 1 rfl) ?_
  refine lv_iload_n hx hb dX3_add_2 rfl (lv_at hl 2 rfl) ?_
  refine r_callVIP C hl.1 hG [.int a1, .int a2] [] (m3_takesIn E l o hk a1 a2 g) LX3_34 hk KC3 rfl (rm_ok (by decide) (by decide)) (Nat.le_of_ble_eq_true rfl) ⟨Nat.le_refl _, Nat.le_refl _⟩ rfl dX3_add_3 h (fun u1 H locs hG h => ?_)
  refine lv_if_eq (tgt := 39) hx hb dX3_add_6 (by decide) (fun c2 => ?_) (fun c2 => ?_)
  · have h := (if_inv h).1 c2
    exact r_vret C hG hr dX3_add_39 h
  · have h := (if_inv h).2 c2
    refine lv_aload_n hx hb dX3_add_9 rfl (lv_at hl 0 rfl) ?_
    refine r_getR (d := 1) C hG FX3_9 hk rfl (by decide) dX3_add_10 ?_
    refine lv_aload_n hx hb dX3_add_13 rfl (lv_at hl 0 rfl) ?_
    refine r_getI C hG FX3_18 hk rfl dX3_add_14 ?_
    refine lv_iload_n hx hb dX3_add_17 rfl (lv_at hl 1 rfl) ?_
    refine r_ist C hG (N := 12) (kR3_0 hk) (by decide) dX3_add_18 h (fun H locs g3 hG h => ?_)
    refine lv_aload_n hx hb dX3_add_19 rfl (lv_at hl 0 rfl) ?_
    refine r_getR (d := 2) C hG FX3_15 hk rfl (by decide) dX3_add_20 ?_
    refine lv_aload_n hx hb dX3_add_23 rfl (lv_at hl 0 rfl) ?_
    refine r_getI C hG FX3_18 hk rfl dX3_add_24 ?_
    refine lv_iload_n hx hb dX3_add_27 rfl (lv_at hl 2 rfl) ?_
    refine r_ist C hG (N := 12) (kR3_1 hk) (by decide) dX3_add_28 h (fun H locs g4 hG h => ?_)
    refine lv_aload_n hx hb dX3_add_29 rfl (lv_at hl 0 rfl) ?_
    refine lv_dup hx hb dX3_add_30 rfl ?_
    refine r_getI C hG FX3_18 hk rfl dX3_add_31 ?_
    refine lv_iconst (v := 1) hx hb dX3_add_34 (by decide) ?_
    refine lv_iadd hx hb dX3_add_35 ?_
    refine r_putI C hG FX3_18 hk rfl dX3_add_36 h (fun H locs g5 hG h => ?_)
    exact r_vret C hG hr dX3_add_39 h
def k3_remove_25 (o : Nat) : Nat → Int32 → Int32 → G → Option (G)
  | 0, _, _, _ => none
  | f + 1, v1, v2, g =>
        if (g o 2) ≤ v2 then
          if v1 = 0 then
            bd (up g o 3 0) fun g3 =>
            some g3
          else
            some g
        else
          ld g (o + 1) 12 (v2 + 1) fun x4 =>
          sto g (o + 1) 12 v2 x4 fun g5 =>
          ld g5 (o + 2) 12 (v2 + 1) fun x6 =>
          sto g5 (o + 2) 12 v2 x6 fun g7 =>
          bd (v2 + 1) fun x8 =>
          k3_remove_25 o f v1 x8 g7
def k3_remove (o : Nat) (a1 : Int32) (g : G) : Option (G) :=
  if a1 < 0 then
    some g
  else
    if a1 < (g o 2) then
      bd (up g o 2 ((g o 2) - 1)) fun g11 =>
      k3_remove_25 o FU a1 a1 g11
    else
      some g
set_option maxRecDepth 100000 in
set_option maxHeartbeats 4000000 in
theorem m3_remove (E : EV) (l : Launch) (o : Nat) (hk : kd o = 3) (a1 : Int32) (g : G) : ∀ u, k3_remove o a1 g = some u → MV E l yX3_remove cX3_remove 3 none 0 0 0 [.ref (E.ad o), .int a1] g u := by
  intro u h
  refine MG.of (by decide +kernel) (Nat.le_of_ble_eq_true rfl) ?_
  intro p e s m args below meth c C hr hnm ls hl hG
  have C : Cx p s m args meth c cX3_remove 3 RX3 E := C
  have hx := C.1
  have hb := C.2.1
  have hl : lv_has ls 3 [(0, .ref (E.ad o)), (1, .int a1)] := hl
  unfold k3_remove at h
  have j25 : ∀ f : Nat, ∀ (v1 : Int32) (v2 : Int32) (g : G) (H : Heap) (locs : List Loc) (ls : Array Slot), Gd E s H locs g [] → lv_has ls 3 [(0, .ref (E.ad o)), (1, .int v1), (2, .int v2)] → k3_remove_25 o f v1 v2 g = some u → W p l e (rmD 0 0 0) s m args below meth c H locs 0 0 (MQ below (QV E s.heap.size u) args s 0 0 (AA E s.heap.size)) (F0 m 25 ls []) := by
    intro f
    induction f with
    | zero =>
      intro v1 v2 g H locs ls hG hl h
      unfold k3_remove_25 at h
      cases h
    | succ f ih =>
      intro v1 v2 g H locs ls hG hl h
      unfold k3_remove_25 at h
      refine lv_iload_n hx hb dX3_remove_25 rfl (lv_at hl 2 rfl) ?_
      refine lv_aload_n hx hb dX3_remove_26 rfl (lv_at hl 0 rfl) ?_
      refine r_getI C hG FX3_18 hk rfl dX3_remove_27 ?_
      refine lv_icmp_ge (tgt := 67) hx hb dX3_remove_30 (by decide) (fun c1 => ?_) (fun c1 => ?_)
      · have h := (if_inv h).1 c1
        refine lv_iload_n hx hb dX3_remove_67 rfl (lv_at hl 1 rfl) ?_
        refine lv_if_ne (tgt := 76) hx hb dX3_remove_68 (by decide) (fun c2 => ?_) (fun c2 => ?_)
        · have h := (if_inv h).2 c2
          exact r_vret C hG hr dX3_remove_76 h
        · have h := (if_inv h).1 c2
          refine lv_aload_n hx hb dX3_remove_71 rfl (lv_at hl 0 rfl) ?_
          refine lv_iconst (v := 0) hx hb dX3_remove_72 (by decide) ?_
          refine r_putI C hG FX3_22 hk rfl dX3_remove_73 h (fun H locs g3 hG h => ?_)
          exact r_vret C hG hr dX3_remove_76 h
      · have h := (if_inv h).2 c1
        refine lv_aload_n hx hb dX3_remove_33 rfl (lv_at hl 0 rfl) ?_
        refine r_getR (d := 1) C hG FX3_9 hk rfl (by decide) dX3_remove_34 ?_
        refine lv_iload_n hx hb dX3_remove_37 rfl (lv_at hl 2 rfl) ?_
        refine lv_aload_n hx hb dX3_remove_38 rfl (lv_at hl 0 rfl) ?_
        refine r_getR (d := 1) C hG FX3_9 hk rfl (by decide) dX3_remove_39 ?_
        refine lv_iload_n hx hb dX3_remove_42 rfl (lv_at hl 2 rfl) ?_
        refine lv_iconst (v := 1) hx hb dX3_remove_43 (by decide) ?_
        refine lv_iadd hx hb dX3_remove_44 ?_
        refine r_ild C hG (N := 12) (kR3_0 hk) (by decide) dX3_remove_45 h (fun x4 h => ?_)
        refine r_ist C hG (N := 12) (kR3_0 hk) (by decide) dX3_remove_46 h (fun H locs g5 hG h => ?_)
        refine lv_aload_n hx hb dX3_remove_47 rfl (lv_at hl 0 rfl) ?_
        refine r_getR (d := 2) C hG FX3_15 hk rfl (by decide) dX3_remove_48 ?_
        refine lv_iload_n hx hb dX3_remove_51 rfl (lv_at hl 2 rfl) ?_
        refine lv_aload_n hx hb dX3_remove_52 rfl (lv_at hl 0 rfl) ?_
        refine r_getR (d := 2) C hG FX3_15 hk rfl (by decide) dX3_remove_53 ?_
        refine lv_iload_n hx hb dX3_remove_56 rfl (lv_at hl 2 rfl) ?_
        refine lv_iconst (v := 1) hx hb dX3_remove_57 (by decide) ?_
        refine lv_iadd hx hb dX3_remove_58 ?_
        refine r_ild C hG (N := 12) (kR3_1 hk) (by decide) dX3_remove_59 h (fun x6 h => ?_)
        refine r_ist C hG (N := 12) (kR3_1 hk) (by decide) dX3_remove_60 h (fun H locs g7 hG h => ?_)
        refine r_iinc (w := 1) (lv' := fun x8 => [(2, .int x8), (0, .ref (E.ad o)), (1, .int v1)]) C dX3_remove_61 hl (k := 2) rfl (by decide) (by decide) (fun _ => rfl) h (fun x8 ls hl h => ?_)
        refine lv_goto (tgt := 25) hx hb dX3_remove_64 (by decide) ?_
        exact ih v1 x8 g7 _ _ _ hG (lv_sub hl [1, 2, 0] rfl) h
  refine lv_iload_n hx hb dX3_remove_0 rfl (lv_at hl 1 rfl) ?_
  refine lv_if_lt (tgt := 12) hx hb dX3_remove_1 (by decide) (fun c9 => ?_) (fun c9 => ?_)
  · have h := (if_inv h).1 c9
    exact r_vret C hG hr dX3_remove_12 h
  · have h := (if_inv h).2 c9
    refine lv_iload_n hx hb dX3_remove_4 rfl (lv_at hl 1 rfl) ?_
    refine lv_aload_n hx hb dX3_remove_5 rfl (lv_at hl 0 rfl) ?_
    refine r_getI C hG FX3_18 hk rfl dX3_remove_6 ?_
    refine lv_icmp_lt (tgt := 13) hx hb dX3_remove_9 (by decide) (fun c10 => ?_) (fun c10 => ?_)
    · have h := (if_inv h).1 c10
      refine lv_aload_n hx hb dX3_remove_13 rfl (lv_at hl 0 rfl) ?_
      refine lv_dup hx hb dX3_remove_14 rfl ?_
      refine r_getI C hG FX3_18 hk rfl dX3_remove_15 ?_
      refine lv_iconst (v := 1) hx hb dX3_remove_18 (by decide) ?_
      refine lv_isub hx hb dX3_remove_19 ?_
      refine r_putI C hG FX3_18 hk rfl dX3_remove_20 h (fun H locs g11 hG h => ?_)
      refine lv_iload_n hx hb dX3_remove_23 rfl (lv_at hl 1 rfl) ?_
      refine lv_istore_n (lv' := [(2, .int a1), (0, .ref (E.ad o)), (1, .int a1)]) hx hb dX3_remove_24 rfl hl (by decide) rfl (fun ls hl => ?_)
      exact j25 FU a1 a1 g11 _ _ _ hG (lv_sub hl [1, 2, 0] rfl) h
    · have h := (if_inv h).2 c10
      exact r_vret C hG hr dX3_remove_12 h
