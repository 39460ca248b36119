def k8_isOrder  (a0 : Int32) (g : G) : Option (Int32) :=
  if a0 = 133 then
    some 1
  else
    if a0 = 135 then
      some 1
    else
      if a0 = 136 then
        some 1
      else
        if a0 = 137 then
          some 1
        else
          if a0 = 138 then
            some 1
          else
            some 0
set_option maxRecDepth 100000 in
set_option maxHeartbeats 4000000 in
theorem m8_isOrder (E : EV) (l : Launch) (a0 : Int32) (g : G) : ∀ u, k8_isOrder a0 g = some u → MI E l yX8_isOrder cX8_isOrder 1 (some .boolean) 0 0 0 [.int a0] g (u, g) := by
  intro u h
  refine MG.of (by decide +kernel) (Nat.le_of_ble_eq_true rfl) ?_
  intro p e s m args below meth c C hr hnm ls hl hG
  have C : Cx p s m args meth c cX8_isOrder 1 RX8 E := C
  have hx := C.1
  have hb := C.2.1
  have hl : lv_has ls 1 [(0, .int a0)] := hl
  unfold k8_isOrder at h
  refine lv_iload_n hx hb dX8_isOrder_0 rfl (lv_at hl 0 rfl) ?_
  refine lv_sipush (v := 133) hx hb dX8_isOrder_1 (by decide) ?_
  refine lv_icmp_eq (tgt := 35) hx hb dX8_isOrder_4 (by decide) (fun c1 => ?_) (fun c1 => ?_)
  · have h := (if_inv h).1 c1
    refine lv_iconst (v := 1) hx hb dX8_isOrder_35 (by decide) ?_
    refine lv_goto (tgt := 40) hx hb dX8_isOrder_36 (by decide) ?_
    exact r_iretP C hG hr rfl dX8_isOrder_40 h
  · have h := (if_inv h).2 c1
    refine lv_iload_n hx hb dX8_isOrder_7 rfl (lv_at hl 0 rfl) ?_
    refine lv_sipush (v := 135) hx hb dX8_isOrder_8 (by decide) ?_
    refine lv_icmp_eq (tgt := 35) hx hb dX8_isOrder_11 (by decide) (fun c2 => ?_) (fun c2 => ?_)
    · have h := (if_inv h).1 c2
      refine lv_iconst (v := 1) hx hb dX8_isOrder_35 (by decide) ?_
      refine lv_goto (tgt := 40) hx hb dX8_isOrder_36 (by decide) ?_
      exact r_iretP C hG hr rfl dX8_isOrder_40 h
    · have h := (if_inv h).2 c2
      refine lv_iload_n hx hb dX8_isOrder_14 rfl (lv_at hl 0 rfl) ?_
      refine lv_sipush (v := 136) hx hb dX8_isOrder_15 (by decide) ?_
      refine lv_icmp_eq (tgt := 35) hx hb dX8_isOrder_18 (by decide) (fun c3 => ?_) (fun c3 => ?_)
      · have h := (if_inv h).1 c3
        refine lv_iconst (v := 1) hx hb dX8_isOrder_35 (by decide) ?_
        refine lv_goto (tgt := 40) hx hb dX8_isOrder_36 (by decide) ?_
        exact r_iretP C hG hr rfl dX8_isOrder_40 h
      · have h := (if_inv h).2 c3
        refine lv_iload_n hx hb dX8_isOrder_21 rfl (lv_at hl 0 rfl) ?_
        refine lv_sipush (v := 137) hx hb dX8_isOrder_22 (by decide) ?_
        refine lv_icmp_eq (tgt := 35) hx hb dX8_isOrder_25 (by decide) (fun c4 => ?_) (fun c4 => ?_)
        · have h := (if_inv h).1 c4
          refine lv_iconst (v := 1) hx hb dX8_isOrder_35 (by decide) ?_
          refine lv_goto (tgt := 40) hx hb dX8_isOrder_36 (by decide) ?_
          exact r_iretP C hG hr rfl dX8_isOrder_40 h
        · have h := (if_inv h).2 c4
          refine lv_iload_n hx hb dX8_isOrder_28 rfl (lv_at hl 0 rfl) ?_
          refine lv_sipush (v := 138) hx hb dX8_isOrder_29 (by decide) ?_
          refine lv_icmp_ne (tgt := 39) hx hb dX8_isOrder_32 (by decide) (fun c5 => ?_) (fun c5 => ?_)
          · have h := (if_inv h).2 c5
            refine lv_iconst (v := 0) hx hb dX8_isOrder_39 (by decide) ?_
            exact r_iretP C hG hr rfl dX8_isOrder_40 h
          · have h := (if_inv h).1 c5
            refine lv_iconst (v := 1) hx hb dX8_isOrder_35 (by decide) ?_
            refine lv_goto (tgt := 40) hx hb dX8_isOrder_36 (by decide) ?_
            exact r_iretP C hG hr rfl dX8_isOrder_40 h
def k8_isOrderBySum  (a0 : Int32) (g : G) : Option (Int32) :=
  if a0 = 133 then
    some 1
  else
    if a0 = 135 then
      some 1
    else
      some 0
set_option maxRecDepth 100000 in
set_option maxHeartbeats 4000000 in
theorem m8_isOrderBySum (E : EV) (l : Launch) (a0 : Int32) (g : G) : ∀ u, k8_isOrderBySum a0 g = some u → MI E l yX8_isOrderBySum cX8_isOrderBySum 1 (some .boolean) 0 0 0 [.int a0] g (u, g) := by
  intro u h
  refine MG.of (by decide +kernel) (Nat.le_of_ble_eq_true rfl) ?_
  intro p e s m args below meth c C hr hnm ls hl hG
  have C : Cx p s m args meth c cX8_isOrderBySum 1 RX8 E := C
  have hx := C.1
  have hb := C.2.1
  have hl : lv_has ls 1 [(0, .int a0)] := hl
  unfold k8_isOrderBySum at h
  refine lv_iload_n hx hb dX8_isOrderBySum_0 rfl (lv_at hl 0 rfl) ?_
  refine lv_sipush (v := 133) hx hb dX8_isOrderBySum_1 (by decide) ?_
  refine lv_icmp_eq (tgt := 14) hx hb dX8_isOrderBySum_4 (by decide) (fun c1 => ?_) (fun c1 => ?_)
  · have h := (if_inv h).1 c1
    refine lv_iconst (v := 1) hx hb dX8_isOrderBySum_14 (by decide) ?_
    refine lv_goto (tgt := 19) hx hb dX8_isOrderBySum_15 (by decide) ?_
    exact r_iretP C hG hr rfl dX8_isOrderBySum_19 h
  · have h := (if_inv h).2 c1
    refine lv_iload_n hx hb dX8_isOrderBySum_7 rfl (lv_at hl 0 rfl) ?_
    refine lv_sipush (v := 135) hx hb dX8_isOrderBySum_8 (by decide) ?_
    refine lv_icmp_ne (tgt := 18) hx hb dX8_isOrderBySum_11 (by decide) (fun c2 => ?_) (fun c2 => ?_)
    · have h := (if_inv h).2 c2
      refine lv_iconst (v := 0) hx hb dX8_isOrderBySum_18 (by decide) ?_
      exact r_iretP C hG hr rfl dX8_isOrderBySum_19 h
    · have h := (if_inv h).1 c2
      refine lv_iconst (v := 1) hx hb dX8_isOrderBySum_14 (by decide) ?_
      refine lv_goto (tgt := 19) hx hb dX8_isOrderBySum_15 (by decide) ?_
      exact r_iretP C hG hr rfl dX8_isOrderBySum_19 h
def k8_hold  (a0 : Int64) (a2 : Int32) (a3 : Int32) (g : G) : Option (Int32) :=
  bd (if a0 < a3.toInt64 then a0 else a3.toInt64) fun x1 =>
  bd (if x1 < a2.toInt64 then a2.toInt64 else x1) fun x2 =>
  some x2.toInt32
set_option maxRecDepth 100000 in
set_option maxHeartbeats 4000000 in
theorem m8_hold (E : EV) (l : Launch) (a0 : Int64) (a2 : Int32) (a3 : Int32) (g : G) : ∀ u, k8_hold a0 a2 a3 g = some u → MI E l yX8_hold cX8_hold 4 (some .int) 1 0 0 [.long a0, .int a2, .int a3] g (u, g) := by
  intro u h
  refine MG.of (by decide +kernel) (Nat.le_of_ble_eq_true rfl) ?_
  intro p e s m args below meth c C hr hnm ls hl hG
  have C : Cx p s m args meth c cX8_hold 4 RX8 E := C
  have hx := C.1
  have hb := C.2.1
  have hl : lv_has ls 4 [(0, .long a0), (2, .int a2), (3, .int a3)] := hl
  unfold k8_hold at h
  refine lv_iload_n hx hb dX8_hold_0 rfl (lv_at hl 1 rfl) ?_
  refine lv_i2l hx hb dX8_hold_1 rfl ?_
  refine lv_iload_n hx hb dX8_hold_2 rfl (lv_at hl 2 rfl) ?_
  refine lv_i2l hx hb dX8_hold_3 rfl ?_
  refine lv_lload_n hx hb dX8_hold_4 rfl (lv_at hl 0 rfl) ?_
  refine r_minL C hl.1 LX8_276 ⟨(Nat.le_of_ble_eq_true rfl), (Nat.le_of_ble_eq_true rfl), Nat.zero_le _, Nat.zero_le _⟩ dX8_hold_5 ?_
  refine r_nmL h (fun x1 h => ?_)
  refine r_maxL C hl.1 LX8_282 ⟨(Nat.le_of_ble_eq_true rfl), (Nat.le_of_ble_eq_true rfl), Nat.zero_le _, Nat.zero_le _⟩ dX8_hold_8 ?_
  refine r_nmL h (fun x2 h => ?_)
  refine lv_l2i hx hb dX8_hold_11 rfl ?_
  exact r_iretP C hG hr rfl dX8_hold_12 h
