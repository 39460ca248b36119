def k8_feed  (a1 : Int32) (a2 : Int32) (a3 : Int32) (a4 : Int32) (a5 : Int32) (g : G) : Option (XR) :=
  if (g 1 1) ≤ 1980 then
    (k5_append a1 g).bind fun g2 =>
    (k5_append a2 g2).bind fun g3 =>
    (k5_append a3 g3).bind fun g4 =>
    (k5_append a4 g4).bind fun g5 =>
    (k5_append a5 g5).bind fun g6 =>
    some (0, (g6 1 1), g6)
  else
    some (1, 0, g)
set_option maxRecDepth 100000 in
set_option maxHeartbeats 4000000 in
theorem m8_feed (E : EV) (l : Launch) (hst : l.stackTraces = false) (a1 : Int32) (a2 : Int32) (a3 : Int32) (a4 : Int32) (a5 : Int32) (g : G) : ∀ u, k8_feed a1 a2 a3 a4 a5 g = some u → MXr E l yX8_feed cX8_feed 6 (some .int) 6 3 18 [.ref (E.ad 0), .int a1, .int a2, .int a3, .int a4, .int a5] g u := by
  intro u h
  refine MX.of (by decide +kernel) (Nat.le_of_ble_eq_true rfl) ?_
  intro p e s m args below meth c C ht hr ls hl hG
  have C : Cx p s m args meth c cX8_feed 6 RX8 E := C
  have hx := C.1
  have hb := C.2.1
  have hl : lv_has ls 6 [(0, .ref (E.ad 0)), (1, .int a1), (2, .int a2), (3, .int a3), (4, .int a4), (5, .int a5)] := hl
  unfold k8_feed at h
  refine lv_aload_n hx hb dX8_feed_0 rfl (lv_at hl 0 rfl) ?_
  refine r_getA (j := 1) C hG FX8_10 rfl rfl dX8_feed_1 ?_
  refine r_getI C hG FX8_69 rfl rfl dX8_feed_4 ?_
  refine lv_sipush (v := 1980) hx hb dX8_feed_7 (by decide) ?_
  refine lv_icmp_le (tgt := 23) hx hb dX8_feed_10 (by decide) (fun c1 => ?_) (fun c1 => ?_)
  · have h := (if_inv h).1 c1
    refine lv_aload_n hx hb dX8_feed_23 rfl (lv_at hl 0 rfl) ?_
    refine r_getA (j := 1) C hG FX8_10 rfl rfl dX8_feed_24 ?_
    refine lv_iload_n hx hb dX8_feed_27 rfl (lv_at hl 1 rfl) ?_
    refine r_callVV C hl.1 hG [.int a1] [] (m5_append E l a1 g) LX8_79 rfl KC5 rfl (rm_ok (by decide) (by decide)) (Nat.le_of_ble_eq_true rfl) ⟨Nat.le_of_ble_eq_true rfl, Nat.le_of_ble_eq_true rfl⟩ rfl dX8_feed_28 h (fun g2 H locs hG h => ?_)
    refine lv_aload_n hx hb dX8_feed_31 rfl (lv_at hl 0 rfl) ?_
    refine r_getA (j := 1) C hG FX8_10 rfl rfl dX8_feed_32 ?_
    refine lv_iload_n hx hb dX8_feed_35 rfl (lv_at hl 2 rfl) ?_
    refine r_callVV C hl.1 hG [.int a2] [] (m5_append E l a2 g2) LX8_79 rfl KC5 rfl (rm_ok (by decide) (by decide)) (Nat.le_of_ble_eq_true rfl) ⟨Nat.le_of_ble_eq_true rfl, Nat.le_of_ble_eq_true rfl⟩ rfl dX8_feed_36 h (fun g3 H locs hG h => ?_)
    refine lv_aload_n hx hb dX8_feed_39 rfl (lv_at hl 0 rfl) ?_
    refine r_getA (j := 1) C hG FX8_10 rfl rfl dX8_feed_40 ?_
    refine lv_iload_n hx hb dX8_feed_43 rfl (lv_at hl 3 rfl) ?_
    refine r_callVV C hl.1 hG [.int a3] [] (m5_append E l a3 g3) LX8_79 rfl KC5 rfl (rm_ok (by decide) (by decide)) (Nat.le_of_ble_eq_true rfl) ⟨Nat.le_of_ble_eq_true rfl, Nat.le_of_ble_eq_true rfl⟩ rfl dX8_feed_44 h (fun g4 H locs hG h => ?_)
    refine lv_aload_n hx hb dX8_feed_47 rfl (lv_at hl 0 rfl) ?_
    refine r_getA (j := 1) C hG FX8_10 rfl rfl dX8_feed_48 ?_
    refine lv_iload hx hb dX8_feed_51 (lv_at hl 4 rfl) ?_
    refine r_callVV C hl.1 hG [.int a4] [] (m5_append E l a4 g4) LX8_79 rfl KC5 rfl (rm_ok (by decide) (by decide)) (Nat.le_of_ble_eq_true rfl) ⟨Nat.le_of_ble_eq_true rfl, Nat.le_of_ble_eq_true rfl⟩ rfl dX8_feed_53 h (fun g5 H locs hG h => ?_)
    refine lv_aload_n hx hb dX8_feed_56 rfl (lv_at hl 0 rfl) ?_
    refine r_getA (j := 1) C hG FX8_10 rfl rfl dX8_feed_57 ?_
    refine lv_iload hx hb dX8_feed_60 (lv_at hl 5 rfl) ?_
    refine r_callVV C hl.1 hG [.int a5] [] (m5_append E l a5 g5) LX8_79 rfl KC5 rfl (rm_ok (by decide) (by decide)) (Nat.le_of_ble_eq_true rfl) ⟨Nat.le_of_ble_eq_true rfl, Nat.le_of_ble_eq_true rfl⟩ rfl dX8_feed_62 h (fun g6 H locs hG h => ?_)
    refine lv_aload_n hx hb dX8_feed_65 rfl (lv_at hl 0 rfl) ?_
    refine r_getA (j := 1) C hG FX8_10 rfl rfl dX8_feed_66 ?_
    refine r_getI C hG FX8_69 rfl rfl dX8_feed_69 ?_
    exact r_iretX C hG hr rfl dX8_feed_72 ⟨Nat.le_of_ble_eq_true rfl, Nat.le_of_ble_eq_true rfl⟩ h
  · have h := (if_inv h).2 c1
    exact r_throwS (ek := 1) C hl.1 hG hst ht 36 XWX8_72_76 (by decide) ⟨rfl, rfl⟩ (by decide) dX8_feed_13 dX8_feed_16 dX8_feed_17 dX8_feed_19 dX8_feed_22 ⟨Nat.le_of_ble_eq_true rfl, Nat.le_of_ble_eq_true rfl, Nat.le_of_ble_eq_true rfl, Nat.le_of_ble_eq_true rfl⟩ ⟨Nat.le_of_ble_eq_true rfl, Nat.le_of_ble_eq_true rfl⟩ h
def k8_trim_15  (g : G) : Option (XR) :=
      some (2, 0, g)
def k8_trim  (a1 : Int32) (g : G) : Option (XR) :=
  if a1 < 0 then
    k8_trim_15 g
  else
    if a1 ≤ (g 1 1) then
      bd (up g 1 1 a1) fun g3 =>
      some (0, a1, g3)
    else
      k8_trim_15 g
set_option maxRecDepth 100000 in
set_option maxHeartbeats 4000000 in
theorem m8_trim (E : EV) (l : Launch) (hst : l.stackTraces = false) (a1 : Int32) (g : G) : ∀ u, k8_trim a1 g = some u → MXr E l yX8_trim cX8_trim 2 (some .int) 6 3 18 [.ref (E.ad 0), .int a1] g u := by
  intro u h
  refine MX.of (by decide +kernel) (Nat.le_of_ble_eq_true rfl) ?_
  intro p e s m args below meth c C ht hr ls hl hG
  have C : Cx p s m args meth c cX8_trim 2 RX8 E := C
  have hx := C.1
  have hb := C.2.1
  have hl : lv_has ls 2 [(0, .ref (E.ad 0)), (1, .int a1)] := hl
  unfold k8_trim at h
  have j15 : ∀ (g : G) (H : Heap) (locs : List Loc) (ls : Array Slot), Gd E s H locs g [] → lv_has ls 2 [] → k8_trim_15 g = some u → W p l e (rmD 6 3 18) s m args below meth c H locs 0 0 (vx_MQ below (QXr E s.heap.size u) (XCx E s.heap.size u) args s 3 18 (AA E s.heap.size)) (F0 m 15 ls []) := by
    intro g H locs ls hG hl h
    unfold k8_trim_15 at h
    exact r_throwS (ek := 2) C hl.1 hG hst ht 37 XWX8_83_87 (by decide) ⟨rfl, rfl⟩ (by decide) dX8_trim_15 dX8_trim_18 dX8_trim_19 dX8_trim_21 dX8_trim_24 ⟨Nat.le_of_ble_eq_true rfl, Nat.le_of_ble_eq_true rfl, Nat.le_of_ble_eq_true rfl, Nat.le_of_ble_eq_true rfl⟩ ⟨Nat.le_of_ble_eq_true rfl, Nat.le_of_ble_eq_true rfl⟩ h
  refine lv_iload_n hx hb dX8_trim_0 rfl (lv_at hl 1 rfl) ?_
  refine lv_if_lt (tgt := 15) hx hb dX8_trim_1 (by decide) (fun c1 => ?_) (fun c1 => ?_)
  · have h := (if_inv h).1 c1
    exact j15 g _ _ _ hG (lv_sub hl [] rfl) h
  · have h := (if_inv h).2 c1
    refine lv_iload_n hx hb dX8_trim_4 rfl (lv_at hl 1 rfl) ?_
    refine lv_aload_n hx hb dX8_trim_5 rfl (lv_at hl 0 rfl) ?_
    refine r_getA (j := 1) C hG FX8_10 rfl rfl dX8_trim_6 ?_
    refine r_getI C hG FX8_69 rfl rfl dX8_trim_9 ?_
    refine lv_icmp_le (tgt := 25) hx hb dX8_trim_12 (by decide) (fun c2 => ?_) (fun c2 => ?_)
    · have h := (if_inv h).1 c2
      refine lv_aload_n hx hb dX8_trim_25 rfl (lv_at hl 0 rfl) ?_
      refine r_getA (j := 1) C hG FX8_10 rfl rfl dX8_trim_26 ?_
      refine lv_iload_n hx hb dX8_trim_29 rfl (lv_at hl 1 rfl) ?_
      refine r_putI C hG FX8_69 rfl rfl dX8_trim_30 h (fun H locs g3 hG h => ?_)
      refine lv_iload_n hx hb dX8_trim_33 rfl (lv_at hl 1 rfl) ?_
      exact r_iretX C hG hr rfl dX8_trim_34 ⟨Nat.le_of_ble_eq_true rfl, Nat.le_of_ble_eq_true rfl⟩ h
    · have h := (if_inv h).2 c2
      exact j15 g _ _ _ hG (lv_sub hl [] rfl) h
def k8_worstMirror  (g : G) : Option (XR) :=
  if (g 22 7) = 0 then
    some (1, 0, g)
  else
    (k4_mostLosing 22 g).bind fun u2 =>
    some (0, u2.1, u2.2)
set_option maxRecDepth 100000 in
set_option maxHeartbeats 4000000 in
theorem m8_worstMirror (E : EV) (l : Launch) (hst : l.stackTraces = false) (g : G) : ∀ u, k8_worstMirror g = some u → MXr E l yX8_worstMirror cX8_worstMirror 1 (some .int) 6 3 18 [.ref (E.ad 0)] g u := by
  intro u h
  refine MX.of (by decide +kernel) (Nat.le_of_ble_eq_true rfl) ?_
  intro p e s m args below meth c C ht hr ls hl hG
  have C : Cx p s m args meth c cX8_worstMirror 1 RX8 E := C
  have hx := C.1
  have hb := C.2.1
  have hl : lv_has ls 1 [(0, .ref (E.ad 0))] := hl
  unfold k8_worstMirror at h
  refine lv_aload_n hx hb dX8_worstMirror_0 rfl (lv_at hl 0 rfl) ?_
  refine r_getA (j := 21) C hG FX8_58 rfl rfl dX8_worstMirror_1 ?_
  refine r_getR (d := 1) C hG FX8_112 rfl rfl (by decide) dX8_worstMirror_4 ?_
  refine r_getI C hG FX8_116 rfl rfl dX8_worstMirror_7 ?_
  refine lv_if_ne (tgt := 23) hx hb dX8_worstMirror_10 (by decide) (fun c1 => ?_) (fun c1 => ?_)
  · have h := (if_inv h).2 c1
    refine lv_aload_n hx hb dX8_worstMirror_23 rfl (lv_at hl 0 rfl) ?_
    refine r_getA (j := 21) C hG FX8_58 rfl rfl dX8_worstMirror_24 ?_
    refine r_getR (d := 1) C hG FX8_112 rfl rfl (by decide) dX8_worstMirror_27 ?_
    refine r_callVI C hl.1 hG [] [] (m4_mostLosing E l 22 rfl g) LX8_139 rfl KC4 rfl (rm_ok (by decide) (by decide)) (Nat.le_of_ble_eq_true rfl) ⟨Nat.le_of_ble_eq_true rfl, Nat.le_of_ble_eq_true rfl⟩ rfl dX8_worstMirror_30 h (fun u2 H locs hG h => ?_)
    exact r_iretX C hG hr rfl dX8_worstMirror_33 ⟨Nat.le_of_ble_eq_true rfl, Nat.le_of_ble_eq_true rfl⟩ h
  · have h := (if_inv h).1 c1
    exact r_throwS (ek := 1) C hl.1 hG hst ht 28 XWX8_72_76 (by decide) ⟨rfl, rfl⟩ (by decide) dX8_worstMirror_13 dX8_worstMirror_16 dX8_worstMirror_17 dX8_worstMirror_19 dX8_worstMirror_22 ⟨Nat.le_of_ble_eq_true rfl, Nat.le_of_ble_eq_true rfl, Nat.le_of_ble_eq_true rfl, Nat.le_of_ble_eq_true rfl⟩ ⟨Nat.le_of_ble_eq_true rfl, Nat.le_of_ble_eq_true rfl⟩ h
def k8_checkMirror_18  (g : G) : Option (XR) :=
      some (3, 0, g)
def k8_checkMirror  (a1 : Int32) (g : G) : Option (XR) :=
  if a1 < 0 then
    k8_checkMirror_18 g
  else
    if a1 < (g 22 7) then
      some (0, 0, g)
    else
      k8_checkMirror_18 g
set_option maxRecDepth 100000 in
set_option maxHeartbeats 4000000 in
theorem m8_checkMirror (E : EV) (l : Launch) (hst : l.stackTraces = false) (a1 : Int32) (g : G) : ∀ u, k8_checkMirror a1 g = some u → MXv E l yX8_checkMirror cX8_checkMirror 2 none 6 1 6 [.ref (E.ad 0), .int a1] g u := by
  intro u h
  refine MX.of (by decide +kernel) (Nat.le_of_ble_eq_true rfl) ?_
  intro p e s m args below meth c C ht hr ls hl hG
  have C : Cx p s m args meth c cX8_checkMirror 2 RX8 E := C
  have hx := C.1
  have hb := C.2.1
  have hl : lv_has ls 2 [(0, .ref (E.ad 0)), (1, .int a1)] := hl
  unfold k8_checkMirror at h
  have j18 : ∀ (g : G) (H : Heap) (locs : List Loc) (ls : Array Slot), Gd E s H locs g [] → lv_has ls 2 [] → k8_checkMirror_18 g = some u → W p l e (rmD 6 1 6) s m args below meth c H locs 0 0 (vx_MQ below (QXv E s.heap.size u) (XCx E s.heap.size u) args s 1 6 (AA E s.heap.size)) (F0 m 18 ls []) := by
    intro g H locs ls hG hl h
    unfold k8_checkMirror_18 at h
    exact r_throwSW (ek := 3) C hl.1 hG hst ht 29 XWX8_155_159 (by decide) ⟨rfl, rfl⟩ (by decide) dX8_checkMirror_18 dX8_checkMirror_21 dX8_checkMirror_22 dX8_checkMirror_25 dX8_checkMirror_28 ⟨Nat.le_of_ble_eq_true rfl, Nat.le_of_ble_eq_true rfl, Nat.le_of_ble_eq_true rfl, Nat.le_of_ble_eq_true rfl⟩ ⟨Nat.le_of_ble_eq_true rfl, Nat.le_of_ble_eq_true rfl⟩ h
  refine lv_iload_n hx hb dX8_checkMirror_0 rfl (lv_at hl 1 rfl) ?_
  refine lv_if_lt (tgt := 18) hx hb dX8_checkMirror_1 (by decide) (fun c1 => ?_) (fun c1 => ?_)
  · have h := (if_inv h).1 c1
    exact j18 g _ _ _ hG (lv_sub hl [] rfl) h
  · have h := (if_inv h).2 c1
    refine lv_iload_n hx hb dX8_checkMirror_4 rfl (lv_at hl 1 rfl) ?_
    refine lv_aload_n hx hb dX8_checkMirror_5 rfl (lv_at hl 0 rfl) ?_
    refine r_getA (j := 21) C hG FX8_58 rfl rfl dX8_checkMirror_6 ?_
    refine r_getR (d := 1) C hG FX8_112 rfl rfl (by decide) dX8_checkMirror_9 ?_
    refine r_getI C hG FX8_116 rfl rfl dX8_checkMirror_12 ?_
    refine lv_icmp_lt (tgt := 29) hx hb dX8_checkMirror_15 (by decide) (fun c2 => ?_) (fun c2 => ?_)
    · have h := (if_inv h).1 c2
      exact r_vretX C hG hr dX8_checkMirror_29 ⟨Nat.le_of_ble_eq_true rfl, Nat.le_of_ble_eq_true rfl⟩ h
    · have h := (if_inv h).2 c2
      exact j18 g _ _ _ hG (lv_sub hl [] rfl) h
def k8_clarityOf  (a1 : Int32) (g : G) : Option (XR) :=
  xb (k8_checkMirror a1 g) fun g1 =>
  (k4_valueOf 22 129 a1 g1).bind fun u2 =>
  some (0, u2.1, u2.2)
set_option maxRecDepth 100000 in
set_option maxHeartbeats 4000000 in
theorem m8_clarityOf (E : EV) (l : Launch) (hst : l.stackTraces = false) (a1 : Int32) (g : G) : ∀ u, k8_clarityOf a1 g = some u → MXr E l yX8_clarityOf cX8_clarityOf 2 (some .int) 7 3 18 [.ref (E.ad 0), .int a1] g u := by
  intro u h
  refine MX.of (by decide +kernel) (Nat.le_of_ble_eq_true rfl) ?_
  intro p e s m args below meth c C ht hr ls hl hG
  have C : Cx p s m args meth c cX8_clarityOf 2 RX8 E := C
  have hx := C.1
  have hb := C.2.1
  have hl : lv_has ls 2 [(0, .ref (E.ad 0)), (1, .int a1)] := hl
  unfold k8_clarityOf at h
  refine lv_aload_n hx hb dX8_clarityOf_0 rfl (lv_at hl 0 rfl) ?_
  refine lv_iload_n hx hb dX8_clarityOf_1 rfl (lv_at hl 1 rfl) ?_
  refine r_callVXV C hl.1 hG ht [.int a1] [] (m8_checkMirror E l hst a1 g) LX8_142 (mTBi 466 (by decide +kernel) rfl) rfl KC8 rfl (rm_ok (by decide) (by decide)) (Nat.le_of_ble_eq_true rfl) ⟨Nat.le_of_ble_eq_true rfl, Nat.le_of_ble_eq_true rfl⟩ ⟨Nat.le_of_ble_eq_true rfl, Nat.le_of_ble_eq_true rfl⟩ rfl dX8_clarityOf_2 h (fun H locs g1 hG h => ?_)
  refine lv_aload_n hx hb dX8_clarityOf_5 rfl (lv_at hl 0 rfl) ?_
  refine r_getA (j := 21) C hG FX8_58 rfl rfl dX8_clarityOf_6 ?_
  refine r_getR (d := 1) C hG FX8_112 rfl rfl (by decide) dX8_clarityOf_9 ?_
  refine lv_sipush (v := 129) hx hb dX8_clarityOf_12 (by decide) ?_
  refine lv_iload_n hx hb dX8_clarityOf_15 rfl (lv_at hl 1 rfl) ?_
  refine r_callVI C hl.1 hG [.int 129, .int a1] [] (m4_valueOf E l 22 rfl 129 a1 g1) LX8_145 rfl KC4 rfl (rm_ok (by decide) (by decide)) (Nat.le_of_ble_eq_true rfl) ⟨Nat.le_of_ble_eq_true rfl, Nat.le_of_ble_eq_true rfl⟩ rfl dX8_clarityOf_16 h (fun u2 H locs hG h => ?_)
  exact r_iretX C hG hr rfl dX8_clarityOf_19 ⟨Nat.le_of_ble_eq_true rfl, Nat.le_of_ble_eq_true rfl⟩ h
def k8_bestClarityOf  (a1 : Int32) (g : G) : Option (XR) :=
  xb (k8_checkMirror a1 g) fun g1 =>
  (k4_valueOf 22 145 a1 g1).bind fun u2 =>
  some (0, u2.1, u2.2)
set_option maxRecDepth 100000 in
set_option maxHeartbeats 4000000 in
theorem m8_bestClarityOf (E : EV) (l : Launch) (hst : l.stackTraces = false) (a1 : Int32) (g : G) : ∀ u, k8_bestClarityOf a1 g = some u → MXr E l yX8_bestClarityOf cX8_bestClarityOf 2 (some .int) 7 3 18 [.ref (E.ad 0), .int a1] g u := by
  intro u h
  refine MX.of (by decide +kernel) (Nat.le_of_ble_eq_true rfl) ?_
  intro p e s m args below meth c C ht hr ls hl hG
  have C : Cx p s m args meth c cX8_bestClarityOf 2 RX8 E := C
  have hx := C.1
  have hb := C.2.1
  have hl : lv_has ls 2 [(0, .ref (E.ad 0)), (1, .int a1)] := hl
  unfold k8_bestClarityOf at h
  refine lv_aload_n hx hb dX8_bestClarityOf_0 rfl (lv_at hl 0 rfl) ?_
  refine lv_iload_n hx hb dX8_bestClarityOf_1 rfl (lv_at hl 1 rfl) ?_
  refine r_callVXV C hl.1 hG ht [.int a1] [] (m8_checkMirror E l hst a1 g) LX8_142 (mTBi 466 (by decide +kernel) rfl) rfl KC8 rfl (rm_ok (by decide) (by decide)) (Nat.le_of_ble_eq_true rfl) ⟨Nat.le_of_ble_eq_true rfl, Nat.le_of_ble_eq_true rfl⟩ ⟨Nat.le_of_ble_eq_true rfl, Nat.le_of_ble_eq_true rfl⟩ rfl dX8_bestClarityOf_2 h (fun H locs g1 hG h => ?_)
  refine lv_aload_n hx hb dX8_bestClarityOf_5 rfl (lv_at hl 0 rfl) ?_
  refine r_getA (j := 21) C hG FX8_58 rfl rfl dX8_bestClarityOf_6 ?_
  refine r_getR (d := 1) C hG FX8_112 rfl rfl (by decide) dX8_bestClarityOf_9 ?_
  refine lv_sipush (v := 145) hx hb dX8_bestClarityOf_12 (by decide) ?_
  refine lv_iload_n hx hb dX8_bestClarityOf_15 rfl (lv_at hl 1 rfl) ?_
  refine r_callVI C hl.1 hG [.int 145, .int a1] [] (m4_valueOf E l 22 rfl 145 a1 g1) LX8_145 rfl KC4 rfl (rm_ok (by decide) (by decide)) (Nat.le_of_ble_eq_true rfl) ⟨Nat.le_of_ble_eq_true rfl, Nat.le_of_ble_eq_true rfl⟩ rfl dX8_bestClarityOf_16 h (fun u2 H locs hG h => ?_)
  exact r_iretX C hG hr rfl dX8_bestClarityOf_19 ⟨Nat.le_of_ble_eq_true rfl, Nat.le_of_ble_eq_true rfl⟩ h
def k8_offsetOf  (a1 : Int32) (g : G) : Option (XR) :=
  xb (k8_checkMirror a1 g) fun g1 =>
  (k4_valueOf 22 130 a1 g1).bind fun u2 =>
  some (0, u2.1, u2.2)
set_option maxRecDepth 100000 in
set_option maxHeartbeats 4000000 in
theorem m8_offsetOf (E : EV) (l : Launch) (hst : l.stackTraces = false) (a1 : Int32) (g : G) : ∀ u, k8_offsetOf a1 g = some u → MXr E l yX8_offsetOf cX8_offsetOf 2 (some .int) 7 3 18 [.ref (E.ad 0), .int a1] g u := by
  intro u h
  refine MX.of (by decide +kernel) (Nat.le_of_ble_eq_true rfl) ?_
  intro p e s m args below meth c C ht hr ls hl hG
  have C : Cx p s m args meth c cX8_offsetOf 2 RX8 E := C
  have hx := C.1
  have hb := C.2.1
  have hl : lv_has ls 2 [(0, .ref (E.ad 0)), (1, .int a1)] := hl
  unfold k8_offsetOf at h
  refine lv_aload_n hx hb dX8_offsetOf_0 rfl (lv_at hl 0 rfl) ?_
  refine lv_iload_n hx hb dX8_offsetOf_1 rfl (lv_at hl 1 rfl) ?_
  refine r_callVXV C hl.1 hG ht [.int a1] [] (m8_checkMirror E l hst a1 g) LX8_142 (mTBi 466 (by decide +kernel) rfl) rfl KC8 rfl (rm_ok (by decide) (by decide)) (Nat.le_of_ble_eq_true rfl) ⟨Nat.le_of_ble_eq_true rfl, Nat.le_of_ble_eq_true rfl⟩ ⟨Nat.le_of_ble_eq_true rfl, Nat.le_of_ble_eq_true rfl⟩ rfl dX8_offsetOf_2 h (fun H locs g1 hG h => ?_)
  refine lv_aload_n hx hb dX8_offsetOf_5 rfl (lv_at hl 0 rfl) ?_
  refine r_getA (j := 21) C hG FX8_58 rfl rfl dX8_offsetOf_6 ?_
  refine r_getR (d := 1) C hG FX8_112 rfl rfl (by decide) dX8_offsetOf_9 ?_
  refine lv_sipush (v := 130) hx hb dX8_offsetOf_12 (by decide) ?_
  refine lv_iload_n hx hb dX8_offsetOf_15 rfl (lv_at hl 1 rfl) ?_
  refine r_callVI C hl.1 hG [.int 130, .int a1] [] (m4_valueOf E l 22 rfl 130 a1 g1) LX8_145 rfl KC4 rfl (rm_ok (by decide) (by decide)) (Nat.le_of_ble_eq_true rfl) ⟨Nat.le_of_ble_eq_true rfl, Nat.le_of_ble_eq_true rfl⟩ rfl dX8_offsetOf_16 h (fun u2 H locs hG h => ?_)
  exact r_iretX C hG hr rfl dX8_offsetOf_19 ⟨Nat.le_of_ble_eq_true rfl, Nat.le_of_ble_eq_true rfl⟩ h
def k8_placeOf  (a1 : Int32) (g : G) : Option (XR) :=
  xb (k8_checkMirror a1 g) fun g1 =>
  (k4_findPlace 22 a1 g1).bind fun u2 =>
  some (0, u2, g1)
set_option maxRecDepth 100000 in
set_option maxHeartbeats 4000000 in
theorem m8_placeOf (E : EV) (l : Launch) (hst : l.stackTraces = false) (a1 : Int32) (g : G) : ∀ u, k8_placeOf a1 g = some u → MXr E l yX8_placeOf cX8_placeOf 2 (some .int) 7 3 18 [.ref (E.ad 0), .int a1] g u := by
  intro u h
  refine MX.of (by decide +kernel) (Nat.le_of_ble_eq_true rfl) ?_
  intro p e s m args below meth c C ht hr ls hl hG
  have C : Cx p s m args meth c cX8_placeOf 2 RX8 E := C
  have hx := C.1
  have hb := C.2.1
  have hl : lv_has ls 2 [(0, .ref (E.ad 0)), (1, .int a1)] := hl
  unfold k8_placeOf at h
  refine lv_aload_n hx hb dX8_placeOf_0 rfl (lv_at hl 0 rfl) ?_
  refine lv_iload_n hx hb dX8_placeOf_1 rfl (lv_at hl 1 rfl) ?_
  refine r_callVXV C hl.1 hG ht [.int a1] [] (m8_checkMirror E l hst a1 g) LX8_142 (mTBi 466 (by decide +kernel) rfl) rfl KC8 rfl (rm_ok (by decide) (by decide)) (Nat.le_of_ble_eq_true rfl) ⟨Nat.le_of_ble_eq_true rfl, Nat.le_of_ble_eq_true rfl⟩ ⟨Nat.le_of_ble_eq_true rfl, Nat.le_of_ble_eq_true rfl⟩ rfl dX8_placeOf_2 h (fun H locs g1 hG h => ?_)
  refine lv_aload_n hx hb dX8_placeOf_5 rfl (lv_at hl 0 rfl) ?_
  refine r_getA (j := 21) C hG FX8_58 rfl rfl dX8_placeOf_6 ?_
  refine r_getR (d := 1) C hG FX8_112 rfl rfl (by decide) dX8_placeOf_9 ?_
  refine lv_iload_n hx hb dX8_placeOf_12 rfl (lv_at hl 1 rfl) ?_
  refine r_callVIP C hl.1 hG [.int a1] [] (m4_findPlace E l 22 rfl a1 g1) LX8_149 rfl KC4 rfl (rm_ok (by decide) (by decide)) (Nat.le_of_ble_eq_true rfl) ⟨Nat.le_of_ble_eq_true rfl, Nat.le_of_ble_eq_true rfl⟩ rfl dX8_placeOf_13 h (fun u2 H locs hG h => ?_)
  exact r_iretX C hG hr rfl dX8_placeOf_16 ⟨Nat.le_of_ble_eq_true rfl, Nat.le_of_ble_eq_true rfl⟩ h
def k8_lightBehind  (a1 : Int32) (g : G) : Option (XR) :=
  xb (k8_checkMirror a1 g) fun g1 =>
  (k4_valueOf 22 141 a1 g1).bind fun u2 =>
  some (0, u2.1, u2.2)
set_option maxRecDepth 100000 in
set_option maxHeartbeats 4000000 in
theorem m8_lightBehind (E : EV) (l : Launch) (hst : l.stackTraces = false) (a1 : Int32) (g : G) : ∀ u, k8_lightBehind a1 g = some u → MXr E l yX8_lightBehind cX8_lightBehind 2 (some .int) 7 3 18 [.ref (E.ad 0), .int a1] g u := by
  intro u h
  refine MX.of (by decide +kernel) (Nat.le_of_ble_eq_true rfl) ?_
  intro p e s m args below meth c C ht hr ls hl hG
  have C : Cx p s m args meth c cX8_lightBehind 2 RX8 E := C
  have hx := C.1
  have hb := C.2.1
  have hl : lv_has ls 2 [(0, .ref (E.ad 0)), (1, .int a1)] := hl
  unfold k8_lightBehind at h
  refine lv_aload_n hx hb dX8_lightBehind_0 rfl (lv_at hl 0 rfl) ?_
  refine lv_iload_n hx hb dX8_lightBehind_1 rfl (lv_at hl 1 rfl) ?_
  refine r_callVXV C hl.1 hG ht [.int a1] [] (m8_checkMirror E l hst a1 g) LX8_142 (mTBi 466 (by decide +kernel) rfl) rfl KC8 rfl (rm_ok (by decide) (by decide)) (Nat.le_of_ble_eq_true rfl) ⟨Nat.le_of_ble_eq_true rfl, Nat.le_of_ble_eq_true rfl⟩ ⟨Nat.le_of_ble_eq_true rfl, Nat.le_of_ble_eq_true rfl⟩ rfl dX8_lightBehind_2 h (fun H locs g1 hG h => ?_)
  refine lv_aload_n hx hb dX8_lightBehind_5 rfl (lv_at hl 0 rfl) ?_
  refine r_getA (j := 21) C hG FX8_58 rfl rfl dX8_lightBehind_6 ?_
  refine r_getR (d := 1) C hG FX8_112 rfl rfl (by decide) dX8_lightBehind_9 ?_
  refine lv_sipush (v := 141) hx hb dX8_lightBehind_12 (by decide) ?_
  refine lv_iload_n hx hb dX8_lightBehind_15 rfl (lv_at hl 1 rfl) ?_
  refine r_callVI C hl.1 hG [.int 141, .int a1] [] (m4_valueOf E l 22 rfl 141 a1 g1) LX8_145 rfl KC4 rfl (rm_ok (by decide) (by decide)) (Nat.le_of_ble_eq_true rfl) ⟨Nat.le_of_ble_eq_true rfl, Nat.le_of_ble_eq_true rfl⟩ rfl dX8_lightBehind_16 h (fun u2 H locs hG h => ?_)
  exact r_iretX C hG hr rfl dX8_lightBehind_19 ⟨Nat.le_of_ble_eq_true rfl, Nat.le_of_ble_eq_true rfl⟩ h
def k8_lostAt  (a1 : Int32) (g : G) : Option (XR) :=
  xb (k8_checkMirror a1 g) fun g1 =>
  (k4_valueOf 22 143 a1 g1).bind fun u2 =>
  some (0, u2.1, u2.2)
set_option maxRecDepth 100000 in
set_option maxHeartbeats 4000000 in
theorem m8_lostAt (E : EV) (l : Launch) (hst : l.stackTraces = false) (a1 : Int32) (g : G) : ∀ u, k8_lostAt a1 g = some u → MXr E l yX8_lostAt cX8_lostAt 2 (some .int) 7 3 18 [.ref (E.ad 0), .int a1] g u := by
  intro u h
  refine MX.of (by decide +kernel) (Nat.le_of_ble_eq_true rfl) ?_
  intro p e s m args below meth c C ht hr ls hl hG
  have C : Cx p s m args meth c cX8_lostAt 2 RX8 E := C
  have hx := C.1
  have hb := C.2.1
  have hl : lv_has ls 2 [(0, .ref (E.ad 0)), (1, .int a1)] := hl
  unfold k8_lostAt at h
  refine lv_aload_n hx hb dX8_lostAt_0 rfl (lv_at hl 0 rfl) ?_
  refine lv_iload_n hx hb dX8_lostAt_1 rfl (lv_at hl 1 rfl) ?_
  refine r_callVXV C hl.1 hG ht [.int a1] [] (m8_checkMirror E l hst a1 g) LX8_142 (mTBi 466 (by decide +kernel) rfl) rfl KC8 rfl (rm_ok (by decide) (by decide)) (Nat.le_of_ble_eq_true rfl) ⟨Nat.le_of_ble_eq_true rfl, Nat.le_of_ble_eq_true rfl⟩ ⟨Nat.le_of_ble_eq_true rfl, Nat.le_of_ble_eq_true rfl⟩ rfl dX8_lostAt_2 h (fun H locs g1 hG h => ?_)
  refine lv_aload_n hx hb dX8_lostAt_5 rfl (lv_at hl 0 rfl) ?_
  refine r_getA (j := 21) C hG FX8_58 rfl rfl dX8_lostAt_6 ?_
  refine r_getR (d := 1) C hG FX8_112 rfl rfl (by decide) dX8_lostAt_9 ?_
  refine lv_sipush (v := 143) hx hb dX8_lostAt_12 (by decide) ?_
  refine lv_iload_n hx hb dX8_lostAt_15 rfl (lv_at hl 1 rfl) ?_
  refine r_callVI C hl.1 hG [.int 143, .int a1] [] (m4_valueOf E l 22 rfl 143 a1 g1) LX8_145 rfl KC4 rfl (rm_ok (by decide) (by decide)) (Nat.le_of_ble_eq_true rfl) ⟨Nat.le_of_ble_eq_true rfl, Nat.le_of_ble_eq_true rfl⟩ rfl dX8_lostAt_16 h (fun u2 H locs hG h => ?_)
  exact r_iretX C hG hr rfl dX8_lostAt_19 ⟨Nat.le_of_ble_eq_true rfl, Nat.le_of_ble_eq_true rfl⟩ h
def k8_tiltBehind  (a1 : Int32) (g : G) : Option (XR) :=
  xb (k8_checkMirror a1 g) fun g1 =>
  (k4_valueOf 22 144 a1 g1).bind fun u2 =>
  some (0, u2.1, u2.2)
set_option maxRecDepth 100000 in
set_option maxHeartbeats 4000000 in
theorem m8_tiltBehind (E : EV) (l : Launch) (hst : l.stackTraces = false) (a1 : Int32) (g : G) : ∀ u, k8_tiltBehind a1 g = some u → MXr E l yX8_tiltBehind cX8_tiltBehind 2 (some .int) 7 3 18 [.ref (E.ad 0), .int a1] g u := by
  intro u h
  refine MX.of (by decide +kernel) (Nat.le_of_ble_eq_true rfl) ?_
  intro p e s m args below meth c C ht hr ls hl hG
  have C : Cx p s m args meth c cX8_tiltBehind 2 RX8 E := C
  have hx := C.1
  have hb := C.2.1
  have hl : lv_has ls 2 [(0, .ref (E.ad 0)), (1, .int a1)] := hl
  unfold k8_tiltBehind at h
  refine lv_aload_n hx hb dX8_tiltBehind_0 rfl (lv_at hl 0 rfl) ?_
  refine lv_iload_n hx hb dX8_tiltBehind_1 rfl (lv_at hl 1 rfl) ?_
  refine r_callVXV C hl.1 hG ht [.int a1] [] (m8_checkMirror E l hst a1 g) LX8_142 (mTBi 466 (by decide +kernel) rfl) rfl KC8 rfl (rm_ok (by decide) (by decide)) (Nat.le_of_ble_eq_true rfl) ⟨Nat.le_of_ble_eq_true rfl, Nat.le_of_ble_eq_true rfl⟩ ⟨Nat.le_of_ble_eq_true rfl, Nat.le_of_ble_eq_true rfl⟩ rfl dX8_tiltBehind_2 h (fun H locs g1 hG h => ?_)
  refine lv_aload_n hx hb dX8_tiltBehind_5 rfl (lv_at hl 0 rfl) ?_
  refine r_getA (j := 21) C hG FX8_58 rfl rfl dX8_tiltBehind_6 ?_
  refine r_getR (d := 1) C hG FX8_112 rfl rfl (by decide) dX8_tiltBehind_9 ?_
  refine lv_sipush (v := 144) hx hb dX8_tiltBehind_12 (by decide) ?_
  refine lv_iload_n hx hb dX8_tiltBehind_15 rfl (lv_at hl 1 rfl) ?_
  refine r_callVI C hl.1 hG [.int 144, .int a1] [] (m4_valueOf E l 22 rfl 144 a1 g1) LX8_145 rfl KC4 rfl (rm_ok (by decide) (by decide)) (Nat.le_of_ble_eq_true rfl) ⟨Nat.le_of_ble_eq_true rfl, Nat.le_of_ble_eq_true rfl⟩ rfl dX8_tiltBehind_16 h (fun u2 H locs hG h => ?_)
  exact r_iretX C hG hr rfl dX8_tiltBehind_19 ⟨Nat.le_of_ble_eq_true rfl, Nat.le_of_ble_eq_true rfl⟩ h
def k8_isCovered  (a1 : Int32) (g : G) : Option (XR) :=
  xb (k8_checkMirror a1 g) fun g1 =>
  if (g1 22 10) = a1 then
    some (0, 1, g1)
  else
    some (0, 0, g1)
set_option maxRecDepth 100000 in
set_option maxHeartbeats 4000000 in
theorem m8_isCovered (E : EV) (l : Launch) (hst : l.stackTraces = false) (a1 : Int32) (g : G) : ∀ u, k8_isCovered a1 g = some u → MXr E l yX8_isCovered cX8_isCovered 2 (some .boolean) 7 3 18 [.ref (E.ad 0), .int a1] g u := by
  intro u h
  refine MX.of (by decide +kernel) (Nat.le_of_ble_eq_true rfl) ?_
  intro p e s m args below meth c C ht hr ls hl hG
  have C : Cx p s m args meth c cX8_isCovered 2 RX8 E := C
  have hx := C.1
  have hb := C.2.1
  have hl : lv_has ls 2 [(0, .ref (E.ad 0)), (1, .int a1)] := hl
  unfold k8_isCovered at h
  refine lv_aload_n hx hb dX8_isCovered_0 rfl (lv_at hl 0 rfl) ?_
  refine lv_iload_n hx hb dX8_isCovered_1 rfl (lv_at hl 1 rfl) ?_
  refine r_callVXV C hl.1 hG ht [.int a1] [] (m8_checkMirror E l hst a1 g) LX8_142 (mTBi 466 (by decide +kernel) rfl) rfl KC8 rfl (rm_ok (by decide) (by decide)) (Nat.le_of_ble_eq_true rfl) ⟨Nat.le_of_ble_eq_true rfl, Nat.le_of_ble_eq_true rfl⟩ ⟨Nat.le_of_ble_eq_true rfl, Nat.le_of_ble_eq_true rfl⟩ rfl dX8_isCovered_2 h (fun H locs g1 hG h => ?_)
  refine lv_aload_n hx hb dX8_isCovered_5 rfl (lv_at hl 0 rfl) ?_
  refine r_getA (j := 21) C hG FX8_58 rfl rfl dX8_isCovered_6 ?_
  refine r_getR (d := 1) C hG FX8_112 rfl rfl (by decide) dX8_isCovered_9 ?_
  refine r_getI C hG FX8_152 rfl rfl dX8_isCovered_12 ?_
  refine lv_iload_n hx hb dX8_isCovered_15 rfl (lv_at hl 1 rfl) ?_
  refine lv_icmp_ne (tgt := 23) hx hb dX8_isCovered_16 (by decide) (fun c2 => ?_) (fun c2 => ?_)
  · have h := (if_inv h).2 c2
    refine lv_iconst (v := 0) hx hb dX8_isCovered_23 (by decide) ?_
    exact r_iretX C hG hr rfl dX8_isCovered_24 ⟨Nat.le_of_ble_eq_true rfl, Nat.le_of_ble_eq_true rfl⟩ h
  · have h := (if_inv h).1 c2
    refine lv_iconst (v := 1) hx hb dX8_isCovered_19 (by decide) ?_
    refine lv_goto (tgt := 24) hx hb dX8_isCovered_20 (by decide) ?_
    exact r_iretX C hG hr rfl dX8_isCovered_24 ⟨Nat.le_of_ble_eq_true rfl, Nat.le_of_ble_eq_true rfl⟩ h
def k8_mirrorAt_18  (g : G) : Option (XR) :=
      some (3, 0, g)
def k8_mirrorAt  (a1 : Int32) (g : G) : Option (XR) :=
  if a1 < 0 then
    k8_mirrorAt_18 g
  else
    if a1 < (g 22 7) then
      (k4_mirrorIn 22 a1 g).bind fun u3 =>
      some (0, u3, g)
    else
      k8_mirrorAt_18 g
set_option maxRecDepth 100000 in
set_option maxHeartbeats 4000000 in
theorem m8_mirrorAt (E : EV) (l : Launch) (hst : l.stackTraces = false) (a1 : Int32) (g : G) : ∀ u, k8_mirrorAt a1 g = some u → MXr E l yX8_mirrorAt cX8_mirrorAt 2 (some .int) 6 3 18 [.ref (E.ad 0), .int a1] g u := by
  intro u h
  refine MX.of (by decide +kernel) (Nat.le_of_ble_eq_true rfl) ?_
  intro p e s m args below meth c C ht hr ls hl hG
  have C : Cx p s m args meth c cX8_mirrorAt 2 RX8 E := C
  have hx := C.1
  have hb := C.2.1
  have hl : lv_has ls 2 [(0, .ref (E.ad 0)), (1, .int a1)] := hl
  unfold k8_mirrorAt at h
  have j18 : ∀ (g : G) (H : Heap) (locs : List Loc) (ls : Array Slot), Gd E s H locs g [] → lv_has ls 2 [] → k8_mirrorAt_18 g = some u → W p l e (rmD 6 3 18) s m args below meth c H locs 0 0 (vx_MQ below (QXr E s.heap.size u) (XCx E s.heap.size u) args s 3 18 (AA E s.heap.size)) (F0 m 18 ls []) := by
    intro g H locs ls hG hl h
    unfold k8_mirrorAt_18 at h
    exact r_throwS (ek := 3) C hl.1 hG hst ht 30 XWX8_155_159 (by decide) ⟨rfl, rfl⟩ (by decide) dX8_mirrorAt_18 dX8_mirrorAt_21 dX8_mirrorAt_22 dX8_mirrorAt_24 dX8_mirrorAt_27 ⟨Nat.le_of_ble_eq_true rfl, Nat.le_of_ble_eq_true rfl, Nat.le_of_ble_eq_true rfl, Nat.le_of_ble_eq_true rfl⟩ ⟨Nat.le_of_ble_eq_true rfl, Nat.le_of_ble_eq_true rfl⟩ h
  refine lv_iload_n hx hb dX8_mirrorAt_0 rfl (lv_at hl 1 rfl) ?_
  refine lv_if_lt (tgt := 18) hx hb dX8_mirrorAt_1 (by decide) (fun c1 => ?_) (fun c1 => ?_)
  · have h := (if_inv h).1 c1
    exact j18 g _ _ _ hG (lv_sub hl [] rfl) h
  · have h := (if_inv h).2 c1
    refine lv_iload_n hx hb dX8_mirrorAt_4 rfl (lv_at hl 1 rfl) ?_
    refine lv_aload_n hx hb dX8_mirrorAt_5 rfl (lv_at hl 0 rfl) ?_
    refine r_getA (j := 21) C hG FX8_58 rfl rfl dX8_mirrorAt_6 ?_
    refine r_getR (d := 1) C hG FX8_112 rfl rfl (by decide) dX8_mirrorAt_9 ?_
    refine r_getI C hG FX8_116 rfl rfl dX8_mirrorAt_12 ?_
    refine lv_icmp_lt (tgt := 28) hx hb dX8_mirrorAt_15 (by decide) (fun c2 => ?_) (fun c2 => ?_)
    · have h := (if_inv h).1 c2
      refine lv_aload_n hx hb dX8_mirrorAt_28 rfl (lv_at hl 0 rfl) ?_
      refine r_getA (j := 21) C hG FX8_58 rfl rfl dX8_mirrorAt_29 ?_
      refine r_getR (d := 1) C hG FX8_112 rfl rfl (by decide) dX8_mirrorAt_32 ?_
      refine lv_iload_n hx hb dX8_mirrorAt_35 rfl (lv_at hl 1 rfl) ?_
      refine r_callVIP C hl.1 hG [.int a1] [] (m4_mirrorIn E l 22 rfl a1 g) LX8_160 rfl KC4 rfl (rm_ok (by decide) (by decide)) (Nat.le_of_ble_eq_true rfl) ⟨Nat.le_of_ble_eq_true rfl, Nat.le_of_ble_eq_true rfl⟩ rfl dX8_mirrorAt_36 h (fun u3 H locs hG h => ?_)
      exact r_iretX C hG hr rfl dX8_mirrorAt_39 ⟨Nat.le_of_ble_eq_true rfl, Nat.le_of_ble_eq_true rfl⟩ h
    · have h := (if_inv h).2 c2
      exact j18 g _ _ _ hG (lv_sub hl [] rfl) h
def k8_checkJob_18  (g : G) : Option (XR) :=
      some (3, 0, g)
def k8_checkJob  (a1 : Int32) (g : G) : Option (XR) :=
  if a1 < 0 then
    k8_checkJob_18 g
  else
    if a1 < (g 30 2) then
      some (0, 0, g)
    else
      k8_checkJob_18 g
set_option maxRecDepth 100000 in
set_option maxHeartbeats 4000000 in
theorem m8_checkJob (E : EV) (l : Launch) (hst : l.stackTraces = false) (a1 : Int32) (g : G) : ∀ u, k8_checkJob a1 g = some u → MXv E l yX8_checkJob cX8_checkJob 2 none 6 1 6 [.ref (E.ad 0), .int a1] g u := by
  intro u h
  refine MX.of (by decide +kernel) (Nat.le_of_ble_eq_true rfl) ?_
  intro p e s m args below meth c C ht hr ls hl hG
  have C : Cx p s m args meth c cX8_checkJob 2 RX8 E := C
  have hx := C.1
  have hb := C.2.1
  have hl : lv_has ls 2 [(0, .ref (E.ad 0)), (1, .int a1)] := hl
  unfold k8_checkJob at h
  have j18 : ∀ (g : G) (H : Heap) (locs : List Loc) (ls : Array Slot), Gd E s H locs g [] → lv_has ls 2 [] → k8_checkJob_18 g = some u → W p l e (rmD 6 1 6) s m args below meth c H locs 0 0 (vx_MQ below (QXv E s.heap.size u) (XCx E s.heap.size u) args s 1 6 (AA E s.heap.size)) (F0 m 18 ls []) := by
    intro g H locs ls hG hl h
    unfold k8_checkJob_18 at h
    exact r_throwSW (ek := 3) C hl.1 hG hst ht 31 XWX8_155_159 (by decide) ⟨rfl, rfl⟩ (by decide) dX8_checkJob_18 dX8_checkJob_21 dX8_checkJob_22 dX8_checkJob_25 dX8_checkJob_28 ⟨Nat.le_of_ble_eq_true rfl, Nat.le_of_ble_eq_true rfl, Nat.le_of_ble_eq_true rfl, Nat.le_of_ble_eq_true rfl⟩ ⟨Nat.le_of_ble_eq_true rfl, Nat.le_of_ble_eq_true rfl⟩ h
  refine lv_iload_n hx hb dX8_checkJob_0 rfl (lv_at hl 1 rfl) ?_
  refine lv_if_lt (tgt := 18) hx hb dX8_checkJob_1 (by decide) (fun c1 => ?_) (fun c1 => ?_)
  · have h := (if_inv h).1 c1
    exact j18 g _ _ _ hG (lv_sub hl [] rfl) h
  · have h := (if_inv h).2 c1
    refine lv_iload_n hx hb dX8_checkJob_4 rfl (lv_at hl 1 rfl) ?_
    refine lv_aload_n hx hb dX8_checkJob_5 rfl (lv_at hl 0 rfl) ?_
    refine r_getA (j := 21) C hG FX8_58 rfl rfl dX8_checkJob_6 ?_
    refine r_getR (d := 9) C hG FX8_163 rfl rfl (by decide) dX8_checkJob_9 ?_
    refine r_getI C hG FX8_167 rfl rfl dX8_checkJob_12 ?_
    refine lv_icmp_lt (tgt := 29) hx hb dX8_checkJob_15 (by decide) (fun c2 => ?_) (fun c2 => ?_)
    · have h := (if_inv h).1 c2
      exact r_vretX C hG hr dX8_checkJob_29 ⟨Nat.le_of_ble_eq_true rfl, Nat.le_of_ble_eq_true rfl⟩ h
    · have h := (if_inv h).2 c2
      exact j18 g _ _ _ hG (lv_sub hl [] rfl) h
def k8_kindOfJob  (a1 : Int32) (g : G) : Option (XR) :=
  xb (k8_checkJob a1 g) fun g1 =>
  (k3_kindIn 30 a1 g1).bind fun u2 =>
  some (0, u2, g1)
set_option maxRecDepth 100000 in
set_option maxHeartbeats 4000000 in
theorem m8_kindOfJob (E : EV) (l : Launch) (hst : l.stackTraces = false) (a1 : Int32) (g : G) : ∀ u, k8_kindOfJob a1 g = some u → MXr E l yX8_kindOfJob cX8_kindOfJob 2 (some .int) 7 3 18 [.ref (E.ad 0), .int a1] g u := by
  intro u h
  refine MX.of (by decide +kernel) (Nat.le_of_ble_eq_true rfl) ?_
  intro p e s m args below meth c C ht hr ls hl hG
  have C : Cx p s m args meth c cX8_kindOfJob 2 RX8 E := C
  have hx := C.1
  have hb := C.2.1
  have hl : lv_has ls 2 [(0, .ref (E.ad 0)), (1, .int a1)] := hl
  unfold k8_kindOfJob at h
  refine lv_aload_n hx hb dX8_kindOfJob_0 rfl (lv_at hl 0 rfl) ?_
  refine lv_iload_n hx hb dX8_kindOfJob_1 rfl (lv_at hl 1 rfl) ?_
  refine r_callVXV C hl.1 hG ht [.int a1] [] (m8_checkJob E l hst a1 g) LX8_175 (mTBi 540 (by decide +kernel) rfl) rfl KC8 rfl (rm_ok (by decide) (by decide)) (Nat.le_of_ble_eq_true rfl) ⟨Nat.le_of_ble_eq_true rfl, Nat.le_of_ble_eq_true rfl⟩ ⟨Nat.le_of_ble_eq_true rfl, Nat.le_of_ble_eq_true rfl⟩ rfl dX8_kindOfJob_2 h (fun H locs g1 hG h => ?_)
  refine lv_aload_n hx hb dX8_kindOfJob_5 rfl (lv_at hl 0 rfl) ?_
  refine r_getA (j := 21) C hG FX8_58 rfl rfl dX8_kindOfJob_6 ?_
  refine r_getR (d := 9) C hG FX8_163 rfl rfl (by decide) dX8_kindOfJob_9 ?_
  refine lv_iload_n hx hb dX8_kindOfJob_12 rfl (lv_at hl 1 rfl) ?_
  refine r_callVIP C hl.1 hG [.int a1] [] (m3_kindIn E l 30 rfl a1 g1) LX8_178 rfl KC3 rfl (rm_ok (by decide) (by decide)) (Nat.le_of_ble_eq_true rfl) ⟨Nat.le_of_ble_eq_true rfl, Nat.le_of_ble_eq_true rfl⟩ rfl dX8_kindOfJob_13 h (fun u2 H locs hG h => ?_)
  exact r_iretX C hG hr rfl dX8_kindOfJob_16 ⟨Nat.le_of_ble_eq_true rfl, Nat.le_of_ble_eq_true rfl⟩ h
def k8_mirrorOfJob  (a1 : Int32) (g : G) : Option (XR) :=
  xb (k8_checkJob a1 g) fun g1 =>
  (k3_mirrorIn 30 a1 g1).bind fun u2 =>
  some (0, u2, g1)
set_option maxRecDepth 100000 in
set_option maxHeartbeats 4000000 in
theorem m8_mirrorOfJob (E : EV) (l : Launch) (hst : l.stackTraces = false) (a1 : Int32) (g : G) : ∀ u, k8_mirrorOfJob a1 g = some u → MXr E l yX8_mirrorOfJob cX8_mirrorOfJob 2 (some .int) 7 3 18 [.ref (E.ad 0), .int a1] g u := by
  intro u h
  refine MX.of (by decide +kernel) (Nat.le_of_ble_eq_true rfl) ?_
  intro p e s m args below meth c C ht hr ls hl hG
  have C : Cx p s m args meth c cX8_mirrorOfJob 2 RX8 E := C
  have hx := C.1
  have hb := C.2.1
  have hl : lv_has ls 2 [(0, .ref (E.ad 0)), (1, .int a1)] := hl
  unfold k8_mirrorOfJob at h
  refine lv_aload_n hx hb dX8_mirrorOfJob_0 rfl (lv_at hl 0 rfl) ?_
  refine lv_iload_n hx hb dX8_mirrorOfJob_1 rfl (lv_at hl 1 rfl) ?_
  refine r_callVXV C hl.1 hG ht [.int a1] [] (m8_checkJob E l hst a1 g) LX8_175 (mTBi 540 (by decide +kernel) rfl) rfl KC8 rfl (rm_ok (by decide) (by decide)) (Nat.le_of_ble_eq_true rfl) ⟨Nat.le_of_ble_eq_true rfl, Nat.le_of_ble_eq_true rfl⟩ ⟨Nat.le_of_ble_eq_true rfl, Nat.le_of_ble_eq_true rfl⟩ rfl dX8_mirrorOfJob_2 h (fun H locs g1 hG h => ?_)
  refine lv_aload_n hx hb dX8_mirrorOfJob_5 rfl (lv_at hl 0 rfl) ?_
  refine r_getA (j := 21) C hG FX8_58 rfl rfl dX8_mirrorOfJob_6 ?_
  refine r_getR (d := 9) C hG FX8_163 rfl rfl (by decide) dX8_mirrorOfJob_9 ?_
  refine lv_iload_n hx hb dX8_mirrorOfJob_12 rfl (lv_at hl 1 rfl) ?_
  refine r_callVIP C hl.1 hG [.int a1] [] (m3_mirrorIn E l 30 rfl a1 g1) LX8_181 rfl KC3 rfl (rm_ok (by decide) (by decide)) (Nat.le_of_ble_eq_true rfl) ⟨Nat.le_of_ble_eq_true rfl, Nat.le_of_ble_eq_true rfl⟩ rfl dX8_mirrorOfJob_13 h (fun u2 H locs hG h => ?_)
  exact r_iretX C hG hr rfl dX8_mirrorOfJob_16 ⟨Nat.le_of_ble_eq_true rfl, Nat.le_of_ble_eq_true rfl⟩ h
def k8_orderJob_14  (g : G) : Option (XR) :=
      some (2, 0, g)
def k8_orderJob  (a1 : Int32) (a2 : Int32) (g : G) : Option (XR) :=
  xb (k8_checkMirror a1 g) fun g1 =>
  if a2 < 0 then
    k8_orderJob_14 g1
  else
    if a2 ≤ 2 then
      (k3_takesIn 30 a2 a1 g1).bind fun u4 =>
      if u4 = 0 then
        some (1, 0, g1)
      else
        (k3_add 30 a2 a1 g1).bind fun g6 =>
        some (0, (g6 30 2), g6)
    else
      k8_orderJob_14 g1
set_option maxRecDepth 100000 in
set_option maxHeartbeats 4000000 in
theorem m8_orderJob (E : EV) (l : Launch) (hst : l.stackTraces = false) (a1 : Int32) (a2 : Int32) (g : G) : ∀ u, k8_orderJob a1 a2 g = some u → MXr E l yX8_orderJob cX8_orderJob 3 (some .int) 7 3 18 [.ref (E.ad 0), .int a1, .int a2] g u := by
  intro u h
  refine MX.of (by decide +kernel) (Nat.le_of_ble_eq_true rfl) ?_
  intro p e s m args below meth c C ht hr ls hl hG
  have C : Cx p s m args meth c cX8_orderJob 3 RX8 E := C
  have hx := C.1
  have hb := C.2.1
  have hl : lv_has ls 3 [(0, .ref (E.ad 0)), (1, .int a1), (2, .int a2)] := hl
  unfold k8_orderJob at h
  have j14 : ∀ (g : G) (H : Heap) (locs : List Loc) (ls : Array Slot), Gd E s H locs g [] → lv_has ls 3 [] → k8_orderJob_14 g = some u → W p l e (rmD 7 3 18) s m args below meth c H locs 1 6 (vx_MQ below (QXr E s.heap.size u) (XCx E s.heap.size u) args s 3 18 (AA E s.heap.size)) (F0 m 14 ls []) := by
    intro g H locs ls hG hl h
    unfold k8_orderJob_14 at h
    exact r_throwS (ek := 2) C hl.1 hG hst ht 32 XWX8_83_87 (by decide) ⟨rfl, rfl⟩ (by decide) dX8_orderJob_14 dX8_orderJob_17 dX8_orderJob_18 dX8_orderJob_20 dX8_orderJob_23 ⟨Nat.le_of_ble_eq_true rfl, Nat.le_of_ble_eq_true rfl, Nat.le_of_ble_eq_true rfl, Nat.le_of_ble_eq_true rfl⟩ ⟨Nat.le_of_ble_eq_true rfl, Nat.le_of_ble_eq_true rfl⟩ h
  refine lv_aload_n hx hb dX8_orderJob_0 rfl (lv_at hl 0 rfl) ?_
  refine lv_iload_n hx hb dX8_orderJob_1 rfl (lv_at hl 1 rfl) ?_
  refine r_callVXV C hl.1 hG ht [.int a1] [] (m8_checkMirror E l hst a1 g) LX8_142 (mTBi 466 (by decide +kernel) rfl) rfl KC8 rfl (rm_ok (by decide) (by decide)) (Nat.le_of_ble_eq_true rfl) ⟨Nat.le_of_ble_eq_true rfl, Nat.le_of_ble_eq_true rfl⟩ ⟨Nat.le_of_ble_eq_true rfl, Nat.le_of_ble_eq_true rfl⟩ rfl dX8_orderJob_2 h (fun H locs g1 hG h => ?_)
  refine lv_iload_n hx hb dX8_orderJob_5 rfl (lv_at hl 2 rfl) ?_
  refine lv_if_lt (tgt := 14) hx hb dX8_orderJob_6 (by decide) (fun c2 => ?_) (fun c2 => ?_)
  · have h := (if_inv h).1 c2
    exact j14 g1 _ _ _ hG (lv_sub hl [] rfl) h
  · have h := (if_inv h).2 c2
    refine lv_iload_n hx hb dX8_orderJob_9 rfl (lv_at hl 2 rfl) ?_
    refine lv_iconst (v := 2) hx hb dX8_orderJob_10 (by decide) ?_
    refine lv_icmp_le (tgt := 24) hx hb dX8_orderJob_11 (by decide) (fun c3 => ?_) (fun c3 => ?_)
    · have h := (if_inv h).1 c3
      refine lv_aload_n hx hb dX8_orderJob_24 rfl (lv_at hl 0 rfl) ?_
      refine r_getA (j := 21) C hG FX8_58 rfl rfl dX8_orderJob_25 ?_
      refine r_getR (d := 9) C hG FX8_163 rfl rfl (by decide) dX8_orderJob_28 ?_
      refine lv_iload_n hx hb dX8_orderJob_31 rfl (lv_at hl 2 rfl) ?_
      refine lv_iload_n hx hb dX8_orderJob_32 rfl (lv_at hl 1 rfl) ?_
      refine r_callVIP C hl.1 hG [.int a2, .int a1] [] (m3_takesIn E l 30 rfl a2 a1 g1) LX8_187 rfl KC3 rfl (rm_ok (by decide) (by decide)) (Nat.le_of_ble_eq_true rfl) ⟨Nat.le_of_ble_eq_true rfl, Nat.le_of_ble_eq_true rfl⟩ rfl dX8_orderJob_33 h (fun u4 H locs hG h => ?_)
      refine lv_if_ne (tgt := 49) hx hb dX8_orderJob_36 (by decide) (fun c5 => ?_) (fun c5 => ?_)
      · have h := (if_inv h).2 c5
        refine lv_aload_n hx hb dX8_orderJob_49 rfl (lv_at hl 0 rfl) ?_
        refine r_getA (j := 21) C hG FX8_58 rfl rfl dX8_orderJob_50 ?_
        refine r_getR (d := 9) C hG FX8_163 rfl rfl (by decide) dX8_orderJob_53 ?_
        refine lv_iload_n hx hb dX8_orderJob_56 rfl (lv_at hl 2 rfl) ?_
        refine lv_iload_n hx hb dX8_orderJob_57 rfl (lv_at hl 1 rfl) ?_
        refine r_callVV C hl.1 hG [.int a2, .int a1] [] (m3_add E l 30 rfl a2 a1 g1) LX8_193 rfl KC3 rfl (rm_ok (by decide) (by decide)) (Nat.le_of_ble_eq_true rfl) ⟨Nat.le_of_ble_eq_true rfl, Nat.le_of_ble_eq_true rfl⟩ rfl dX8_orderJob_58 h (fun g6 H locs hG h => ?_)
        refine lv_aload_n hx hb dX8_orderJob_61 rfl (lv_at hl 0 rfl) ?_
        refine r_getA (j := 21) C hG FX8_58 rfl rfl dX8_orderJob_62 ?_
        refine r_getR (d := 9) C hG FX8_163 rfl rfl (by decide) dX8_orderJob_65 ?_
        refine r_getI C hG FX8_167 rfl rfl dX8_orderJob_68 ?_
        exact r_iretX C hG hr rfl dX8_orderJob_71 ⟨Nat.le_of_ble_eq_true rfl, Nat.le_of_ble_eq_true rfl⟩ h
      · have h := (if_inv h).1 c5
        exact r_throwS (ek := 1) C hl.1 hG hst ht 33 XWX8_72_76 (by decide) ⟨rfl, rfl⟩ (by decide) dX8_orderJob_39 dX8_orderJob_42 dX8_orderJob_43 dX8_orderJob_45 dX8_orderJob_48 ⟨Nat.le_of_ble_eq_true rfl, Nat.le_of_ble_eq_true rfl, Nat.le_of_ble_eq_true rfl, Nat.le_of_ble_eq_true rfl⟩ ⟨Nat.le_of_ble_eq_true rfl, Nat.le_of_ble_eq_true rfl⟩ h
    · have h := (if_inv h).2 c3
      exact j14 g1 _ _ _ hG (lv_sub hl [] rfl) h
def k8_cancelJob  (a1 : Int32) (g : G) : Option (XR) :=
  xb (k8_checkJob a1 g) fun g1 =>
  (k3_mirrorIn 30 a1 g1).bind fun u2 =>
  (k7_dropJob 21 a1 g1).bind fun g3 =>
  some (0, u2, g3)
set_option maxRecDepth 100000 in
set_option maxHeartbeats 4000000 in
theorem m8_cancelJob (E : EV) (l : Launch) (hst : l.stackTraces = false) (a1 : Int32) (g : G) : ∀ u, k8_cancelJob a1 g = some u → MXr E l yX8_cancelJob cX8_cancelJob 3 (some .int) 7 3 18 [.ref (E.ad 0), .int a1] g u := by
  intro u h
  refine MX.of (by decide +kernel) (Nat.le_of_ble_eq_true rfl) ?_
  intro p e s m args below meth c C ht hr ls hl hG
  have C : Cx p s m args meth c cX8_cancelJob 3 RX8 E := C
  have hx := C.1
  have hb := C.2.1
  have hl : lv_has ls 3 [(0, .ref (E.ad 0)), (1, .int a1)] := hl
  unfold k8_cancelJob at h
  refine lv_aload_n hx hb dX8_cancelJob_0 rfl (lv_at hl 0 rfl) ?_
  refine lv_iload_n hx hb dX8_cancelJob_1 rfl (lv_at hl 1 rfl) ?_
  refine r_callVXV C hl.1 hG ht [.int a1] [] (m8_checkJob E l hst a1 g) LX8_175 (mTBi 540 (by decide +kernel) rfl) rfl KC8 rfl (rm_ok (by decide) (by decide)) (Nat.le_of_ble_eq_true rfl) ⟨Nat.le_of_ble_eq_true rfl, Nat.le_of_ble_eq_true rfl⟩ ⟨Nat.le_of_ble_eq_true rfl, Nat.le_of_ble_eq_true rfl⟩ rfl dX8_cancelJob_2 h (fun H locs g1 hG h => ?_)
  refine lv_aload_n hx hb dX8_cancelJob_5 rfl (lv_at hl 0 rfl) ?_
  refine r_getA (j := 21) C hG FX8_58 rfl rfl dX8_cancelJob_6 ?_
  refine r_getR (d := 9) C hG FX8_163 rfl rfl (by decide) dX8_cancelJob_9 ?_
  refine lv_iload_n hx hb dX8_cancelJob_12 rfl (lv_at hl 1 rfl) ?_
  refine r_callVIP C hl.1 hG [.int a1] [] (m3_mirrorIn E l 30 rfl a1 g1) LX8_181 rfl KC3 rfl (rm_ok (by decide) (by decide)) (Nat.le_of_ble_eq_true rfl) ⟨Nat.le_of_ble_eq_true rfl, Nat.le_of_ble_eq_true rfl⟩ rfl dX8_cancelJob_13 h (fun u2 H locs hG h => ?_)
  refine lv_istore_n (lv' := [(2, .int u2), (0, .ref (E.ad 0)), (1, .int a1)]) hx hb dX8_cancelJob_16 rfl hl (by decide) rfl (fun ls hl => ?_)
  refine lv_aload_n hx hb dX8_cancelJob_17 rfl (lv_at hl 1 rfl) ?_
  refine r_getA (j := 21) C hG FX8_58 rfl rfl dX8_cancelJob_18 ?_
  refine lv_iload_n hx hb dX8_cancelJob_21 rfl (lv_at hl 2 rfl) ?_
  refine r_callVV C hl.1 hG [.int a1] [] (m7_dropJob E l 21 rfl a1 g1) LX8_197 rfl KC7 rfl (rm_ok (by decide) (by decide)) (Nat.le_of_ble_eq_true rfl) ⟨Nat.le_of_ble_eq_true rfl, Nat.le_of_ble_eq_true rfl⟩ rfl dX8_cancelJob_22 h (fun g3 H locs hG h => ?_)
  refine lv_iload_n hx hb dX8_cancelJob_25 rfl (lv_at hl 0 rfl) ?_
  exact r_iretX C hG hr rfl dX8_cancelJob_26 ⟨Nat.le_of_ble_eq_true rfl, Nat.le_of_ble_eq_true rfl⟩ h
def k8_turnMirror_17  (g : G) : Option (XR) :=
      some (2, 0, g)
def k8_turnMirror  (a1 : Int32) (a2 : Int32) (g : G) : Option (XR) :=
  xb (k8_checkMirror a1 g) fun g1 =>
  if a2 < (-90) then
    k8_turnMirror_17 g1
  else
    if a2 ≤ 90 then
      (k4_valueOf 22 130 a1 g1).bind fun u4 =>
      bd u4.1 fun x5 =>
      (k4_turn 22 a1 a2 u4.2).bind fun g6 =>
      some (0, x5, g6)
    else
      k8_turnMirror_17 g1
set_option maxRecDepth 100000 in
set_option maxHeartbeats 4000000 in
theorem m8_turnMirror (E : EV) (l : Launch) (hst : l.stackTraces = false) (a1 : Int32) (a2 : Int32) (g : G) : ∀ u, k8_turnMirror a1 a2 g = some u → MXr E l yX8_turnMirror cX8_turnMirror 4 (some .int) 7 3 18 [.ref (E.ad 0), .int a1, .int a2] g u := by
  intro u h
  refine MX.of (by decide +kernel) (Nat.le_of_ble_eq_true rfl) ?_
  intro p e s m args below meth c C ht hr ls hl hG
  have C : Cx p s m args meth c cX8_turnMirror 4 RX8 E := C
  have hx := C.1
  have hb := C.2.1
  have hl : lv_has ls 4 [(0, .ref (E.ad 0)), (1, .int a1), (2, .int a2)] := hl
  unfold k8_turnMirror at h
  have j17 : ∀ (g : G) (H : Heap) (locs : List Loc) (ls : Array Slot), Gd E s H locs g [] → lv_has ls 4 [] → k8_turnMirror_17 g = some u → W p l e (rmD 7 3 18) s m args below meth c H locs 1 6 (vx_MQ below (QXr E s.heap.size u) (XCx E s.heap.size u) args s 3 18 (AA E s.heap.size)) (F0 m 17 ls []) := by
    intro g H locs ls hG hl h
    unfold k8_turnMirror_17 at h
    exact r_throwS (ek := 2) C hl.1 hG hst ht 34 XWX8_83_87 (by decide) ⟨rfl, rfl⟩ (by decide) dX8_turnMirror_17 dX8_turnMirror_20 dX8_turnMirror_21 dX8_turnMirror_23 dX8_turnMirror_26 ⟨Nat.le_of_ble_eq_true rfl, Nat.le_of_ble_eq_true rfl, Nat.le_of_ble_eq_true rfl, Nat.le_of_ble_eq_true rfl⟩ ⟨Nat.le_of_ble_eq_true rfl, Nat.le_of_ble_eq_true rfl⟩ h
  refine lv_aload_n hx hb dX8_turnMirror_0 rfl (lv_at hl 0 rfl) ?_
  refine lv_iload_n hx hb dX8_turnMirror_1 rfl (lv_at hl 1 rfl) ?_
  refine r_callVXV C hl.1 hG ht [.int a1] [] (m8_checkMirror E l hst a1 g) LX8_142 (mTBi 466 (by decide +kernel) rfl) rfl KC8 rfl (rm_ok (by decide) (by decide)) (Nat.le_of_ble_eq_true rfl) ⟨Nat.le_of_ble_eq_true rfl, Nat.le_of_ble_eq_true rfl⟩ ⟨Nat.le_of_ble_eq_true rfl, Nat.le_of_ble_eq_true rfl⟩ rfl dX8_turnMirror_2 h (fun H locs g1 hG h => ?_)
  refine lv_iload_n hx hb dX8_turnMirror_5 rfl (lv_at hl 2 rfl) ?_
  refine lv_bipush (v := (-90)) hx hb dX8_turnMirror_6 (by decide) ?_
  refine lv_icmp_lt (tgt := 17) hx hb dX8_turnMirror_8 (by decide) (fun c2 => ?_) (fun c2 => ?_)
  · have h := (if_inv h).1 c2
    exact j17 g1 _ _ _ hG (lv_sub hl [] rfl) h
  · have h := (if_inv h).2 c2
    refine lv_iload_n hx hb dX8_turnMirror_11 rfl (lv_at hl 2 rfl) ?_
    refine lv_bipush (v := 90) hx hb dX8_turnMirror_12 (by decide) ?_
    refine lv_icmp_le (tgt := 27) hx hb dX8_turnMirror_14 (by decide) (fun c3 => ?_) (fun c3 => ?_)
    · have h := (if_inv h).1 c3
      refine lv_aload_n hx hb dX8_turnMirror_27 rfl (lv_at hl 0 rfl) ?_
      refine r_getA (j := 21) C hG FX8_58 rfl rfl dX8_turnMirror_28 ?_
      refine r_getR (d := 1) C hG FX8_112 rfl rfl (by decide) dX8_turnMirror_31 ?_
      refine lv_sipush (v := 130) hx hb dX8_turnMirror_34 (by decide) ?_
      refine lv_iload_n hx hb dX8_turnMirror_37 rfl (lv_at hl 1 rfl) ?_
      refine r_callVI C hl.1 hG [.int 130, .int a1] [] (m4_valueOf E l 22 rfl 130 a1 g1) LX8_145 rfl KC4 rfl (rm_ok (by decide) (by decide)) (Nat.le_of_ble_eq_true rfl) ⟨Nat.le_of_ble_eq_true rfl, Nat.le_of_ble_eq_true rfl⟩ rfl dX8_turnMirror_38 h (fun u4 H locs hG h => ?_)
      refine r_nm h (fun x5 h => ?_)
      refine lv_istore_n (lv' := [(3, .int x5), (0, .ref (E.ad 0)), (1, .int a1), (2, .int a2)]) hx hb dX8_turnMirror_41 rfl hl (by decide) rfl (fun ls hl => ?_)
      refine lv_aload_n hx hb dX8_turnMirror_42 rfl (lv_at hl 1 rfl) ?_
      refine r_getA (j := 21) C hG FX8_58 rfl rfl dX8_turnMirror_43 ?_
      refine r_getR (d := 1) C hG FX8_112 rfl rfl (by decide) dX8_turnMirror_46 ?_
      refine lv_iload_n hx hb dX8_turnMirror_49 rfl (lv_at hl 2 rfl) ?_
      refine lv_iload_n hx hb dX8_turnMirror_50 rfl (lv_at hl 3 rfl) ?_
      refine r_callVV C hl.1 hG [.int a1, .int a2] [] (m4_turn E l 22 rfl a1 a2 u4.2) LX8_202 rfl KC4 rfl (rm_ok (by decide) (by decide)) (Nat.le_of_ble_eq_true rfl) ⟨Nat.le_of_ble_eq_true rfl, Nat.le_of_ble_eq_true rfl⟩ rfl dX8_turnMirror_51 h (fun g6 H locs hG h => ?_)
      refine lv_iload_n hx hb dX8_turnMirror_54 rfl (lv_at hl 0 rfl) ?_
      exact r_iretX C hG hr rfl dX8_turnMirror_55 ⟨Nat.le_of_ble_eq_true rfl, Nat.le_of_ble_eq_true rfl⟩ h
    · have h := (if_inv h).2 c3
      exact j17 g1 _ _ _ hG (lv_sub hl [] rfl) h
def k8_dustMirror_15  (g : G) : Option (XR) :=
      some (2, 0, g)
def k8_dustMirror  (a1 : Int32) (a2 : Int32) (g : G) : Option (XR) :=
  xb (k8_checkMirror a1 g) fun g1 =>
  if a2 < 0 then
    k8_dustMirror_15 g1
  else
    if a2 ≤ 100 then
      (k4_dim 22 a1 a2 100 g1).bind fun g4 =>
      (k4_valueOf 22 129 a1 g4).bind fun u5 =>
      some (0, u5.1, u5.2)
    else
      k8_dustMirror_15 g1
set_option maxRecDepth 100000 in
set_option maxHeartbeats 4000000 in
theorem m8_dustMirror (E : EV) (l : Launch) (hst : l.stackTraces = false) (a1 : Int32) (a2 : Int32) (g : G) : ∀ u, k8_dustMirror a1 a2 g = some u → MXr E l yX8_dustMirror cX8_dustMirror 3 (some .int) 7 3 18 [.ref (E.ad 0), .int a1, .int a2] g u := by
  intro u h
  refine MX.of (by decide +kernel) (Nat.le_of_ble_eq_true rfl) ?_
  intro p e s m args below meth c C ht hr ls hl hG
  have C : Cx p s m args meth c cX8_dustMirror 3 RX8 E := C
  have hx := C.1
  have hb := C.2.1
  have hl : lv_has ls 3 [(0, .ref (E.ad 0)), (1, .int a1), (2, .int a2)] := hl
  unfold k8_dustMirror at h
  have j15 : ∀ (g : G) (H : Heap) (locs : List Loc) (ls : Array Slot), Gd E s H locs g [] → lv_has ls 3 [] → k8_dustMirror_15 g = some u → W p l e (rmD 7 3 18) s m args below meth c H locs 1 6 (vx_MQ below (QXr E s.heap.size u) (XCx E s.heap.size u) args s 3 18 (AA E s.heap.size)) (F0 m 15 ls []) := by
    intro g H locs ls hG hl h
    unfold k8_dustMirror_15 at h
    exact r_throwS (ek := 2) C hl.1 hG hst ht 38 XWX8_83_87 (by decide) ⟨rfl, rfl⟩ (by decide) dX8_dustMirror_15 dX8_dustMirror_18 dX8_dustMirror_19 dX8_dustMirror_21 dX8_dustMirror_24 ⟨Nat.le_of_ble_eq_true rfl, Nat.le_of_ble_eq_true rfl, Nat.le_of_ble_eq_true rfl, Nat.le_of_ble_eq_true rfl⟩ ⟨Nat.le_of_ble_eq_true rfl, Nat.le_of_ble_eq_true rfl⟩ h
  refine lv_aload_n hx hb dX8_dustMirror_0 rfl (lv_at hl 0 rfl) ?_
  refine lv_iload_n hx hb dX8_dustMirror_1 rfl (lv_at hl 1 rfl) ?_
  refine r_callVXV C hl.1 hG ht [.int a1] [] (m8_checkMirror E l hst a1 g) LX8_142 (mTBi 466 (by decide +kernel) rfl) rfl KC8 rfl (rm_ok (by decide) (by decide)) (Nat.le_of_ble_eq_true rfl) ⟨Nat.le_of_ble_eq_true rfl, Nat.le_of_ble_eq_true rfl⟩ ⟨Nat.le_of_ble_eq_true rfl, Nat.le_of_ble_eq_true rfl⟩ rfl dX8_dustMirror_2 h (fun H locs g1 hG h => ?_)
  refine lv_iload_n hx hb dX8_dustMirror_5 rfl (lv_at hl 2 rfl) ?_
  refine lv_if_lt (tgt := 15) hx hb dX8_dustMirror_6 (by decide) (fun c2 => ?_) (fun c2 => ?_)
  · have h := (if_inv h).1 c2
    exact j15 g1 _ _ _ hG (lv_sub hl [] rfl) h
  · have h := (if_inv h).2 c2
    refine lv_iload_n hx hb dX8_dustMirror_9 rfl (lv_at hl 2 rfl) ?_
    refine lv_bipush (v := 100) hx hb dX8_dustMirror_10 (by decide) ?_
    refine lv_icmp_le (tgt := 25) hx hb dX8_dustMirror_12 (by decide) (fun c3 => ?_) (fun c3 => ?_)
    · have h := (if_inv h).1 c3
      refine lv_aload_n hx hb dX8_dustMirror_25 rfl (lv_at hl 0 rfl) ?_
      refine r_getA (j := 21) C hG FX8_58 rfl rfl dX8_dustMirror_26 ?_
      refine r_getR (d := 1) C hG FX8_112 rfl rfl (by decide) dX8_dustMirror_29 ?_
      refine lv_iload_n hx hb dX8_dustMirror_32 rfl (lv_at hl 1 rfl) ?_
      refine lv_iload_n hx hb dX8_dustMirror_33 rfl (lv_at hl 2 rfl) ?_
      refine lv_bipush (v := 100) hx hb dX8_dustMirror_34 (by decide) ?_
      refine r_callVV C hl.1 hG [.int a1, .int a2, .int 100] [] (m4_dim E l 22 rfl a1 a2 100 g1) LX8_207 rfl KC4 rfl (rm_ok (by decide) (by decide)) (Nat.le_of_ble_eq_true rfl) ⟨Nat.le_of_ble_eq_true rfl, Nat.le_of_ble_eq_true rfl⟩ rfl dX8_dustMirror_36 h (fun g4 H locs hG h => ?_)
      refine lv_aload_n hx hb dX8_dustMirror_39 rfl (lv_at hl 0 rfl) ?_
      refine r_getA (j := 21) C hG FX8_58 rfl rfl dX8_dustMirror_40 ?_
      refine r_getR (d := 1) C hG FX8_112 rfl rfl (by decide) dX8_dustMirror_43 ?_
      refine lv_sipush (v := 129) hx hb dX8_dustMirror_46 (by decide) ?_
      refine lv_iload_n hx hb dX8_dustMirror_49 rfl (lv_at hl 1 rfl) ?_
      refine r_callVI C hl.1 hG [.int 129, .int a1] [] (m4_valueOf E l 22 rfl 129 a1 g4) LX8_145 rfl KC4 rfl (rm_ok (by decide) (by decide)) (Nat.le_of_ble_eq_true rfl) ⟨Nat.le_of_ble_eq_true rfl, Nat.le_of_ble_eq_true rfl⟩ rfl dX8_dustMirror_50 h (fun u5 H locs hG h => ?_)
      exact r_iretX C hG hr rfl dX8_dustMirror_53 ⟨Nat.le_of_ble_eq_true rfl, Nat.le_of_ble_eq_true rfl⟩ h
    · have h := (if_inv h).2 c3
      exact j15 g1 _ _ _ hG (lv_sub hl [] rfl) h
def k8_moveMirror_23  (g : G) : Option (XR) :=
      some (3, 0, g)
def k8_moveMirror  (a1 : Int32) (a2 : Int32) (g : G) : Option (XR) :=
  xb (k8_checkMirror a1 g) fun g1 =>
  if a2 < 0 then
    k8_moveMirror_23 g1
  else
    if a2 < (g1 22 7) then
      (k4_findPlace 22 a1 g1).bind fun u4 =>
      (k4_move 22 a1 a2 g1).bind fun g5 =>
      some (0, u4, g5)
    else
      k8_moveMirror_23 g1
set_option maxRecDepth 100000 in
set_option maxHeartbeats 4000000 in
theorem m8_moveMirror (E : EV) (l : Launch) (hst : l.stackTraces = false) (a1 : Int32) (a2 : Int32) (g : G) : ∀ u, k8_moveMirror a1 a2 g = some u → MXr E l yX8_moveMirror cX8_moveMirror 4 (some .int) 7 3 18 [.ref (E.ad 0), .int a1, .int a2] g u := by
  intro u h
  refine MX.of (by decide +kernel) (Nat.le_of_ble_eq_true rfl) ?_
  intro p e s m args below meth c C ht hr ls hl hG
  have C : Cx p s m args meth c cX8_moveMirror 4 RX8 E := C
  have hx := C.1
  have hb := C.2.1
  have hl : lv_has ls 4 [(0, .ref (E.ad 0)), (1, .int a1), (2, .int a2)] := hl
  unfold k8_moveMirror at h
  have j23 : ∀ (g : G) (H : Heap) (locs : List Loc) (ls : Array Slot), Gd E s H locs g [] → lv_has ls 4 [] → k8_moveMirror_23 g = some u → W p l e (rmD 7 3 18) s m args below meth c H locs 1 6 (vx_MQ below (QXr E s.heap.size u) (XCx E s.heap.size u) args s 3 18 (AA E s.heap.size)) (F0 m 23 ls []) := by
    intro g H locs ls hG hl h
    unfold k8_moveMirror_23 at h
    exact r_throwS (ek := 3) C hl.1 hG hst ht 30 XWX8_155_159 (by decide) ⟨rfl, rfl⟩ (by decide) dX8_moveMirror_23 dX8_moveMirror_26 dX8_moveMirror_27 dX8_moveMirror_29 dX8_moveMirror_32 ⟨Nat.le_of_ble_eq_true rfl, Nat.le_of_ble_eq_true rfl, Nat.le_of_ble_eq_true rfl, Nat.le_of_ble_eq_true rfl⟩ ⟨Nat.le_of_ble_eq_true rfl, Nat.le_of_ble_eq_true rfl⟩ h
  refine lv_aload_n hx hb dX8_moveMirror_0 rfl (lv_at hl 0 rfl) ?_
  refine lv_iload_n hx hb dX8_moveMirror_1 rfl (lv_at hl 1 rfl) ?_
  refine r_callVXV C hl.1 hG ht [.int a1] [] (m8_checkMirror E l hst a1 g) LX8_142 (mTBi 466 (by decide +kernel) rfl) rfl KC8 rfl (rm_ok (by decide) (by decide)) (Nat.le_of_ble_eq_true rfl) ⟨Nat.le_of_ble_eq_true rfl, Nat.le_of_ble_eq_true rfl⟩ ⟨Nat.le_of_ble_eq_true rfl, Nat.le_of_ble_eq_true rfl⟩ rfl dX8_moveMirror_2 h (fun H locs g1 hG h => ?_)
  refine lv_iload_n hx hb dX8_moveMirror_5 rfl (lv_at hl 2 rfl) ?_
  refine lv_if_lt (tgt := 23) hx hb dX8_moveMirror_6 (by decide) (fun c2 => ?_) (fun c2 => ?_)
  · have h := (if_inv h).1 c2
    exact j23 g1 _ _ _ hG (lv_sub hl [] rfl) h
  · have h := (if_inv h).2 c2
    refine lv_iload_n hx hb dX8_moveMirror_9 rfl (lv_at hl 2 rfl) ?_
    refine lv_aload_n hx hb dX8_moveMirror_10 rfl (lv_at hl 0 rfl) ?_
    refine r_getA (j := 21) C hG FX8_58 rfl rfl dX8_moveMirror_11 ?_
    refine r_getR (d := 1) C hG FX8_112 rfl rfl (by decide) dX8_moveMirror_14 ?_
    refine r_getI C hG FX8_116 rfl rfl dX8_moveMirror_17 ?_
    refine lv_icmp_lt (tgt := 33) hx hb dX8_moveMirror_20 (by decide) (fun c3 => ?_) (fun c3 => ?_)
    · have h := (if_inv h).1 c3
      refine lv_aload_n hx hb dX8_moveMirror_33 rfl (lv_at hl 0 rfl) ?_
      refine r_getA (j := 21) C hG FX8_58 rfl rfl dX8_moveMirror_34 ?_
      refine r_getR (d := 1) C hG FX8_112 rfl rfl (by decide) dX8_moveMirror_37 ?_
      refine lv_iload_n hx hb dX8_moveMirror_40 rfl (lv_at hl 1 rfl) ?_
      refine r_callVIP C hl.1 hG [.int a1] [] (m4_findPlace E l 22 rfl a1 g1) LX8_149 rfl KC4 rfl (rm_ok (by decide) (by decide)) (Nat.le_of_ble_eq_true rfl) ⟨Nat.le_of_ble_eq_true rfl, Nat.le_of_ble_eq_true rfl⟩ rfl dX8_moveMirror_41 h (fun u4 H locs hG h => ?_)
      refine lv_istore_n (lv' := [(3, .int u4), (0, .ref (E.ad 0)), (1, .int a1), (2, .int a2)]) hx hb dX8_moveMirror_44 rfl hl (by decide) rfl (fun ls hl => ?_)
      refine lv_aload_n hx hb dX8_moveMirror_45 rfl (lv_at hl 1 rfl) ?_
      refine r_getA (j := 21) C hG FX8_58 rfl rfl dX8_moveMirror_46 ?_
      refine r_getR (d := 1) C hG FX8_112 rfl rfl (by decide) dX8_moveMirror_49 ?_
      refine lv_iload_n hx hb dX8_moveMirror_52 rfl (lv_at hl 2 rfl) ?_
      refine lv_iload_n hx hb dX8_moveMirror_53 rfl (lv_at hl 3 rfl) ?_
      refine r_callVV C hl.1 hG [.int a1, .int a2] [] (m4_move E l 22 rfl a1 a2 g1) LX8_211 rfl KC4 rfl (rm_ok (by decide) (by decide)) (Nat.le_of_ble_eq_true rfl) ⟨Nat.le_of_ble_eq_true rfl, Nat.le_of_ble_eq_true rfl⟩ rfl dX8_moveMirror_54 h (fun g5 H locs hG h => ?_)
      refine lv_iload_n hx hb dX8_moveMirror_57 rfl (lv_at hl 0 rfl) ?_
      exact r_iretX C hG hr rfl dX8_moveMirror_58 ⟨Nat.le_of_ble_eq_true rfl, Nat.le_of_ble_eq_true rfl⟩ h
    · have h := (if_inv h).2 c3
      exact j23 g1 _ _ _ hG (lv_sub hl [] rfl) h
def k8_checkMinutes_11  (g : G) : Option (XR) :=
      some (2, 0, g)
def k8_checkMinutes  (a0 : Int32) (g : G) : Option (XR) :=
  if a0 < 1 then
    k8_checkMinutes_11 g
  else
    if a0 ≤ 100 then
      some (0, 0, g)
    else
      k8_checkMinutes_11 g
set_option maxRecDepth 100000 in
set_option maxHeartbeats 4000000 in
theorem m8_checkMinutes (E : EV) (l : Launch) (hst : l.stackTraces = false) (a0 : Int32) (g : G) : ∀ u, k8_checkMinutes a0 g = some u → MXv E l yX8_checkMinutes cX8_checkMinutes 1 none 6 1 6 [.int a0] g u := by
  intro u h
  refine MX.of (by decide +kernel) (Nat.le_of_ble_eq_true rfl) ?_
  intro p e s m args below meth c C ht hr ls hl hG
  have C : Cx p s m args meth c cX8_checkMinutes 1 RX8 E := C
  have hx := C.1
  have hb := C.2.1
  have hl : lv_has ls 1 [(0, .int a0)] := hl
  unfold k8_checkMinutes at h
  have j11 : ∀ (g : G) (H : Heap) (locs : List Loc) (ls : Array Slot), Gd E s H locs g [] → lv_has ls 1 [] → k8_checkMinutes_11 g = some u → W p l e (rmD 6 1 6) s m args below meth c H locs 0 0 (vx_MQ below (QXv E s.heap.size u) (XCx E s.heap.size u) args s 1 6 (AA E s.heap.size)) (F0 m 11 ls []) := by
    intro g H locs ls hG hl h
    unfold k8_checkMinutes_11 at h
    exact r_throwSW (ek := 2) C hl.1 hG hst ht 35 XWX8_83_87 (by decide) ⟨rfl, rfl⟩ (by decide) dX8_checkMinutes_11 dX8_checkMinutes_14 dX8_checkMinutes_15 dX8_checkMinutes_18 dX8_checkMinutes_21 ⟨Nat.le_of_ble_eq_true rfl, Nat.le_of_ble_eq_true rfl, Nat.le_of_ble_eq_true rfl, Nat.le_of_ble_eq_true rfl⟩ ⟨Nat.le_of_ble_eq_true rfl, Nat.le_of_ble_eq_true rfl⟩ h
  refine lv_iload_n hx hb dX8_checkMinutes_0 rfl (lv_at hl 0 rfl) ?_
  refine lv_iconst (v := 1) hx hb dX8_checkMinutes_1 (by decide) ?_
  refine lv_icmp_lt (tgt := 11) hx hb dX8_checkMinutes_2 (by decide) (fun c1 => ?_) (fun c1 => ?_)
  · have h := (if_inv h).1 c1
    exact j11 g _ _ _ hG (lv_sub hl [] rfl) h
  · have h := (if_inv h).2 c1
    refine lv_iload_n hx hb dX8_checkMinutes_5 rfl (lv_at hl 0 rfl) ?_
    refine lv_bipush (v := 100) hx hb dX8_checkMinutes_6 (by decide) ?_
    refine lv_icmp_le (tgt := 22) hx hb dX8_checkMinutes_8 (by decide) (fun c2 => ?_) (fun c2 => ?_)
    · have h := (if_inv h).1 c2
      exact r_vretX C hG hr dX8_checkMinutes_22 ⟨Nat.le_of_ble_eq_true rfl, Nat.le_of_ble_eq_true rfl⟩ h
    · have h := (if_inv h).2 c2
      exact j11 g _ _ _ hG (lv_sub hl [] rfl) h
def k8_passMinutes  (a1 : Int32) (g : G) : Option (XR) :=
  xb (k8_checkMinutes a1 g) fun g1 =>
  bd (g1 30 4) fun x2 =>
  (k7_pass 21 a1 g1).bind fun g3 =>
  some (0, ((g3 30 4) - x2), g3)
set_option maxRecDepth 100000 in
set_option maxHeartbeats 4000000 in
theorem m8_passMinutes (E : EV) (l : Launch) (hst : l.stackTraces = false) (a1 : Int32) (g : G) : ∀ u, k8_passMinutes a1 g = some u → MXr E l yX8_passMinutes cX8_passMinutes 3 (some .int) 7 3 18 [.ref (E.ad 0), .int a1] g u := by
  intro u h
  refine MX.of (by decide +kernel) (Nat.le_of_ble_eq_true rfl) ?_
  intro p e s m args below meth c C ht hr ls hl hG
  have C : Cx p s m args meth c cX8_passMinutes 3 RX8 E := C
  have hx := C.1
  have hb := C.2.1
  have hl : lv_has ls 3 [(0, .ref (E.ad 0)), (1, .int a1)] := hl
  unfold k8_passMinutes at h
  refine lv_iload_n hx hb dX8_passMinutes_0 rfl (lv_at hl 1 rfl) ?_
  refine r_callSXV C hl.1 hG ht [.int a1] [] (m8_checkMinutes E l hst a1 g) LX8_214 (mTBi 604 (by decide +kernel) rfl) rfl (rm_ok (by decide) (by decide)) (Nat.le_of_ble_eq_true rfl) ⟨Nat.le_of_ble_eq_true rfl, Nat.le_of_ble_eq_true rfl⟩ ⟨Nat.le_of_ble_eq_true rfl, Nat.le_of_ble_eq_true rfl⟩ rfl dX8_passMinutes_1 h (fun H locs g1 hG h => ?_)
  refine lv_aload_n hx hb dX8_passMinutes_4 rfl (lv_at hl 0 rfl) ?_
  refine r_getA (j := 21) C hG FX8_58 rfl rfl dX8_passMinutes_5 ?_
  refine r_getR (d := 9) C hG FX8_163 rfl rfl (by decide) dX8_passMinutes_8 ?_
  refine r_getI C hG FX8_172 rfl rfl dX8_passMinutes_11 ?_
  refine r_nm h (fun x2 h => ?_)
  refine lv_istore_n (lv' := [(2, .int x2), (0, .ref (E.ad 0)), (1, .int a1)]) hx hb dX8_passMinutes_14 rfl hl (by decide) rfl (fun ls hl => ?_)
  refine lv_aload_n hx hb dX8_passMinutes_15 rfl (lv_at hl 1 rfl) ?_
  refine r_getA (j := 21) C hG FX8_58 rfl rfl dX8_passMinutes_16 ?_
  refine lv_iload_n hx hb dX8_passMinutes_19 rfl (lv_at hl 2 rfl) ?_
  refine r_callVV C hl.1 hG [.int a1] [] (m7_pass E l 21 rfl a1 g1) LX8_217 rfl KC7 rfl (rm_ok (by decide) (by decide)) (Nat.le_of_ble_eq_true rfl) ⟨Nat.le_of_ble_eq_true rfl, Nat.le_of_ble_eq_true rfl⟩ rfl dX8_passMinutes_20 h (fun g3 H locs hG h => ?_)
  refine lv_aload_n hx hb dX8_passMinutes_23 rfl (lv_at hl 1 rfl) ?_
  refine r_getA (j := 21) C hG FX8_58 rfl rfl dX8_passMinutes_24 ?_
  refine r_getR (d := 9) C hG FX8_163 rfl rfl (by decide) dX8_passMinutes_27 ?_
  refine r_getI C hG FX8_172 rfl rfl dX8_passMinutes_30 ?_
  refine lv_iload_n hx hb dX8_passMinutes_33 rfl (lv_at hl 0 rfl) ?_
  refine lv_isub hx hb dX8_passMinutes_34 ?_
  exact r_iretX C hG hr rfl dX8_passMinutes_35 ⟨Nat.le_of_ble_eq_true rfl, Nat.le_of_ble_eq_true rfl⟩ h
def k8_lightAfter  (a1 : Int32) (g : G) : Option (XR) :=
  xb (k8_checkMinutes a1 g) fun g1 =>
  (k7_copy 34 21 g1).bind fun g2 =>
  (k7_pass 34 a1 g2).bind fun g3 =>
  (k4_lastLight 35 g3).bind fun u4 =>
  some (0, u4.1, u4.2)
set_option maxRecDepth 100000 in
set_option maxHeartbeats 4000000 in
theorem m8_lightAfter (E : EV) (l : Launch) (hst : l.stackTraces = false) (a1 : Int32) (g : G) : ∀ u, k8_lightAfter a1 g = some u → MXr E l yX8_lightAfter cX8_lightAfter 2 (some .int) 7 3 18 [.ref (E.ad 0), .int a1] g u := by
  intro u h
  refine MX.of (by decide +kernel) (Nat.le_of_ble_eq_true rfl) ?_
  intro p e s m args below meth c C ht hr ls hl hG
  have C : Cx p s m args meth c cX8_lightAfter 2 RX8 E := C
  have hx := C.1
  have hb := C.2.1
  have hl : lv_has ls 2 [(0, .ref (E.ad 0)), (1, .int a1)] := hl
  unfold k8_lightAfter at h
  refine lv_iload_n hx hb dX8_lightAfter_0 rfl (lv_at hl 1 rfl) ?_
  refine r_callSXV C hl.1 hG ht [.int a1] [] (m8_checkMinutes E l hst a1 g) LX8_214 (mTBi 604 (by decide +kernel) rfl) rfl (rm_ok (by decide) (by decide)) (Nat.le_of_ble_eq_true rfl) ⟨Nat.le_of_ble_eq_true rfl, Nat.le_of_ble_eq_true rfl⟩ ⟨Nat.le_of_ble_eq_true rfl, Nat.le_of_ble_eq_true rfl⟩ rfl dX8_lightAfter_1 h (fun H locs g1 hG h => ?_)
  refine lv_aload_n hx hb dX8_lightAfter_4 rfl (lv_at hl 0 rfl) ?_
  refine r_getA (j := 34) C hG FX8_62 rfl rfl dX8_lightAfter_5 ?_
  refine lv_aload_n hx hb dX8_lightAfter_8 rfl (lv_at hl 0 rfl) ?_
  refine r_getA (j := 21) C hG FX8_58 rfl rfl dX8_lightAfter_9 ?_
  refine r_callVV C hl.1 hG [.ref (E.ad 21)] [] (m7_copy E l 34 21 rfl rfl g1) LX8_220 rfl KC7 rfl (rm_ok (by decide) (by decide)) (Nat.le_of_ble_eq_true rfl) ⟨Nat.le_of_ble_eq_true rfl, Nat.le_of_ble_eq_true rfl⟩ rfl dX8_lightAfter_12 h (fun g2 H locs hG h => ?_)
  refine lv_aload_n hx hb dX8_lightAfter_15 rfl (lv_at hl 0 rfl) ?_
  refine r_getA (j := 34) C hG FX8_62 rfl rfl dX8_lightAfter_16 ?_
  refine lv_iload_n hx hb dX8_lightAfter_19 rfl (lv_at hl 1 rfl) ?_
  refine r_callVV C hl.1 hG [.int a1] [] (m7_pass E l 34 rfl a1 g2) LX8_217 rfl KC7 rfl (rm_ok (by decide) (by decide)) (Nat.le_of_ble_eq_true rfl) ⟨Nat.le_of_ble_eq_true rfl, Nat.le_of_ble_eq_true rfl⟩ rfl dX8_lightAfter_20 h (fun g3 H locs hG h => ?_)
  refine lv_aload_n hx hb dX8_lightAfter_23 rfl (lv_at hl 0 rfl) ?_
  refine r_getA (j := 34) C hG FX8_62 rfl rfl dX8_lightAfter_24 ?_
  refine r_getR (d := 1) C hG FX8_112 rfl rfl (by decide) dX8_lightAfter_27 ?_
  refine r_callVI C hl.1 hG [] [] (m4_lastLight E l 35 rfl g3) LX8_127 rfl KC4 rfl (rm_ok (by decide) (by decide)) (Nat.le_of_ble_eq_true rfl) ⟨Nat.le_of_ble_eq_true rfl, Nat.le_of_ble_eq_true rfl⟩ rfl dX8_lightAfter_30 h (fun u4 H locs hG h => ?_)
  exact r_iretX C hG hr rfl dX8_lightAfter_33 ⟨Nat.le_of_ble_eq_true rfl, Nat.le_of_ble_eq_true rfl⟩ h
def k8_minutesUntilDone_33  : Nat → Int32 → Int32 → G → Option (XR)
  | 0, _, _, _ => none
  | f + 1, v2, v3, g =>
        if 300 < v3 then
          some (0, (-1), g)
        else
          (k7_pass 34 1 g).bind fun g2 =>
          if (g2 43 4) < v2 then
            bd (v3 + 1) fun x4 =>
            k8_minutesUntilDone_33 f v2 x4 g2
          else
            some (0, v3, g2)
def k8_minutesUntilDone  (a1 : Int32) (g : G) : Option (XR) :=
  xb (k8_checkJob a1 g) fun g5 =>
  (k7_copy 34 21 g5).bind fun g6 =>
  bd (((g6 30 4) + a1) + 1) fun x7 =>
  k8_minutesUntilDone_33 FU x7 1 g6
set_option maxRecDepth 100000 in
set_option maxHeartbeats 4000000 in
theorem m8_minutesUntilDone (E : EV) (l : Launch) (hst : l.stackTraces = false) (a1 : Int32) (g : G) : ∀ u, k8_minutesUntilDone a1 g = some u → MXr E l yX8_minutesUntilDone cX8_minutesUntilDone 4 (some .int) 7 3 18 [.ref (E.ad 0), .int a1] g u := by
  intro u h
  refine MX.of (by decide +kernel) (Nat.le_of_ble_eq_true rfl) ?_
  intro p e s m args below meth c C ht hr ls hl hG
  have C : Cx p s m args meth c cX8_minutesUntilDone 4 RX8 E := C
  have hx := C.1
  have hb := C.2.1
  have hl : lv_has ls 4 [(0, .ref (E.ad 0)), (1, .int a1)] := hl
  unfold k8_minutesUntilDone at h
  have j33 : ∀ f : Nat, ∀ (v2 : Int32) (v3 : Int32) (g : G) (H : Heap) (locs : List Loc) (ls : Array Slot), Gd E s H locs g [] → lv_has ls 4 [(0, .ref (E.ad 0)), (2, .int v2), (3, .int v3)] → k8_minutesUntilDone_33 f v2 v3 g = some u → W p l e (rmD 7 3 18) s m args below meth c H locs 1 6 (vx_MQ below (QXr E s.heap.size u) (XCx E s.heap.size u) args s 3 18 (AA E s.heap.size)) (F0 m 33 ls []) := by
    intro f
    induction f with
    | zero =>
      intro v2 v3 g H locs ls hG hl h
      unfold k8_minutesUntilDone_33 at h
      cases h
    | succ f ih =>
      intro v2 v3 g H locs ls hG hl h
      unfold k8_minutesUntilDone_33 at h
      refine lv_iload_n hx hb dX8_minutesUntilDone_33 rfl (lv_at hl 2 rfl) ?_
      refine lv_sipush (v := 300) hx hb dX8_minutesUntilDone_34 (by decide) ?_
      refine lv_icmp_gt (tgt := 70) hx hb dX8_minutesUntilDone_37 (by decide) (fun c1 => ?_) (fun c1 => ?_)
      · have h := (if_inv h).1 c1
        refine lv_iconst (v := (-1)) hx hb dX8_minutesUntilDone_70 (by decide) ?_
        exact r_iretX C hG hr rfl dX8_minutesUntilDone_71 ⟨Nat.le_of_ble_eq_true rfl, Nat.le_of_ble_eq_true rfl⟩ h
      · have h := (if_inv h).2 c1
        refine lv_aload_n hx hb dX8_minutesUntilDone_40 rfl (lv_at hl 0 rfl) ?_
        refine r_getA (j := 34) C hG FX8_62 rfl rfl dX8_minutesUntilDone_41 ?_
        refine lv_iconst (v := 1) hx hb dX8_minutesUntilDone_44 (by decide) ?_
        refine r_callVV C hl.1 hG [.int 1] [] (m7_pass E l 34 rfl 1 g) LX8_217 rfl KC7 rfl (rm_ok (by decide) (by decide)) (Nat.le_of_ble_eq_true rfl) ⟨Nat.le_of_ble_eq_true rfl, Nat.le_of_ble_eq_true rfl⟩ rfl dX8_minutesUntilDone_45 h (fun g2 H locs hG h => ?_)
        refine lv_aload_n hx hb dX8_minutesUntilDone_48 rfl (lv_at hl 0 rfl) ?_
        refine r_getA (j := 34) C hG FX8_62 rfl rfl dX8_minutesUntilDone_49 ?_
        refine r_getR (d := 9) C hG FX8_163 rfl rfl (by decide) dX8_minutesUntilDone_52 ?_
        refine r_getI C hG FX8_172 rfl rfl dX8_minutesUntilDone_55 ?_
        refine lv_iload_n hx hb dX8_minutesUntilDone_58 rfl (lv_at hl 1 rfl) ?_
        refine lv_icmp_lt (tgt := 64) hx hb dX8_minutesUntilDone_59 (by decide) (fun c3 => ?_) (fun c3 => ?_)
        · have h := (if_inv h).1 c3
          refine r_iinc (w := 1) (lv' := fun x4 => [(3, .int x4), (0, .ref (E.ad 0)), (2, .int v2)]) C dX8_minutesUntilDone_64 hl (k := 2) rfl (by decide) (by decide) (fun _ => rfl) h (fun x4 ls hl h => ?_)
          refine lv_goto (tgt := 33) hx hb dX8_minutesUntilDone_67 (by decide) ?_
          exact ih v2 x4 g2 _ _ _ hG (lv_sub hl [1, 2, 0] rfl) h
        · have h := (if_inv h).2 c3
          refine lv_iload_n hx hb dX8_minutesUntilDone_62 rfl (lv_at hl 2 rfl) ?_
          exact r_iretX C hG hr rfl dX8_minutesUntilDone_63 ⟨Nat.le_of_ble_eq_true rfl, Nat.le_of_ble_eq_true rfl⟩ h
  refine lv_aload_n hx hb dX8_minutesUntilDone_0 rfl (lv_at hl 0 rfl) ?_
  refine lv_iload_n hx hb dX8_minutesUntilDone_1 rfl (lv_at hl 1 rfl) ?_
  refine r_callVXV C hl.1 hG ht [.int a1] [] (m8_checkJob E l hst a1 g) LX8_175 (mTBi 540 (by decide +kernel) rfl) rfl KC8 rfl (rm_ok (by decide) (by decide)) (Nat.le_of_ble_eq_true rfl) ⟨Nat.le_of_ble_eq_true rfl, Nat.le_of_ble_eq_true rfl⟩ ⟨Nat.le_of_ble_eq_true rfl, Nat.le_of_ble_eq_true rfl⟩ rfl dX8_minutesUntilDone_2 h (fun H locs g5 hG h => ?_)
  refine lv_aload_n hx hb dX8_minutesUntilDone_5 rfl (lv_at hl 0 rfl) ?_
  refine r_getA (j := 34) C hG FX8_62 rfl rfl dX8_minutesUntilDone_6 ?_
  refine lv_aload_n hx hb dX8_minutesUntilDone_9 rfl (lv_at hl 0 rfl) ?_
  refine r_getA (j := 21) C hG FX8_58 rfl rfl dX8_minutesUntilDone_10 ?_
  refine r_callVV C hl.1 hG [.ref (E.ad 21)] [] (m7_copy E l 34 21 rfl rfl g5) LX8_220 rfl KC7 rfl (rm_ok (by decide) (by decide)) (Nat.le_of_ble_eq_true rfl) ⟨Nat.le_of_ble_eq_true rfl, Nat.le_of_ble_eq_true rfl⟩ rfl dX8_minutesUntilDone_13 h (fun g6 H locs hG h => ?_)
  refine lv_aload_n hx hb dX8_minutesUntilDone_16 rfl (lv_at hl 0 rfl) ?_
  refine r_getA (j := 21) C hG FX8_58 rfl rfl dX8_minutesUntilDone_17 ?_
  refine r_getR (d := 9) C hG FX8_163 rfl rfl (by decide) dX8_minutesUntilDone_20 ?_
  refine r_getI C hG FX8_172 rfl rfl dX8_minutesUntilDone_23 ?_
  refine lv_iload_n hx hb dX8_minutesUntilDone_26 rfl (lv_at hl 1 rfl) ?_
  refine lv_iadd hx hb dX8_minutesUntilDone_27 ?_
  refine lv_iconst (v := 1) hx hb dX8_minutesUntilDone_28 (by decide) ?_
  refine lv_iadd hx hb dX8_minutesUntilDone_29 ?_
  refine r_nm h (fun x7 h => ?_)
  refine lv_istore_n (lv' := [(2, .int x7), (0, .ref (E.ad 0)), (1, .int a1)]) hx hb dX8_minutesUntilDone_30 rfl hl (by decide) rfl (fun ls hl => ?_)
  refine lv_iconst (v := 1) hx hb dX8_minutesUntilDone_31 (by decide) ?_
  refine lv_istore_n (lv' := [(3, .int 1), (2, .int x7), (0, .ref (E.ad 0)), (1, .int a1)]) hx hb dX8_minutesUntilDone_32 rfl hl (by decide) rfl (fun ls hl => ?_)
  exact j33 FU x7 1 g6 _ _ _ hG (lv_sub hl [2, 1, 0] rfl) h
def k8_bestOffset_62  (K34 : Int32 → Int32 → Int32 → Int32 → G → Option (XR)) (v1 : Int32) (v2 : Int32) (v3 : Int32) (v4 : Int32) (g : G) : Option (XR) :=
      (k8_lightIfTurned v1 (-v4) g).bind fun u1 =>
      bd u1.1 fun x2 =>
      if x2 ≤ v3 then
        bd (v4 + 1) fun x4 =>
        K34 v1 v2 v3 x4 u1.2
      else
        bd (-v4) fun x5 =>
        bd (v4 + 1) fun x6 =>
        K34 v1 x5 x2 x6 u1.2
def k8_bestOffset_34  : Nat → Int32 → Int32 → Int32 → Int32 → G → Option (XR)
  | 0, _, _, _, _, _ => none
  | f + 1, v1, v2, v3, v4, g =>
        if 90 < v4 then
          some (0, v2, g)
        else
          (k8_lightIfTurned v1 v4 g).bind fun u8 =>
          bd u8.1 fun x9 =>
          if x9 ≤ v3 then
            k8_bestOffset_62 (k8_bestOffset_34 f) v1 v2 v3 v4 u8.2
          else
            k8_bestOffset_62 (k8_bestOffset_34 f) v1 v4 x9 v4 u8.2
def k8_bestOffset  (a1 : Int32) (g : G) : Option (XR) :=
  xb (k8_checkMirror a1 g) fun g11 =>
  (k4_copy 35 22 g11).bind fun g12 =>
  (k8_lightIfTurned a1 0 g12).bind fun u13 =>
  bd u13.1 fun x14 =>
  k8_bestOffset_34 FU a1 0 x14 1 u13.2
set_option maxRecDepth 100000 in
set_option maxHeartbeats 4000000 in
theorem m8_bestOffset (E : EV) (l : Launch) (hst : l.stackTraces = false) (a1 : Int32) (g : G) : ∀ u, k8_bestOffset a1 g = some u → MXr E l yX8_bestOffset cX8_bestOffset 7 (some .int) 7 3 18 [.ref (E.ad 0), .int a1] g u := by
  intro u h
  refine MX.of (by decide +kernel) (Nat.le_of_ble_eq_true rfl) ?_
  intro p e s m args below meth c C ht hr ls hl hG
  have C : Cx p s m args meth c cX8_bestOffset 7 RX8 E := C
  have hx := C.1
  have hb := C.2.1
  have hl : lv_has ls 7 [(0, .ref (E.ad 0)), (1, .int a1)] := hl
  unfold k8_bestOffset at h
  have j62 : ∀ (K34 : Int32 → Int32 → Int32 → Int32 → G → Option (XR)), (∀ (v1 : Int32) (v2 : Int32) (v3 : Int32) (v4 : Int32) (g : G) (H : Heap) (locs : List Loc) (ls : Array Slot), Gd E s H locs g [] → lv_has ls 7 [(0, .ref (E.ad 0)), (1, .int v1), (2, .int v2), (3, .int v3), (4, .int v4)] → K34 v1 v2 v3 v4 g = some u → W p l e (rmD 7 3 18) s m args below meth c H locs 1 6 (vx_MQ below (QXr E s.heap.size u) (XCx E s.heap.size u) args s 3 18 (AA E s.heap.size)) (F0 m 34 ls [])) → ∀ (v1 : Int32) (v2 : Int32) (v3 : Int32) (v4 : Int32) (g : G) (H : Heap) (locs : List Loc) (ls : Array Slot), Gd E s H locs g [] → lv_has ls 7 [(0, .ref (E.ad 0)), (1, .int v1), (2, .int v2), (3, .int v3), (4, .int v4)] → k8_bestOffset_62 K34 v1 v2 v3 v4 g = some u → W p l e (rmD 7 3 18) s m args below meth c H locs 1 6 (vx_MQ below (QXr E s.heap.size u) (XCx E s.heap.size u) args s 3 18 (AA E s.heap.size)) (F0 m 62 ls []) := by
    intro K34 hK34 v1 v2 v3 v4 g H locs ls hG hl h
    unfold k8_bestOffset_62 at h
    refine lv_aload_n hx hb dX8_bestOffset_62 rfl (lv_at hl 0 rfl) ?_
    refine lv_iload_n hx hb dX8_bestOffset_63 rfl (lv_at hl 1 rfl) ?_
    refine lv_iload hx hb dX8_bestOffset_64 (lv_at hl 4 rfl) ?_
    refine lv_ineg hx hb dX8_bestOffset_66 ?_
    refine r_callVI C hl.1 hG [.int v1, .int (-v4)] [] (m8_lightIfTurned E l v1 (-v4) g) LX8_230 rfl KC8 rfl (rm_ok (by decide) (by decide)) (Nat.le_of_ble_eq_true rfl) ⟨Nat.le_of_ble_eq_true rfl, Nat.le_of_ble_eq_true rfl⟩ rfl dX8_bestOffset_67 h (fun u1 H locs hG h => ?_)
    refine r_nm h (fun x2 h => ?_)
    refine lv_istore (lv' := [(6, .int x2), (0, .ref (E.ad 0)), (1, .int v1), (2, .int v2), (3, .int v3), (4, .int v4)]) hx hb dX8_bestOffset_70 hl (by decide) rfl (fun ls hl => ?_)
    refine lv_iload hx hb dX8_bestOffset_72 (lv_at hl 0 rfl) ?_
    refine lv_iload_n hx hb dX8_bestOffset_74 rfl (lv_at hl 4 rfl) ?_
    refine lv_icmp_le (tgt := 85) hx hb dX8_bestOffset_75 (by decide) (fun c3 => ?_) (fun c3 => ?_)
    · have h := (if_inv h).1 c3
      refine r_iinc (w := 1) (lv' := fun x4 => [(4, .int x4), (6, .int x2), (0, .ref (E.ad 0)), (1, .int v1), (2, .int v2), (3, .int v3)]) C dX8_bestOffset_85 hl (k := 5) rfl (by decide) (by decide) (fun _ => rfl) h (fun x4 ls hl h => ?_)
      refine lv_goto (tgt := 34) hx hb dX8_bestOffset_88 (by decide) ?_
      exact hK34 v1 v2 v3 x4 u1.2 _ _ _ hG (lv_sub hl [2, 3, 4, 5, 0] rfl) h
    · have h := (if_inv h).2 c3
      refine lv_iload hx hb dX8_bestOffset_78 (lv_at hl 0 rfl) ?_
      refine lv_istore_n (lv' := [(3, .int x2), (6, .int x2), (0, .ref (E.ad 0)), (1, .int v1), (2, .int v2), (4, .int v4)]) hx hb dX8_bestOffset_80 rfl hl (by decide) rfl (fun ls hl => ?_)
      refine lv_iload hx hb dX8_bestOffset_81 (lv_at hl 5 rfl) ?_
      refine lv_ineg hx hb dX8_bestOffset_83 ?_
      refine r_nm h (fun x5 h => ?_)
      refine lv_istore_n (lv' := [(2, .int x5), (3, .int x2), (6, .int x2), (0, .ref (E.ad 0)), (1, .int v1), (4, .int v4)]) hx hb dX8_bestOffset_84 rfl hl (by decide) rfl (fun ls hl => ?_)
      refine r_iinc (w := 1) (lv' := fun x6 => [(4, .int x6), (2, .int x5), (3, .int x2), (6, .int x2), (0, .ref (E.ad 0)), (1, .int v1)]) C dX8_bestOffset_85 hl (k := 5) rfl (by decide) (by decide) (fun _ => rfl) h (fun x6 ls hl h => ?_)
      refine lv_goto (tgt := 34) hx hb dX8_bestOffset_88 (by decide) ?_
      exact hK34 v1 x5 x2 x6 u1.2 _ _ _ hG (lv_sub hl [4, 5, 1, 2, 0] rfl) h
  have j34 : ∀ f : Nat, ∀ (v1 : Int32) (v2 : Int32) (v3 : Int32) (v4 : Int32) (g : G) (H : Heap) (locs : List Loc) (ls : Array Slot), Gd E s H locs g [] → lv_has ls 7 [(0, .ref (E.ad 0)), (1, .int v1), (2, .int v2), (3, .int v3), (4, .int v4)] → k8_bestOffset_34 f v1 v2 v3 v4 g = some u → W p l e (rmD 7 3 18) s m args below meth c H locs 1 6 (vx_MQ below (QXr E s.heap.size u) (XCx E s.heap.size u) args s 3 18 (AA E s.heap.size)) (F0 m 34 ls []) := by
    intro f
    induction f with
    | zero =>
      intro v1 v2 v3 v4 g H locs ls hG hl h
      unfold k8_bestOffset_34 at h
      cases h
    | succ f ih =>
      intro v1 v2 v3 v4 g H locs ls hG hl h
      unfold k8_bestOffset_34 at h
      refine lv_iload hx hb dX8_bestOffset_34 (lv_at hl 4 rfl) ?_
      refine lv_bipush (v := 90) hx hb dX8_bestOffset_36 (by decide) ?_
      refine lv_icmp_gt (tgt := 91) hx hb dX8_bestOffset_38 (by decide) (fun c7 => ?_) (fun c7 => ?_)
      · have h := (if_inv h).1 c7
        refine lv_iload_n hx hb dX8_bestOffset_91 rfl (lv_at hl 2 rfl) ?_
        exact r_iretX C hG hr rfl dX8_bestOffset_92 ⟨Nat.le_of_ble_eq_true rfl, Nat.le_of_ble_eq_true rfl⟩ h
      · have h := (if_inv h).2 c7
        refine lv_aload_n hx hb dX8_bestOffset_41 rfl (lv_at hl 0 rfl) ?_
        refine lv_iload_n hx hb dX8_bestOffset_42 rfl (lv_at hl 1 rfl) ?_
        refine lv_iload hx hb dX8_bestOffset_43 (lv_at hl 4 rfl) ?_
        refine r_callVI C hl.1 hG [.int v1, .int v4] [] (m8_lightIfTurned E l v1 v4 g) LX8_230 rfl KC8 rfl (rm_ok (by decide) (by decide)) (Nat.le_of_ble_eq_true rfl) ⟨Nat.le_of_ble_eq_true rfl, Nat.le_of_ble_eq_true rfl⟩ rfl dX8_bestOffset_45 h (fun u8 H locs hG h => ?_)
        refine r_nm h (fun x9 h => ?_)
        refine lv_istore (lv' := [(5, .int x9), (0, .ref (E.ad 0)), (1, .int v1), (2, .int v2), (3, .int v3), (4, .int v4)]) hx hb dX8_bestOffset_48 hl (by decide) rfl (fun ls hl => ?_)
        refine lv_iload hx hb dX8_bestOffset_50 (lv_at hl 0 rfl) ?_
        refine lv_iload_n hx hb dX8_bestOffset_52 rfl (lv_at hl 4 rfl) ?_
        refine lv_icmp_le (tgt := 62) hx hb dX8_bestOffset_53 (by decide) (fun c10 => ?_) (fun c10 => ?_)
        · have h := (if_inv h).1 c10
          exact j62 (k8_bestOffset_34 f) ih v1 v2 v3 v4 u8.2 _ _ _ hG (lv_sub hl [1, 2, 3, 4, 5] rfl) h
        · have h := (if_inv h).2 c10
          refine lv_iload hx hb dX8_bestOffset_56 (lv_at hl 0 rfl) ?_
          refine lv_istore_n (lv' := [(3, .int x9), (5, .int x9), (0, .ref (E.ad 0)), (1, .int v1), (2, .int v2), (4, .int v4)]) hx hb dX8_bestOffset_58 rfl hl (by decide) rfl (fun ls hl => ?_)
          refine lv_iload hx hb dX8_bestOffset_59 (lv_at hl 5 rfl) ?_
          refine lv_istore_n (lv' := [(2, .int v4), (3, .int x9), (5, .int x9), (0, .ref (E.ad 0)), (1, .int v1), (4, .int v4)]) hx hb dX8_bestOffset_61 rfl hl (by decide) rfl (fun ls hl => ?_)
          exact j62 (k8_bestOffset_34 f) ih v1 v4 x9 v4 u8.2 _ _ _ hG (lv_sub hl [3, 4, 0, 1, 5] rfl) h
  refine lv_aload_n hx hb dX8_bestOffset_0 rfl (lv_at hl 0 rfl) ?_
  refine lv_iload_n hx hb dX8_bestOffset_1 rfl (lv_at hl 1 rfl) ?_
  refine r_callVXV C hl.1 hG ht [.int a1] [] (m8_checkMirror E l hst a1 g) LX8_142 (mTBi 466 (by decide +kernel) rfl) rfl KC8 rfl (rm_ok (by decide) (by decide)) (Nat.le_of_ble_eq_true rfl) ⟨Nat.le_of_ble_eq_true rfl, Nat.le_of_ble_eq_true rfl⟩ ⟨Nat.le_of_ble_eq_true rfl, Nat.le_of_ble_eq_true rfl⟩ rfl dX8_bestOffset_2 h (fun H locs g11 hG h => ?_)
  refine lv_aload_n hx hb dX8_bestOffset_5 rfl (lv_at hl 0 rfl) ?_
  refine r_getA (j := 34) C hG FX8_62 rfl rfl dX8_bestOffset_6 ?_
  refine r_getR (d := 1) C hG FX8_112 rfl rfl (by decide) dX8_bestOffset_9 ?_
  refine lv_aload_n hx hb dX8_bestOffset_12 rfl (lv_at hl 0 rfl) ?_
  refine r_getA (j := 21) C hG FX8_58 rfl rfl dX8_bestOffset_13 ?_
  refine r_getR (d := 1) C hG FX8_112 rfl rfl (by decide) dX8_bestOffset_16 ?_
  refine r_callVV C hl.1 hG [.ref (E.ad 22)] [] (m4_copy E l 35 22 rfl rfl g11) LX8_224 rfl KC4 rfl (rm_ok (by decide) (by decide)) (Nat.le_of_ble_eq_true rfl) ⟨Nat.le_of_ble_eq_true rfl, Nat.le_of_ble_eq_true rfl⟩ rfl dX8_bestOffset_19 h (fun g12 H locs hG h => ?_)
  refine lv_iconst (v := 0) hx hb dX8_bestOffset_22 (by decide) ?_
  refine lv_istore_n (lv' := [(2, .int 0), (0, .ref (E.ad 0)), (1, .int a1)]) hx hb dX8_bestOffset_23 rfl hl (by decide) rfl (fun ls hl => ?_)
  refine lv_aload_n hx hb dX8_bestOffset_24 rfl (lv_at hl 1 rfl) ?_
  refine lv_iload_n hx hb dX8_bestOffset_25 rfl (lv_at hl 2 rfl) ?_
  refine lv_iconst (v := 0) hx hb dX8_bestOffset_26 (by decide) ?_
  refine r_callVI C hl.1 hG [.int a1, .int 0] [] (m8_lightIfTurned E l a1 0 g12) LX8_230 rfl KC8 rfl (rm_ok (by decide) (by decide)) (Nat.le_of_ble_eq_true rfl) ⟨Nat.le_of_ble_eq_true rfl, Nat.le_of_ble_eq_true rfl⟩ rfl dX8_bestOffset_27 h (fun u13 H locs hG h => ?_)
  refine r_nm h (fun x14 h => ?_)
  refine lv_istore_n (lv' := [(3, .int x14), (2, .int 0), (0, .ref (E.ad 0)), (1, .int a1)]) hx hb dX8_bestOffset_30 rfl hl (by decide) rfl (fun ls hl => ?_)
  refine lv_iconst (v := 1) hx hb dX8_bestOffset_31 (by decide) ?_
  refine lv_istore (lv' := [(4, .int 1), (3, .int x14), (2, .int 0), (0, .ref (E.ad 0)), (1, .int a1)]) hx hb dX8_bestOffset_32 hl (by decide) rfl (fun ls hl => ?_)
  exact j34 FU a1 0 x14 1 u13.2 _ _ _ hG (lv_sub hl [3, 4, 2, 1, 0] rfl) h
