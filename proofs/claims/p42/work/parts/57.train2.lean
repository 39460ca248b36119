def k8_teach_54  (v1 : Int32) (v2 : Int32) (t0 : Int32) (g : G) : Option (Int32 × G) :=
      bd (up g 0 8 t0) fun g1 =>
      bd (up g1 1 1 0) fun g2 =>
      if v2 < 0 then
        (k2_takeOver 16 8 g2).bind fun g4 =>
        (k7_begin 21 g4).bind fun g5 =>
        some (0, g5)
      else
        some (v1, g2)
def k8_teach_37  (v1 : Int32) (v2 : Int32) (g : G) : Option (Int32 × G) :=
      if 0 ≤ v2 then
        (k6_positionOf v2 g).bind fun u7 =>
        k8_teach_54 v1 v2 u7 g
      else
        k8_teach_54 v1 v2 (-1) g
def k8_teach  (g : G) : Option (Int32 × G) :=
  (k6_readTape g).bind fun g8 =>
  (k0_firstMisfit g8).bind fun u9 =>
  bd u9.1 fun x10 =>
  if 0 ≤ x10 then
    k8_teach_37 1 x10 u9.2
  else
    (k1_firstMistake u9.2).bind fun u12 =>
    bd u12.1 fun x13 =>
    bd (u12.2 14 4) fun x14 =>
    k8_teach_37 x14 x13 u12.2
set_option maxRecDepth 100000 in
set_option maxHeartbeats 4000000 in
theorem m8_teach (E : EV) (l : Launch) (g : G) : ∀ u, k8_teach g = some u → MI E l yX8_teach cX8_teach 3 (some .int) 106 0 0 [.ref (E.ad 0)] g u := by
  intro u h
  refine MG.of (by decide +kernel) (Nat.le_of_ble_eq_true rfl) ?_
  intro p e s m args below meth c C hr hnm ls hl hG
  have C : Cx p s m args meth c cX8_teach 3 RX8 E := C
  have hx := C.1
  have hb := C.2.1
  have hl : lv_has ls 3 [(0, .ref (E.ad 0))] := hl
  unfold k8_teach at h
  have j54 : ∀ (v1 : Int32) (v2 : Int32) (t0 : Int32) (g : G) (H : Heap) (locs : List Loc) (ls : Array Slot), Gd E s H locs g [] → lv_has ls 3 [(0, .ref (E.ad 0)), (1, .int v1), (2, .int v2)] → k8_teach_54 v1 v2 t0 g = some u → W p l e (rmD 106 0 0) s m args below meth c H locs 0 0 (MQ below (QI E s.heap.size u.1 u.2) args s 0 0 (AA E s.heap.size)) (F0 m 54 ls [.int t0, .ref (E.ad 0)]) := by
    intro v1 v2 t0 g H locs ls hG hl h
    unfold k8_teach_54 at h
    refine r_putI C hG FX8_65 rfl rfl dX8_teach_54 h (fun H locs g1 hG h => ?_)
    refine lv_aload_n hx hb dX8_teach_57 rfl (lv_at hl 0 rfl) ?_
    refine r_getA (j := 1) C hG FX8_10 rfl rfl dX8_teach_58 ?_
    refine lv_iconst (v := 0) hx hb dX8_teach_61 (by decide) ?_
    refine r_putI C hG FX8_69 rfl rfl dX8_teach_62 h (fun H locs g2 hG h => ?_)
    refine lv_iload_n hx hb dX8_teach_65 rfl (lv_at hl 2 rfl) ?_
    refine lv_if_lt (tgt := 71) hx hb dX8_teach_66 (by decide) (fun c3 => ?_) (fun c3 => ?_)
    · have h := (if_inv h).1 c3
      refine lv_aload_n hx hb dX8_teach_71 rfl (lv_at hl 0 rfl) ?_
      refine r_getA (j := 16) C hG FX8_50 rfl rfl dX8_teach_72 ?_
      refine lv_aload_n hx hb dX8_teach_75 rfl (lv_at hl 0 rfl) ?_
      refine r_getA (j := 8) C hG FX8_28 rfl rfl dX8_teach_76 ?_
      refine lv_aload_n hx hb dX8_teach_79 rfl (lv_at hl 0 rfl) ?_
      refine r_getA (j := 3) C hG FX8_21 rfl rfl dX8_teach_80 ?_
      refine r_callVV C hl.1 hG [.ref (E.ad 8), .ref (E.ad 3)] [] (m2_takeOver E l 16 8 rfl rfl g2) LX8_105 rfl KC2 rfl (rm_ok (by decide) (by decide)) (Nat.le_of_ble_eq_true rfl) ⟨Nat.le_refl _, Nat.le_refl _⟩ rfl dX8_teach_83 h (fun g4 H locs hG h => ?_)
      refine lv_aload_n hx hb dX8_teach_86 rfl (lv_at hl 0 rfl) ?_
      refine r_getA (j := 21) C hG FX8_58 rfl rfl dX8_teach_87 ?_
      refine r_callVV C hl.1 hG [] [] (m7_begin E l 21 rfl g4) LX8_109 rfl KC7 rfl (rm_ok (by decide) (by decide)) (Nat.le_of_ble_eq_true rfl) ⟨Nat.le_refl _, Nat.le_refl _⟩ rfl dX8_teach_90 h (fun g5 H locs hG h => ?_)
      refine lv_iconst (v := 0) hx hb dX8_teach_93 (by decide) ?_
      exact r_iret C hG hr rfl dX8_teach_94 h
    · have h := (if_inv h).2 c3
      refine lv_iload_n hx hb dX8_teach_69 rfl (lv_at hl 1 rfl) ?_
      exact r_iret C hG hr rfl dX8_teach_70 h
  have j37 : ∀ (v1 : Int32) (v2 : Int32) (g : G) (H : Heap) (locs : List Loc) (ls : Array Slot), Gd E s H locs g [] → lv_has ls 3 [(0, .ref (E.ad 0)), (1, .int v1), (2, .int v2)] → k8_teach_37 v1 v2 g = some u → W p l e (rmD 106 0 0) s m args below meth c H locs 0 0 (MQ below (QI E s.heap.size u.1 u.2) args s 0 0 (AA E s.heap.size)) (F0 m 37 ls []) := by
    intro v1 v2 g H locs ls hG hl h
    unfold k8_teach_37 at h
    refine lv_aload_n hx hb dX8_teach_37 rfl (lv_at hl 0 rfl) ?_
    refine lv_iload_n hx hb dX8_teach_38 rfl (lv_at hl 2 rfl) ?_
    refine lv_if_ge (tgt := 46) hx hb dX8_teach_39 (by decide) (fun c6 => ?_) (fun c6 => ?_)
    · have h := (if_inv h).1 c6
      refine lv_aload_n hx hb dX8_teach_46 rfl (lv_at hl 0 rfl) ?_
      refine r_getA (j := 3) C hG FX8_21 rfl rfl dX8_teach_47 ?_
      refine lv_iload_n hx hb dX8_teach_50 rfl (lv_at hl 2 rfl) ?_
      refine r_callVIP C hl.1 hG [.int v2] [.ref (E.ad 0)] (m6_positionOf E l v2 g) LX8_101 rfl KC6 rfl (rm_ok (by decide) (by decide)) (Nat.le_of_ble_eq_true rfl) ⟨Nat.le_refl _, Nat.le_refl _⟩ rfl dX8_teach_51 h (fun u7 H locs hG h => ?_)
      exact j54 v1 v2 u7 g _ _ _ hG (lv_sub hl [0, 1, 2] rfl) h
    · have h := (if_inv h).2 c6
      refine lv_iconst (v := (-1)) hx hb dX8_teach_42 (by decide) ?_
      refine lv_goto (tgt := 54) hx hb dX8_teach_43 (by decide) ?_
      exact j54 v1 v2 (-1) g _ _ _ hG (lv_sub hl [0, 1, 2] rfl) h
  refine lv_aload_n hx hb dX8_teach_0 rfl (lv_at hl 0 rfl) ?_
  refine r_getA (j := 3) C hG FX8_21 rfl rfl dX8_teach_1 ?_
  refine r_callVV C hl.1 hG [] [] (m6_readTape E l g) LX8_88 rfl KC6 rfl (rm_ok (by decide) (by decide)) (Nat.le_of_ble_eq_true rfl) ⟨Nat.le_refl _, Nat.le_refl _⟩ rfl dX8_teach_4 h (fun g8 H locs hG h => ?_)
  refine lv_iconst (v := 1) hx hb dX8_teach_7 (by decide) ?_
  refine lv_istore_n (lv' := [(1, .int 1), (0, .ref (E.ad 0))]) hx hb dX8_teach_8 rfl hl (by decide) rfl (fun ls hl => ?_)
  refine lv_aload_n hx hb dX8_teach_9 rfl (lv_at hl 1 rfl) ?_
  refine r_getA (j := 13) C hG FX8_37 rfl rfl dX8_teach_10 ?_
  refine r_callVI C hl.1 hG [] [] (m0_firstMisfit E l g8) LX8_91 rfl KC0 rfl (rm_ok (by decide) (by decide)) (Nat.le_of_ble_eq_true rfl) ⟨Nat.le_refl _, Nat.le_refl _⟩ rfl dX8_teach_13 h (fun u9 H locs hG h => ?_)
  refine r_nm h (fun x10 h => ?_)
  refine lv_istore_n (lv' := [(2, .int x10), (1, .int 1), (0, .ref (E.ad 0))]) hx hb dX8_teach_16 rfl hl (by decide) rfl (fun ls hl => ?_)
  refine lv_iload_n hx hb dX8_teach_17 rfl (lv_at hl 0 rfl) ?_
  refine lv_if_ge (tgt := 37) hx hb dX8_teach_18 (by decide) (fun c11 => ?_) (fun c11 => ?_)
  · have h := (if_inv h).1 c11
    exact j37 1 x10 u9.2 _ _ _ hG (lv_sub hl [2, 1, 0] rfl) h
  · have h := (if_inv h).2 c11
    refine lv_aload_n hx hb dX8_teach_21 rfl (lv_at hl 2 rfl) ?_
    refine r_getA (j := 14) C hG FX8_46 rfl rfl dX8_teach_22 ?_
    refine r_callVI C hl.1 hG [] [] (m1_firstMistake E l u9.2) LX8_95 rfl KC1 rfl (rm_ok (by decide) (by decide)) (Nat.le_of_ble_eq_true rfl) ⟨Nat.le_refl _, Nat.le_refl _⟩ rfl dX8_teach_25 h (fun u12 H locs hG h => ?_)
    refine r_nm h (fun x13 h => ?_)
    refine lv_istore_n (lv' := [(2, .int x13), (1, .int 1), (0, .ref (E.ad 0))]) hx hb dX8_teach_28 rfl hl (by decide) rfl (fun ls hl => ?_)
    refine lv_aload_n hx hb dX8_teach_29 rfl (lv_at hl 2 rfl) ?_
    refine r_getA (j := 14) C hG FX8_46 rfl rfl dX8_teach_30 ?_
    refine r_getI C hG FX8_98 rfl rfl dX8_teach_33 ?_
    refine r_nm h (fun x14 h => ?_)
    refine lv_istore_n (lv' := [(1, .int x14), (2, .int x13), (0, .ref (E.ad 0))]) hx hb dX8_teach_36 rfl hl (by decide) rfl (fun ls hl => ?_)
    exact j37 x14 x13 u12.2 _ _ _ hG (lv_sub hl [2, 0, 1] rfl) h
def k8_mirrors  (g : G) : Option (Int32) :=
  some (g 22 7)
set_option maxRecDepth 100000 in
set_option maxHeartbeats 4000000 in
theorem m8_mirrors (E : EV) (l : Launch) (g : G) : ∀ u, k8_mirrors g = some u → MI E l yX8_mirrors cX8_mirrors 1 (some .int) 0 0 0 [.ref (E.ad 0)] g (u, g) := by
  intro u h
  refine MG.of (by decide +kernel) (Nat.le_of_ble_eq_true rfl) ?_
  intro p e s m args below meth c C hr hnm ls hl hG
  have C : Cx p s m args meth c cX8_mirrors 1 RX8 E := C
  have hx := C.1
  have hb := C.2.1
  have hl : lv_has ls 1 [(0, .ref (E.ad 0))] := hl
  unfold k8_mirrors at h
  refine lv_aload_n hx hb dX8_mirrors_0 rfl (lv_at hl 0 rfl) ?_
  refine r_getA (j := 21) C hG FX8_58 rfl rfl dX8_mirrors_1 ?_
  refine r_getR (d := 1) C hG FX8_112 rfl rfl (by decide) dX8_mirrors_4 ?_
  refine r_getI C hG FX8_116 rfl rfl dX8_mirrors_7 ?_
  exact r_iretP C hG hr rfl dX8_mirrors_10 h
def k8_orders  (g : G) : Option (Int32) :=
  some (g 16 5)
set_option maxRecDepth 100000 in
set_option maxHeartbeats 4000000 in
theorem m8_orders (E : EV) (l : Launch) (g : G) : ∀ u, k8_orders g = some u → MI E l yX8_orders cX8_orders 1 (some .int) 0 0 0 [.ref (E.ad 0)] g (u, g) := by
  intro u h
  refine MG.of (by decide +kernel) (Nat.le_of_ble_eq_true rfl) ?_
  intro p e s m args below meth c C hr hnm ls hl hG
  have C : Cx p s m args meth c cX8_orders 1 RX8 E := C
  have hx := C.1
  have hb := C.2.1
  have hl : lv_has ls 1 [(0, .ref (E.ad 0))] := hl
  unfold k8_orders at h
  refine lv_aload_n hx hb dX8_orders_0 rfl (lv_at hl 0 rfl) ?_
  refine r_getA (j := 16) C hG FX8_50 rfl rfl dX8_orders_1 ?_
  refine r_getI C hG FX8_121 rfl rfl dX8_orders_4 ?_
  exact r_iretP C hG hr rfl dX8_orders_7 h
def k8_minutes  (g : G) : Option (Int32) :=
  some (g 21 5)
set_option maxRecDepth 100000 in
set_option maxHeartbeats 4000000 in
theorem m8_minutes (E : EV) (l : Launch) (g : G) : ∀ u, k8_minutes g = some u → MI E l yX8_minutes cX8_minutes 1 (some .int) 0 0 0 [.ref (E.ad 0)] g (u, g) := by
  intro u h
  refine MG.of (by decide +kernel) (Nat.le_of_ble_eq_true rfl) ?_
  intro p e s m args below meth c C hr hnm ls hl hG
  have C : Cx p s m args meth c cX8_minutes 1 RX8 E := C
  have hx := C.1
  have hb := C.2.1
  have hl : lv_has ls 1 [(0, .ref (E.ad 0))] := hl
  unfold k8_minutes at h
  refine lv_aload_n hx hb dX8_minutes_0 rfl (lv_at hl 0 rfl) ?_
  refine r_getA (j := 21) C hG FX8_58 rfl rfl dX8_minutes_1 ?_
  refine r_getI C hG FX8_124 rfl rfl dX8_minutes_4 ?_
  exact r_iretP C hG hr rfl dX8_minutes_7 h
def k8_tapeBytes  (g : G) : Option (Int32) :=
  some (g 1 1)
set_option maxRecDepth 100000 in
set_option maxHeartbeats 4000000 in
theorem m8_tapeBytes (E : EV) (l : Launch) (g : G) : ∀ u, k8_tapeBytes g = some u → MI E l yX8_tapeBytes cX8_tapeBytes 1 (some .int) 0 0 0 [.ref (E.ad 0)] g (u, g) := by
  intro u h
  refine MG.of (by decide +kernel) (Nat.le_of_ble_eq_true rfl) ?_
  intro p e s m args below meth c C hr hnm ls hl hG
  have C : Cx p s m args meth c cX8_tapeBytes 1 RX8 E := C
  have hx := C.1
  have hb := C.2.1
  have hl : lv_has ls 1 [(0, .ref (E.ad 0))] := hl
  unfold k8_tapeBytes at h
  refine lv_aload_n hx hb dX8_tapeBytes_0 rfl (lv_at hl 0 rfl) ?_
  refine r_getA (j := 1) C hG FX8_10 rfl rfl dX8_tapeBytes_1 ?_
  refine r_getI C hG FX8_69 rfl rfl dX8_tapeBytes_4 ?_
  exact r_iretP C hG hr rfl dX8_tapeBytes_7 h
def k8_lightAtEnd  (g : G) : Option (Int32 × G) :=
  (k4_lastLight 22 g).bind fun u1 =>
  some (u1.1, u1.2)
set_option maxRecDepth 100000 in
set_option maxHeartbeats 4000000 in
theorem m8_lightAtEnd (E : EV) (l : Launch) (g : G) : ∀ u, k8_lightAtEnd g = some u → MI E l yX8_lightAtEnd cX8_lightAtEnd 1 (some .int) 3 0 0 [.ref (E.ad 0)] g u := by
  intro u h
  refine MG.of (by decide +kernel) (Nat.le_of_ble_eq_true rfl) ?_
  intro p e s m args below meth c C hr hnm ls hl hG
  have C : Cx p s m args meth c cX8_lightAtEnd 1 RX8 E := C
  have hx := C.1
  have hb := C.2.1
  have hl : lv_has ls 1 [(0, .ref (E.ad 0))] := hl
  unfold k8_lightAtEnd at h
  refine lv_aload_n hx hb dX8_lightAtEnd_0 rfl (lv_at hl 0 rfl) ?_
  refine r_getA (j := 21) C hG FX8_58 rfl rfl dX8_lightAtEnd_1 ?_
  refine r_getR (d := 1) C hG FX8_112 rfl rfl (by decide) dX8_lightAtEnd_4 ?_
  refine r_callVI C hl.1 hG [] [] (m4_lastLight E l 22 rfl g) LX8_127 rfl KC4 rfl (rm_ok (by decide) (by decide)) (Nat.le_of_ble_eq_true rfl) ⟨Nat.le_refl _, Nat.le_refl _⟩ rfl dX8_lightAtEnd_7 h (fun u1 H locs hG h => ?_)
  exact r_iret C hG hr rfl dX8_lightAtEnd_10 h
def k8_tiltAtEnd  (g : G) : Option (Int32 × G) :=
  (k4_lastTilt 22 g).bind fun u1 =>
  some (u1.1, u1.2)
set_option maxRecDepth 100000 in
set_option maxHeartbeats 4000000 in
theorem m8_tiltAtEnd (E : EV) (l : Launch) (g : G) : ∀ u, k8_tiltAtEnd g = some u → MI E l yX8_tiltAtEnd cX8_tiltAtEnd 1 (some .int) 3 0 0 [.ref (E.ad 0)] g u := by
  intro u h
  refine MG.of (by decide +kernel) (Nat.le_of_ble_eq_true rfl) ?_
  intro p e s m args below meth c C hr hnm ls hl hG
  have C : Cx p s m args meth c cX8_tiltAtEnd 1 RX8 E := C
  have hx := C.1
  have hb := C.2.1
  have hl : lv_has ls 1 [(0, .ref (E.ad 0))] := hl
  unfold k8_tiltAtEnd at h
  refine lv_aload_n hx hb dX8_tiltAtEnd_0 rfl (lv_at hl 0 rfl) ?_
  refine r_getA (j := 21) C hG FX8_58 rfl rfl dX8_tiltAtEnd_1 ?_
  refine r_getR (d := 1) C hG FX8_112 rfl rfl (by decide) dX8_tiltAtEnd_4 ?_
  refine r_callVI C hl.1 hG [] [] (m4_lastTilt E l 22 rfl g) LX8_130 rfl KC4 rfl (rm_ok (by decide) (by decide)) (Nat.le_of_ble_eq_true rfl) ⟨Nat.le_refl _, Nat.le_refl _⟩ rfl dX8_tiltAtEnd_7 h (fun u1 H locs hG h => ?_)
  exact r_iret C hG hr rfl dX8_tiltAtEnd_10 h
def k8_isSeen  (g : G) : Option (Int32 × G) :=
  (k4_showsLight 22 g).bind fun u1 =>
  zr u1.1 u1.2
set_option maxRecDepth 100000 in
set_option maxHeartbeats 4000000 in
theorem m8_isSeen (E : EV) (l : Launch) (g : G) : ∀ u, k8_isSeen g = some u → MI E l yX8_isSeen cX8_isSeen 1 (some .boolean) 3 0 0 [.ref (E.ad 0)] g u := by
  intro u h
  refine MG.of (by decide +kernel) (Nat.le_of_ble_eq_true rfl) ?_
  intro p e s m args below meth c C hr hnm ls hl hG
  have C : Cx p s m args meth c cX8_isSeen 1 RX8 E := C
  have hx := C.1
  have hb := C.2.1
  have hl : lv_has ls 1 [(0, .ref (E.ad 0))] := hl
  unfold k8_isSeen at h
  refine lv_aload_n hx hb dX8_isSeen_0 rfl (lv_at hl 0 rfl) ?_
  refine r_getA (j := 21) C hG FX8_58 rfl rfl dX8_isSeen_1 ?_
  refine r_getR (d := 1) C hG FX8_112 rfl rfl (by decide) dX8_isSeen_4 ?_
  refine r_callVI C hl.1 hG [] [] (m4_showsLight E l 22 rfl g) LX8_133 rfl KC4 rfl (rm_ok (by decide) (by decide)) (Nat.le_of_ble_eq_true rfl) ⟨Nat.le_refl _, Nat.le_refl _⟩ rfl dX8_isSeen_7 h (fun u1 H locs hG h => ?_)
  exact r_zret C hG hr dX8_isSeen_10 h
def k8_jobs  (g : G) : Option (Int32) :=
  some (g 30 2)
set_option maxRecDepth 100000 in
set_option maxHeartbeats 4000000 in
theorem m8_jobs (E : EV) (l : Launch) (g : G) : ∀ u, k8_jobs g = some u → MI E l yX8_jobs cX8_jobs 1 (some .int) 0 0 0 [.ref (E.ad 0)] g (u, g) := by
  intro u h
  refine MG.of (by decide +kernel) (Nat.le_of_ble_eq_true rfl) ?_
  intro p e s m args below meth c C hr hnm ls hl hG
  have C : Cx p s m args meth c cX8_jobs 1 RX8 E := C
  have hx := C.1
  have hb := C.2.1
  have hl : lv_has ls 1 [(0, .ref (E.ad 0))] := hl
  unfold k8_jobs at h
  refine lv_aload_n hx hb dX8_jobs_0 rfl (lv_at hl 0 rfl) ?_
  refine r_getA (j := 21) C hG FX8_58 rfl rfl dX8_jobs_1 ?_
  refine r_getR (d := 9) C hG FX8_163 rfl rfl (by decide) dX8_jobs_4 ?_
  refine r_getI C hG FX8_167 rfl rfl dX8_jobs_7 ?_
  exact r_iretP C hG hr rfl dX8_jobs_10 h
def k8_jobsDone  (g : G) : Option (Int32) :=
  some (g 30 4)
set_option maxRecDepth 100000 in
set_option maxHeartbeats 4000000 in
theorem m8_jobsDone (E : EV) (l : Launch) (g : G) : ∀ u, k8_jobsDone g = some u → MI E l yX8_jobsDone cX8_jobsDone 1 (some .int) 0 0 0 [.ref (E.ad 0)] g (u, g) := by
  intro u h
  refine MG.of (by decide +kernel) (Nat.le_of_ble_eq_true rfl) ?_
  intro p e s m args below meth c C hr hnm ls hl hG
  have C : Cx p s m args meth c cX8_jobsDone 1 RX8 E := C
  have hx := C.1
  have hb := C.2.1
  have hl : lv_has ls 1 [(0, .ref (E.ad 0))] := hl
  unfold k8_jobsDone at h
  refine lv_aload_n hx hb dX8_jobsDone_0 rfl (lv_at hl 0 rfl) ?_
  refine r_getA (j := 21) C hG FX8_58 rfl rfl dX8_jobsDone_1 ?_
  refine r_getR (d := 9) C hG FX8_163 rfl rfl (by decide) dX8_jobsDone_4 ?_
  refine r_getI C hG FX8_172 rfl rfl dX8_jobsDone_7 ?_
  exact r_iretP C hG hr rfl dX8_jobsDone_10 h
def k8_minutesToGo  (g : G) : Option (Int32) :=
  some (g 30 3)
set_option maxRecDepth 100000 in
set_option maxHeartbeats 4000000 in
theorem m8_minutesToGo (E : EV) (l : Launch) (g : G) : ∀ u, k8_minutesToGo g = some u → MI E l yX8_minutesToGo cX8_minutesToGo 1 (some .int) 0 0 0 [.ref (E.ad 0)] g (u, g) := by
  intro u h
  refine MG.of (by decide +kernel) (Nat.le_of_ble_eq_true rfl) ?_
  intro p e s m args below meth c C hr hnm ls hl hG
  have C : Cx p s m args meth c cX8_minutesToGo 1 RX8 E := C
  have hx := C.1
  have hb := C.2.1
  have hl : lv_has ls 1 [(0, .ref (E.ad 0))] := hl
  unfold k8_minutesToGo at h
  refine lv_aload_n hx hb dX8_minutesToGo_0 rfl (lv_at hl 0 rfl) ?_
  refine r_getA (j := 21) C hG FX8_58 rfl rfl dX8_minutesToGo_1 ?_
  refine r_getR (d := 9) C hG FX8_163 rfl rfl (by decide) dX8_minutesToGo_4 ?_
  refine r_getI C hG FX8_182 rfl rfl dX8_minutesToGo_7 ?_
  exact r_iretP C hG hr rfl dX8_minutesToGo_10 h
def k8_minutesUntilSeen_13  : Nat → Int32 → G → Option (Int32 × G)
  | 0, _, _ => none
  | f + 1, v1, g =>
        if 100 < v1 then
          some ((-1), g)
        else
          (k4_showsLight 35 g).bind fun u2 =>
          if u2.1 = 0 then
            (k7_pass 34 1 u2.2).bind fun g4 =>
            bd (v1 + 1) fun x5 =>
            k8_minutesUntilSeen_13 f x5 g4
          else
            some (v1, u2.2)
def k8_minutesUntilSeen  (g : G) : Option (Int32 × G) :=
  (k7_copy 34 21 g).bind fun g6 =>
  k8_minutesUntilSeen_13 FU 0 g6
set_option maxRecDepth 100000 in
set_option maxHeartbeats 4000000 in
theorem m8_minutesUntilSeen (E : EV) (l : Launch) (g : G) : ∀ u, k8_minutesUntilSeen g = some u → MI E l yX8_minutesUntilSeen cX8_minutesUntilSeen 2 (some .int) 7 0 0 [.ref (E.ad 0)] g u := by
  intro u h
  refine MG.of (by decide +kernel) (Nat.le_of_ble_eq_true rfl) ?_
  intro p e s m args below meth c C hr hnm ls hl hG
  have C : Cx p s m args meth c cX8_minutesUntilSeen 2 RX8 E := C
  have hx := C.1
  have hb := C.2.1
  have hl : lv_has ls 2 [(0, .ref (E.ad 0))] := hl
  unfold k8_minutesUntilSeen at h
  have j13 : ∀ f : Nat, ∀ (v1 : Int32) (g : G) (H : Heap) (locs : List Loc) (ls : Array Slot), Gd E s H locs g [] → lv_has ls 2 [(0, .ref (E.ad 0)), (1, .int v1)] → k8_minutesUntilSeen_13 f v1 g = some u → W p l e (rmD 7 0 0) s m args below meth c H locs 0 0 (MQ below (QI E s.heap.size u.1 u.2) args s 0 0 (AA E s.heap.size)) (F0 m 13 ls []) := by
    intro f
    induction f with
    | zero =>
      intro v1 g H locs ls hG hl h
      unfold k8_minutesUntilSeen_13 at h
      cases h
    | succ f ih =>
      intro v1 g H locs ls hG hl h
      unfold k8_minutesUntilSeen_13 at h
      refine lv_iload_n hx hb dX8_minutesUntilSeen_13 rfl (lv_at hl 1 rfl) ?_
      refine lv_bipush (v := 100) hx hb dX8_minutesUntilSeen_14 (by decide) ?_
      refine lv_icmp_gt (tgt := 48) hx hb dX8_minutesUntilSeen_16 (by decide) (fun c1 => ?_) (fun c1 => ?_)
      · have h := (if_inv h).1 c1
        refine lv_iconst (v := (-1)) hx hb dX8_minutesUntilSeen_48 (by decide) ?_
        exact r_iret C hG hr rfl dX8_minutesUntilSeen_49 h
      · have h := (if_inv h).2 c1
        refine lv_aload_n hx hb dX8_minutesUntilSeen_19 rfl (lv_at hl 0 rfl) ?_
        refine r_getA (j := 34) C hG FX8_62 rfl rfl dX8_minutesUntilSeen_20 ?_
        refine r_getR (d := 1) C hG FX8_112 rfl rfl (by decide) dX8_minutesUntilSeen_23 ?_
        refine r_callVI C hl.1 hG [] [] (m4_showsLight E l 35 rfl g) LX8_133 rfl KC4 rfl (rm_ok (by decide) (by decide)) (Nat.le_of_ble_eq_true rfl) ⟨Nat.le_refl _, Nat.le_refl _⟩ rfl dX8_minutesUntilSeen_26 h (fun u2 H locs hG h => ?_)
        refine lv_if_eq (tgt := 34) hx hb dX8_minutesUntilSeen_29 (by decide) (fun c3 => ?_) (fun c3 => ?_)
        · have h := (if_inv h).1 c3
          refine lv_aload_n hx hb dX8_minutesUntilSeen_34 rfl (lv_at hl 0 rfl) ?_
          refine r_getA (j := 34) C hG FX8_62 rfl rfl dX8_minutesUntilSeen_35 ?_
          refine lv_iconst (v := 1) hx hb dX8_minutesUntilSeen_38 (by decide) ?_
          refine r_callVV C hl.1 hG [.int 1] [] (m7_pass E l 34 rfl 1 u2.2) LX8_217 rfl KC7 rfl (rm_ok (by decide) (by decide)) (Nat.le_of_ble_eq_true rfl) ⟨Nat.le_refl _, Nat.le_refl _⟩ rfl dX8_minutesUntilSeen_39 h (fun g4 H locs hG h => ?_)
          refine r_iinc (w := 1) (lv' := fun x5 => [(1, .int x5), (0, .ref (E.ad 0))]) C dX8_minutesUntilSeen_42 hl (k := 1) rfl (by decide) (by decide) (fun _ => rfl) h (fun x5 ls hl h => ?_)
          refine lv_goto (tgt := 13) hx hb dX8_minutesUntilSeen_45 (by decide) ?_
          exact ih x5 g4 _ _ _ hG (lv_sub hl [1, 0] rfl) h
        · have h := (if_inv h).2 c3
          refine lv_iload_n hx hb dX8_minutesUntilSeen_32 rfl (lv_at hl 1 rfl) ?_
          exact r_iret C hG hr rfl dX8_minutesUntilSeen_33 h
  refine lv_aload_n hx hb dX8_minutesUntilSeen_0 rfl (lv_at hl 0 rfl) ?_
  refine r_getA (j := 34) C hG FX8_62 rfl rfl dX8_minutesUntilSeen_1 ?_
  refine lv_aload_n hx hb dX8_minutesUntilSeen_4 rfl (lv_at hl 0 rfl) ?_
  refine r_getA (j := 21) C hG FX8_58 rfl rfl dX8_minutesUntilSeen_5 ?_
  refine r_callVV C hl.1 hG [.ref (E.ad 21)] [] (m7_copy E l 34 21 rfl rfl g) LX8_220 rfl KC7 rfl (rm_ok (by decide) (by decide)) (Nat.le_of_ble_eq_true rfl) ⟨Nat.le_refl _, Nat.le_refl _⟩ rfl dX8_minutesUntilSeen_8 h (fun g6 H locs hG h => ?_)
  refine lv_iconst (v := 0) hx hb dX8_minutesUntilSeen_11 (by decide) ?_
  refine lv_istore_n (lv' := [(1, .int 0), (0, .ref (E.ad 0))]) hx hb dX8_minutesUntilSeen_12 rfl hl (by decide) rfl (fun ls hl => ?_)
  exact j13 FU 0 g6 _ _ _ hG (lv_sub hl [1, 0] rfl) h
def k8_bestToClean_15  : Nat → Int32 → Int32 → Int32 → G → Option (Int32 × G)
  | 0, _, _, _, _ => none
  | f + 1, v1, v2, v3, g =>
        if (g 22 7) ≤ v3 then
          some (v1, g)
        else
          (k4_copy 35 22 g).bind fun g2 =>
          (k4_clean 35 v3 g2).bind fun g3 =>
          (k4_lastLight 35 g3).bind fun u4 =>
          bd u4.1 fun x5 =>
          if x5 ≤ v2 then
            bd (v3 + 1) fun x7 =>
            k8_bestToClean_15 f v1 v2 x7 u4.2
          else
            bd (v3 + 1) fun x8 =>
            k8_bestToClean_15 f v3 x5 x8 u4.2
def k8_bestToClean  (g : G) : Option (Int32 × G) :=
  (k4_lastLight 22 g).bind fun u9 =>
  bd u9.1 fun x10 =>
  k8_bestToClean_15 FU (-1) x10 0 u9.2
set_option maxRecDepth 100000 in
set_option maxHeartbeats 4000000 in
theorem m8_bestToClean (E : EV) (l : Launch) (g : G) : ∀ u, k8_bestToClean g = some u → MI E l yX8_bestToClean cX8_bestToClean 5 (some .int) 3 0 0 [.ref (E.ad 0)] g u := by
  intro u h
  refine MG.of (by decide +kernel) (Nat.le_of_ble_eq_true rfl) ?_
  intro p e s m args below meth c C hr hnm ls hl hG
  have C : Cx p s m args meth c cX8_bestToClean 5 RX8 E := C
  have hx := C.1
  have hb := C.2.1
  have hl : lv_has ls 5 [(0, .ref (E.ad 0))] := hl
  unfold k8_bestToClean at h
  have j15 : ∀ f : Nat, ∀ (v1 : Int32) (v2 : Int32) (v3 : Int32) (g : G) (H : Heap) (locs : List Loc) (ls : Array Slot), Gd E s H locs g [] → lv_has ls 5 [(0, .ref (E.ad 0)), (1, .int v1), (2, .int v2), (3, .int v3)] → k8_bestToClean_15 f v1 v2 v3 g = some u → W p l e (rmD 3 0 0) s m args below meth c H locs 0 0 (MQ below (QI E s.heap.size u.1 u.2) args s 0 0 (AA E s.heap.size)) (F0 m 15 ls []) := by
    intro f
    induction f with
    | zero =>
      intro v1 v2 v3 g H locs ls hG hl h
      unfold k8_bestToClean_15 at h
      cases h
    | succ f ih =>
      intro v1 v2 v3 g H locs ls hG hl h
      unfold k8_bestToClean_15 at h
      refine lv_iload_n hx hb dX8_bestToClean_15 rfl (lv_at hl 3 rfl) ?_
      refine lv_aload_n hx hb dX8_bestToClean_16 rfl (lv_at hl 0 rfl) ?_
      refine r_getA (j := 21) C hG FX8_58 rfl rfl dX8_bestToClean_17 ?_
      refine r_getR (d := 1) C hG FX8_112 rfl rfl (by decide) dX8_bestToClean_20 ?_
      refine r_getI C hG FX8_116 rfl rfl dX8_bestToClean_23 ?_
      refine lv_icmp_ge (tgt := 86) hx hb dX8_bestToClean_26 (by decide) (fun c1 => ?_) (fun c1 => ?_)
      · have h := (if_inv h).1 c1
        refine lv_iload_n hx hb dX8_bestToClean_86 rfl (lv_at hl 1 rfl) ?_
        exact r_iret C hG hr rfl dX8_bestToClean_87 h
      · have h := (if_inv h).2 c1
        refine lv_aload_n hx hb dX8_bestToClean_29 rfl (lv_at hl 0 rfl) ?_
        refine r_getA (j := 34) C hG FX8_62 rfl rfl dX8_bestToClean_30 ?_
        refine r_getR (d := 1) C hG FX8_112 rfl rfl (by decide) dX8_bestToClean_33 ?_
        refine lv_aload_n hx hb dX8_bestToClean_36 rfl (lv_at hl 0 rfl) ?_
        refine r_getA (j := 21) C hG FX8_58 rfl rfl dX8_bestToClean_37 ?_
        refine r_getR (d := 1) C hG FX8_112 rfl rfl (by decide) dX8_bestToClean_40 ?_
        refine r_callVV C hl.1 hG [.ref (E.ad 22)] [] (m4_copy E l 35 22 rfl rfl g) LX8_224 rfl KC4 rfl (rm_ok (by decide) (by decide)) (Nat.le_of_ble_eq_true rfl) ⟨Nat.le_refl _, Nat.le_refl _⟩ rfl dX8_bestToClean_43 h (fun g2 H locs hG h => ?_)
        refine lv_aload_n hx hb dX8_bestToClean_46 rfl (lv_at hl 0 rfl) ?_
        refine r_getA (j := 34) C hG FX8_62 rfl rfl dX8_bestToClean_47 ?_
        refine r_getR (d := 1) C hG FX8_112 rfl rfl (by decide) dX8_bestToClean_50 ?_
        refine lv_iload_n hx hb dX8_bestToClean_53 rfl (lv_at hl 3 rfl) ?_
        refine r_callVV C hl.1 hG [.int v3] [] (m4_clean E l 35 rfl v3 g2) LX8_227 rfl KC4 rfl (rm_ok (by decide) (by decide)) (Nat.le_of_ble_eq_true rfl) ⟨Nat.le_refl _, Nat.le_refl _⟩ rfl dX8_bestToClean_54 h (fun g3 H locs hG h => ?_)
        refine lv_aload_n hx hb dX8_bestToClean_57 rfl (lv_at hl 0 rfl) ?_
        refine r_getA (j := 34) C hG FX8_62 rfl rfl dX8_bestToClean_58 ?_
        refine r_getR (d := 1) C hG FX8_112 rfl rfl (by decide) dX8_bestToClean_61 ?_
        refine r_callVI C hl.1 hG [] [] (m4_lastLight E l 35 rfl g3) LX8_127 rfl KC4 rfl (rm_ok (by decide) (by decide)) (Nat.le_of_ble_eq_true rfl) ⟨Nat.le_refl _, Nat.le_refl _⟩ rfl dX8_bestToClean_64 h (fun u4 H locs hG h => ?_)
        refine r_nm h (fun x5 h => ?_)
        refine lv_istore (lv' := [(4, .int x5), (0, .ref (E.ad 0)), (1, .int v1), (2, .int v2), (3, .int v3)]) hx hb dX8_bestToClean_67 hl (by decide) rfl (fun ls hl => ?_)
        refine lv_iload hx hb dX8_bestToClean_69 (lv_at hl 0 rfl) ?_
        refine lv_iload_n hx hb dX8_bestToClean_71 rfl (lv_at hl 3 rfl) ?_
        refine lv_icmp_le (tgt := 80) hx hb dX8_bestToClean_72 (by decide) (fun c6 => ?_) (fun c6 => ?_)
        · have h := (if_inv h).1 c6
          refine r_iinc (w := 1) (lv' := fun x7 => [(3, .int x7), (4, .int x5), (0, .ref (E.ad 0)), (1, .int v1), (2, .int v2)]) C dX8_bestToClean_80 hl (k := 4) rfl (by decide) (by decide) (fun _ => rfl) h (fun x7 ls hl h => ?_)
          refine lv_goto (tgt := 15) hx hb dX8_bestToClean_83 (by decide) ?_
          exact ih v1 v2 x7 u4.2 _ _ _ hG (lv_sub hl [2, 3, 4, 0] rfl) h
        · have h := (if_inv h).2 c6
          refine lv_iload hx hb dX8_bestToClean_75 (lv_at hl 0 rfl) ?_
          refine lv_istore_n (lv' := [(2, .int x5), (4, .int x5), (0, .ref (E.ad 0)), (1, .int v1), (3, .int v3)]) hx hb dX8_bestToClean_77 rfl hl (by decide) rfl (fun ls hl => ?_)
          refine lv_iload_n hx hb dX8_bestToClean_78 rfl (lv_at hl 4 rfl) ?_
          refine lv_istore_n (lv' := [(1, .int v3), (2, .int x5), (4, .int x5), (0, .ref (E.ad 0)), (3, .int v3)]) hx hb dX8_bestToClean_79 rfl hl (by decide) rfl (fun ls hl => ?_)
          refine r_iinc (w := 1) (lv' := fun x8 => [(3, .int x8), (1, .int v3), (2, .int x5), (4, .int x5), (0, .ref (E.ad 0))]) C dX8_bestToClean_80 hl (k := 4) rfl (by decide) (by decide) (fun _ => rfl) h (fun x8 ls hl h => ?_)
          refine lv_goto (tgt := 15) hx hb dX8_bestToClean_83 (by decide) ?_
          exact ih v3 x5 x8 u4.2 _ _ _ hG (lv_sub hl [4, 1, 2, 0] rfl) h
  refine lv_iconst (v := (-1)) hx hb dX8_bestToClean_0 (by decide) ?_
  refine lv_istore_n (lv' := [(1, .int (-1)), (0, .ref (E.ad 0))]) hx hb dX8_bestToClean_1 rfl hl (by decide) rfl (fun ls hl => ?_)
  refine lv_aload_n hx hb dX8_bestToClean_2 rfl (lv_at hl 1 rfl) ?_
  refine r_getA (j := 21) C hG FX8_58 rfl rfl dX8_bestToClean_3 ?_
  refine r_getR (d := 1) C hG FX8_112 rfl rfl (by decide) dX8_bestToClean_6 ?_
  refine r_callVI C hl.1 hG [] [] (m4_lastLight E l 22 rfl g) LX8_127 rfl KC4 rfl (rm_ok (by decide) (by decide)) (Nat.le_of_ble_eq_true rfl) ⟨Nat.le_refl _, Nat.le_refl _⟩ rfl dX8_bestToClean_9 h (fun u9 H locs hG h => ?_)
  refine r_nm h (fun x10 h => ?_)
  refine lv_istore_n (lv' := [(2, .int x10), (1, .int (-1)), (0, .ref (E.ad 0))]) hx hb dX8_bestToClean_12 rfl hl (by decide) rfl (fun ls hl => ?_)
  refine lv_iconst (v := 0) hx hb dX8_bestToClean_13 (by decide) ?_
  refine lv_istore_n (lv' := [(3, .int 0), (2, .int x10), (1, .int (-1)), (0, .ref (E.ad 0))]) hx hb dX8_bestToClean_14 rfl hl (by decide) rfl (fun ls hl => ?_)
  exact j15 FU (-1) x10 0 u9.2 _ _ _ hG (lv_sub hl [3, 2, 1, 0] rfl) h
def k8_meanClarity_21  : Nat → Int32 → Int32 → Int32 → G → Option (UInt64 × G)
  | 0, _, _, _, _ => none
  | f + 1, v1, v2, v3, g =>
        if v1 ≤ v3 then
          ddv (FP.i2d v2) (FP.i2d v1) fun x2 =>
          some (x2, g)
        else
          (k4_valueOf 22 129 v3 g).bind fun u3 =>
          bd (v2 + u3.1) fun x4 =>
          bd (v3 + 1) fun x5 =>
          k8_meanClarity_21 f v1 x4 x5 u3.2
def k8_meanClarity  (g : G) : Option (UInt64 × G) :=
  bd (g 22 7) fun x6 =>
  if x6 = 0 then
    some (FP.dconst0, g)
  else
    k8_meanClarity_21 FU x6 0 0 g
set_option maxRecDepth 100000 in
set_option maxHeartbeats 4000000 in
theorem m8_meanClarity (E : EV) (l : Launch) (g : G) : ∀ u, k8_meanClarity g = some u → MD E l yX8_meanClarity cX8_meanClarity 4 (some .double) 3 0 0 [.ref (E.ad 0)] g u := by
  intro u h
  refine MG.of (by decide +kernel) (Nat.le_of_ble_eq_true rfl) ?_
  intro p e s m args below meth c C hr hnm ls hl hG
  have C : Cx p s m args meth c cX8_meanClarity 4 RX8 E := C
  have hx := C.1
  have hb := C.2.1
  have hl : lv_has ls 4 [(0, .ref (E.ad 0))] := hl
  unfold k8_meanClarity at h
  have j21 : ∀ f : Nat, ∀ (v1 : Int32) (v2 : Int32) (v3 : Int32) (g : G) (H : Heap) (locs : List Loc) (ls : Array Slot), Gd E s H locs g [] → lv_has ls 4 [(0, .ref (E.ad 0)), (1, .int v1), (2, .int v2), (3, .int v3)] → k8_meanClarity_21 f v1 v2 v3 g = some u → W p l e (rmD 3 0 0) s m args below meth c H locs 0 0 (MQ below (QD E s.heap.size u.1 u.2) args s 0 0 (AA E s.heap.size)) (F0 m 21 ls []) := by
    intro f
    induction f with
    | zero =>
      intro v1 v2 v3 g H locs ls hG hl h
      unfold k8_meanClarity_21 at h
      cases h
    | succ f ih =>
      intro v1 v2 v3 g H locs ls hG hl h
      unfold k8_meanClarity_21 at h
      refine lv_iload_n hx hb dX8_meanClarity_21 rfl (lv_at hl 3 rfl) ?_
      refine lv_iload_n hx hb dX8_meanClarity_22 rfl (lv_at hl 1 rfl) ?_
      refine lv_icmp_ge (tgt := 49) hx hb dX8_meanClarity_23 (by decide) (fun c1 => ?_) (fun c1 => ?_)
      · have h := (if_inv h).1 c1
        refine lv_iload_n hx hb dX8_meanClarity_49 rfl (lv_at hl 2 rfl) ?_
        refine lv_i2d hx hb dX8_meanClarity_50 ?_
        refine lv_iload_n hx hb dX8_meanClarity_51 rfl (lv_at hl 1 rfl) ?_
        refine lv_i2d hx hb dX8_meanClarity_52 ?_
        refine r_ddiv C dX8_meanClarity_53 h (fun x2 h => ?_)
        exact r_dret C hG hr dX8_meanClarity_54 h
      · have h := (if_inv h).2 c1
        refine lv_iload_n hx hb dX8_meanClarity_26 rfl (lv_at hl 2 rfl) ?_
        refine lv_aload_n hx hb dX8_meanClarity_27 rfl (lv_at hl 0 rfl) ?_
        refine r_getA (j := 21) C hG FX8_58 rfl rfl dX8_meanClarity_28 ?_
        refine r_getR (d := 1) C hG FX8_112 rfl rfl (by decide) dX8_meanClarity_31 ?_
        refine lv_sipush (v := 129) hx hb dX8_meanClarity_34 (by decide) ?_
        refine lv_iload_n hx hb dX8_meanClarity_37 rfl (lv_at hl 3 rfl) ?_
        refine r_callVI C hl.1 hG [.int 129, .int v3] [.int v2] (m4_valueOf E l 22 rfl 129 v3 g) LX8_145 rfl KC4 rfl (rm_ok (by decide) (by decide)) (Nat.le_of_ble_eq_true rfl) ⟨Nat.le_refl _, Nat.le_refl _⟩ rfl dX8_meanClarity_38 h (fun u3 H locs hG h => ?_)
        refine lv_iadd hx hb dX8_meanClarity_41 ?_
        refine r_nm h (fun x4 h => ?_)
        refine lv_istore_n (lv' := [(2, .int x4), (0, .ref (E.ad 0)), (1, .int v1), (3, .int v3)]) hx hb dX8_meanClarity_42 rfl hl (by decide) rfl (fun ls hl => ?_)
        refine r_iinc (w := 1) (lv' := fun x5 => [(3, .int x5), (2, .int x4), (0, .ref (E.ad 0)), (1, .int v1)]) C dX8_meanClarity_43 hl (k := 3) rfl (by decide) (by decide) (fun _ => rfl) h (fun x5 ls hl h => ?_)
        refine lv_goto (tgt := 21) hx hb dX8_meanClarity_46 (by decide) ?_
        exact ih v1 x4 x5 u3.2 _ _ _ hG (lv_sub hl [2, 3, 1, 0] rfl) h
  refine lv_aload_n hx hb dX8_meanClarity_0 rfl (lv_at hl 0 rfl) ?_
  refine r_getA (j := 21) C hG FX8_58 rfl rfl dX8_meanClarity_1 ?_
  refine r_getR (d := 1) C hG FX8_112 rfl rfl (by decide) dX8_meanClarity_4 ?_
  refine r_getI C hG FX8_116 rfl rfl dX8_meanClarity_7 ?_
  refine r_nm h (fun x6 h => ?_)
  refine lv_istore_n (lv' := [(1, .int x6), (0, .ref (E.ad 0))]) hx hb dX8_meanClarity_10 rfl hl (by decide) rfl (fun ls hl => ?_)
  refine lv_iload_n hx hb dX8_meanClarity_11 rfl (lv_at hl 0 rfl) ?_
  refine lv_if_ne (tgt := 17) hx hb dX8_meanClarity_12 (by decide) (fun c7 => ?_) (fun c7 => ?_)
  · have h := (if_inv h).2 c7
    refine lv_iconst (v := 0) hx hb dX8_meanClarity_17 (by decide) ?_
    refine lv_istore_n (lv' := [(2, .int 0), (1, .int x6), (0, .ref (E.ad 0))]) hx hb dX8_meanClarity_18 rfl hl (by decide) rfl (fun ls hl => ?_)
    refine lv_iconst (v := 0) hx hb dX8_meanClarity_19 (by decide) ?_
    refine lv_istore_n (lv' := [(3, .int 0), (2, .int 0), (1, .int x6), (0, .ref (E.ad 0))]) hx hb dX8_meanClarity_20 rfl hl (by decide) rfl (fun ls hl => ?_)
    exact j21 FU x6 0 0 g _ _ _ hG (lv_sub hl [3, 2, 1, 0] rfl) h
  · have h := (if_inv h).1 c7
    refine lv_dconst0 hx hb dX8_meanClarity_15 ?_
    exact r_dret C hG hr dX8_meanClarity_16 h
def k8_digestOfMirror_193  (t0 : Int32) (t1 : Int64) (g : G) : Option (Int64 × G) :=
      bd (t1 + t0.toInt64) fun x1 =>
      some (x1, g)
def k8_digestOfMirror  (a1 : Int64) (a3 : Int32) (g : G) : Option (Int64 × G) :=
  (k4_valueOf 22 129 a3 g).bind fun u2 =>
  bd ((a1 * 31) + u2.1.toInt64) fun x3 =>
  (k4_valueOf 22 145 a3 u2.2).bind fun u4 =>
  bd ((x3 * 31) + u4.1.toInt64) fun x5 =>
  (k4_valueOf 22 130 a3 u4.2).bind fun u6 =>
  bd ((x5 * 31) + u6.1.toInt64) fun x7 =>
  (k4_findPlace 22 a3 u6.2).bind fun u8 =>
  bd ((x7 * 31) + u8.toInt64) fun x9 =>
  (k4_valueOf 22 141 a3 u6.2).bind fun u10 =>
  bd ((x9 * 31) + u10.1.toInt64) fun x11 =>
  (k4_valueOf 22 143 a3 u10.2).bind fun u12 =>
  bd ((x11 * 31) + u12.1.toInt64) fun x13 =>
  (k4_valueOf 22 144 a3 u12.2).bind fun u14 =>
  bd ((x13 * 31) + u14.1.toInt64) fun x15 =>
  if (u14.2 22 10) = a3 then
    k8_digestOfMirror_193 1 (x15 * 31) u14.2
  else
    k8_digestOfMirror_193 0 (x15 * 31) u14.2
set_option maxRecDepth 100000 in
set_option maxHeartbeats 4000000 in
theorem m8_digestOfMirror (E : EV) (l : Launch) (a1 : Int64) (a3 : Int32) (g : G) : ∀ u, k8_digestOfMirror a1 a3 g = some u → ML E l yX8_digestOfMirror cX8_digestOfMirror 6 (some .long) 3 0 0 [.ref (E.ad 0), .long a1, .int a3] g u := by
  intro u h
  refine MG.of (by decide +kernel) (Nat.le_of_ble_eq_true rfl) ?_
  intro p e s m args below meth c C hr hnm ls hl hG
  have C : Cx p s m args meth c cX8_digestOfMirror 6 RX8 E := C
  have hx := C.1
  have hb := C.2.1
  have hl : lv_has ls 6 [(0, .ref (E.ad 0)), (1, .long a1), (3, .int a3)] := hl
  unfold k8_digestOfMirror at h
  have j193 : ∀ (t0 : Int32) (t1 : Int64) (g : G) (H : Heap) (locs : List Loc) (ls : Array Slot), Gd E s H locs g [] → lv_has ls 6 [] → k8_digestOfMirror_193 t0 t1 g = some u → W p l e (rmD 3 0 0) s m args below meth c H locs 0 0 (MQ below (QL E s.heap.size u.1 u.2) args s 0 0 (AA E s.heap.size)) (F0 m 193 ls [.int t0, .long t1]) := by
    intro t0 t1 g H locs ls hG hl h
    unfold k8_digestOfMirror_193 at h
    refine lv_i2l hx hb dX8_digestOfMirror_193 rfl ?_
    refine lv_ladd hx hb dX8_digestOfMirror_194 ?_
    refine r_nmL h (fun x1 h => ?_)
    refine lv_lstore (lv' := [(4, .long x1)]) hx hb dX8_digestOfMirror_195 hl (by decide) rfl (fun ls hl => ?_)
    refine lv_lload hx hb dX8_digestOfMirror_197 (lv_at hl 0 rfl) ?_
    exact r_lret C hG hr dX8_digestOfMirror_199 h
  refine lv_lload_n hx hb dX8_digestOfMirror_0 rfl (lv_at hl 1 rfl) ?_
  refine lv_lstore (lv' := [(4, .long a1), (0, .ref (E.ad 0)), (1, .long a1), (3, .int a3)]) hx hb dX8_digestOfMirror_1 hl (by decide) rfl (fun ls hl => ?_)
  refine lv_lload hx hb dX8_digestOfMirror_3 (lv_at hl 0 rfl) ?_
  refine lv_ldc2 (v := 31) hx hb C.2.2.2.1 (C.2.2.2.2.1 _ LC8_235) dX8_digestOfMirror_5 ?_
  refine lv_lmul hx hb dX8_digestOfMirror_8 ?_
  refine lv_aload_n hx hb dX8_digestOfMirror_9 rfl (lv_at hl 1 rfl) ?_
  refine r_getA (j := 21) C hG FX8_58 rfl rfl dX8_digestOfMirror_10 ?_
  refine r_getR (d := 1) C hG FX8_112 rfl rfl (by decide) dX8_digestOfMirror_13 ?_
  refine lv_sipush (v := 129) hx hb dX8_digestOfMirror_16 (by decide) ?_
  refine lv_iload_n hx hb dX8_digestOfMirror_19 rfl (lv_at hl 3 rfl) ?_
  refine r_callVI C hl.1 hG [.int 129, .int a3] [.long (a1 * 31)] (m4_valueOf E l 22 rfl 129 a3 g) LX8_145 rfl KC4 rfl (rm_ok (by decide) (by decide)) (Nat.le_of_ble_eq_true rfl) ⟨Nat.le_refl _, Nat.le_refl _⟩ rfl dX8_digestOfMirror_20 h (fun u2 H locs hG h => ?_)
  refine lv_i2l hx hb dX8_digestOfMirror_23 rfl ?_
  refine lv_ladd hx hb dX8_digestOfMirror_24 ?_
  refine r_nmL h (fun x3 h => ?_)
  refine lv_lstore (lv' := [(4, .long x3), (0, .ref (E.ad 0)), (1, .long a1), (3, .int a3)]) hx hb dX8_digestOfMirror_25 hl (by decide) rfl (fun ls hl => ?_)
  refine lv_lload hx hb dX8_digestOfMirror_27 (lv_at hl 0 rfl) ?_
  refine lv_ldc2 (v := 31) hx hb C.2.2.2.1 (C.2.2.2.2.1 _ LC8_235) dX8_digestOfMirror_29 ?_
  refine lv_lmul hx hb dX8_digestOfMirror_32 ?_
  refine lv_aload_n hx hb dX8_digestOfMirror_33 rfl (lv_at hl 1 rfl) ?_
  refine r_getA (j := 21) C hG FX8_58 rfl rfl dX8_digestOfMirror_34 ?_
  refine r_getR (d := 1) C hG FX8_112 rfl rfl (by decide) dX8_digestOfMirror_37 ?_
  refine lv_sipush (v := 145) hx hb dX8_digestOfMirror_40 (by decide) ?_
  refine lv_iload_n hx hb dX8_digestOfMirror_43 rfl (lv_at hl 3 rfl) ?_
  refine r_callVI C hl.1 hG [.int 145, .int a3] [.long (x3 * 31)] (m4_valueOf E l 22 rfl 145 a3 u2.2) LX8_145 rfl KC4 rfl (rm_ok (by decide) (by decide)) (Nat.le_of_ble_eq_true rfl) ⟨Nat.le_refl _, Nat.le_refl _⟩ rfl dX8_digestOfMirror_44 h (fun u4 H locs hG h => ?_)
  refine lv_i2l hx hb dX8_digestOfMirror_47 rfl ?_
  refine lv_ladd hx hb dX8_digestOfMirror_48 ?_
  refine r_nmL h (fun x5 h => ?_)
  refine lv_lstore (lv' := [(4, .long x5), (0, .ref (E.ad 0)), (1, .long a1), (3, .int a3)]) hx hb dX8_digestOfMirror_49 hl (by decide) rfl (fun ls hl => ?_)
  refine lv_lload hx hb dX8_digestOfMirror_51 (lv_at hl 0 rfl) ?_
  refine lv_ldc2 (v := 31) hx hb C.2.2.2.1 (C.2.2.2.2.1 _ LC8_235) dX8_digestOfMirror_53 ?_
  refine lv_lmul hx hb dX8_digestOfMirror_56 ?_
  refine lv_aload_n hx hb dX8_digestOfMirror_57 rfl (lv_at hl 1 rfl) ?_
  refine r_getA (j := 21) C hG FX8_58 rfl rfl dX8_digestOfMirror_58 ?_
  refine r_getR (d := 1) C hG FX8_112 rfl rfl (by decide) dX8_digestOfMirror_61 ?_
  refine lv_sipush (v := 130) hx hb dX8_digestOfMirror_64 (by decide) ?_
  refine lv_iload_n hx hb dX8_digestOfMirror_67 rfl (lv_at hl 3 rfl) ?_
  refine r_callVI C hl.1 hG [.int 130, .int a3] [.long (x5 * 31)] (m4_valueOf E l 22 rfl 130 a3 u4.2) LX8_145 rfl KC4 rfl (rm_ok (by decide) (by decide)) (Nat.le_of_ble_eq_true rfl) ⟨Nat.le_refl _, Nat.le_refl _⟩ rfl dX8_digestOfMirror_68 h (fun u6 H locs hG h => ?_)
  refine lv_i2l hx hb dX8_digestOfMirror_71 rfl ?_
  refine lv_ladd hx hb dX8_digestOfMirror_72 ?_
  refine r_nmL h (fun x7 h => ?_)
  refine lv_lstore (lv' := [(4, .long x7), (0, .ref (E.ad 0)), (1, .long a1), (3, .int a3)]) hx hb dX8_digestOfMirror_73 hl (by decide) rfl (fun ls hl => ?_)
  refine lv_lload hx hb dX8_digestOfMirror_75 (lv_at hl 0 rfl) ?_
  refine lv_ldc2 (v := 31) hx hb C.2.2.2.1 (C.2.2.2.2.1 _ LC8_235) dX8_digestOfMirror_77 ?_
  refine lv_lmul hx hb dX8_digestOfMirror_80 ?_
  refine lv_aload_n hx hb dX8_digestOfMirror_81 rfl (lv_at hl 1 rfl) ?_
  refine r_getA (j := 21) C hG FX8_58 rfl rfl dX8_digestOfMirror_82 ?_
  refine r_getR (d := 1) C hG FX8_112 rfl rfl (by decide) dX8_digestOfMirror_85 ?_
  refine lv_iload_n hx hb dX8_digestOfMirror_88 rfl (lv_at hl 3 rfl) ?_
  refine r_callVIP C hl.1 hG [.int a3] [.long (x7 * 31)] (m4_findPlace E l 22 rfl a3 u6.2) LX8_149 rfl KC4 rfl (rm_ok (by decide) (by decide)) (Nat.le_of_ble_eq_true rfl) ⟨Nat.le_refl _, Nat.le_refl _⟩ rfl dX8_digestOfMirror_89 h (fun u8 H locs hG h => ?_)
  refine lv_i2l hx hb dX8_digestOfMirror_92 rfl ?_
  refine lv_ladd hx hb dX8_digestOfMirror_93 ?_
  refine r_nmL h (fun x9 h => ?_)
  refine lv_lstore (lv' := [(4, .long x9), (0, .ref (E.ad 0)), (1, .long a1), (3, .int a3)]) hx hb dX8_digestOfMirror_94 hl (by decide) rfl (fun ls hl => ?_)
  refine lv_lload hx hb dX8_digestOfMirror_96 (lv_at hl 0 rfl) ?_
  refine lv_ldc2 (v := 31) hx hb C.2.2.2.1 (C.2.2.2.2.1 _ LC8_235) dX8_digestOfMirror_98 ?_
  refine lv_lmul hx hb dX8_digestOfMirror_101 ?_
  refine lv_aload_n hx hb dX8_digestOfMirror_102 rfl (lv_at hl 1 rfl) ?_
  refine r_getA (j := 21) C hG FX8_58 rfl rfl dX8_digestOfMirror_103 ?_
  refine r_getR (d := 1) C hG FX8_112 rfl rfl (by decide) dX8_digestOfMirror_106 ?_
  refine lv_sipush (v := 141) hx hb dX8_digestOfMirror_109 (by decide) ?_
  refine lv_iload_n hx hb dX8_digestOfMirror_112 rfl (lv_at hl 3 rfl) ?_
  refine r_callVI C hl.1 hG [.int 141, .int a3] [.long (x9 * 31)] (m4_valueOf E l 22 rfl 141 a3 u6.2) LX8_145 rfl KC4 rfl (rm_ok (by decide) (by decide)) (Nat.le_of_ble_eq_true rfl) ⟨Nat.le_refl _, Nat.le_refl _⟩ rfl dX8_digestOfMirror_113 h (fun u10 H locs hG h => ?_)
  refine lv_i2l hx hb dX8_digestOfMirror_116 rfl ?_
  refine lv_ladd hx hb dX8_digestOfMirror_117 ?_
  refine r_nmL h (fun x11 h => ?_)
  refine lv_lstore (lv' := [(4, .long x11), (0, .ref (E.ad 0)), (1, .long a1), (3, .int a3)]) hx hb dX8_digestOfMirror_118 hl (by decide) rfl (fun ls hl => ?_)
  refine lv_lload hx hb dX8_digestOfMirror_120 (lv_at hl 0 rfl) ?_
  refine lv_ldc2 (v := 31) hx hb C.2.2.2.1 (C.2.2.2.2.1 _ LC8_235) dX8_digestOfMirror_122 ?_
  refine lv_lmul hx hb dX8_digestOfMirror_125 ?_
  refine lv_aload_n hx hb dX8_digestOfMirror_126 rfl (lv_at hl 1 rfl) ?_
  refine r_getA (j := 21) C hG FX8_58 rfl rfl dX8_digestOfMirror_127 ?_
  refine r_getR (d := 1) C hG FX8_112 rfl rfl (by decide) dX8_digestOfMirror_130 ?_
  refine lv_sipush (v := 143) hx hb dX8_digestOfMirror_133 (by decide) ?_
  refine lv_iload_n hx hb dX8_digestOfMirror_136 rfl (lv_at hl 3 rfl) ?_
  refine r_callVI C hl.1 hG [.int 143, .int a3] [.long (x11 * 31)] (m4_valueOf E l 22 rfl 143 a3 u10.2) LX8_145 rfl KC4 rfl (rm_ok (by decide) (by decide)) (Nat.le_of_ble_eq_true rfl) ⟨Nat.le_refl _, Nat.le_refl _⟩ rfl dX8_digestOfMirror_137 h (fun u12 H locs hG h => ?_)
  refine lv_i2l hx hb dX8_digestOfMirror_140 rfl ?_
  refine lv_ladd hx hb dX8_digestOfMirror_141 ?_
  refine r_nmL h (fun x13 h => ?_)
  refine lv_lstore (lv' := [(4, .long x13), (0, .ref (E.ad 0)), (1, .long a1), (3, .int a3)]) hx hb dX8_digestOfMirror_142 hl (by decide) rfl (fun ls hl => ?_)
  refine lv_lload hx hb dX8_digestOfMirror_144 (lv_at hl 0 rfl) ?_
  refine lv_ldc2 (v := 31) hx hb C.2.2.2.1 (C.2.2.2.2.1 _ LC8_235) dX8_digestOfMirror_146 ?_
  refine lv_lmul hx hb dX8_digestOfMirror_149 ?_
  refine lv_aload_n hx hb dX8_digestOfMirror_150 rfl (lv_at hl 1 rfl) ?_
  refine r_getA (j := 21) C hG FX8_58 rfl rfl dX8_digestOfMirror_151 ?_
  refine r_getR (d := 1) C hG FX8_112 rfl rfl (by decide) dX8_digestOfMirror_154 ?_
  refine lv_sipush (v := 144) hx hb dX8_digestOfMirror_157 (by decide) ?_
  refine lv_iload_n hx hb dX8_digestOfMirror_160 rfl (lv_at hl 3 rfl) ?_
  refine r_callVI C hl.1 hG [.int 144, .int a3] [.long (x13 * 31)] (m4_valueOf E l 22 rfl 144 a3 u12.2) LX8_145 rfl KC4 rfl (rm_ok (by decide) (by decide)) (Nat.le_of_ble_eq_true rfl) ⟨Nat.le_refl _, Nat.le_refl _⟩ rfl dX8_digestOfMirror_161 h (fun u14 H locs hG h => ?_)
  refine lv_i2l hx hb dX8_digestOfMirror_164 rfl ?_
  refine lv_ladd hx hb dX8_digestOfMirror_165 ?_
  refine r_nmL h (fun x15 h => ?_)
  refine lv_lstore (lv' := [(4, .long x15), (0, .ref (E.ad 0)), (1, .long a1), (3, .int a3)]) hx hb dX8_digestOfMirror_166 hl (by decide) rfl (fun ls hl => ?_)
  refine lv_lload hx hb dX8_digestOfMirror_168 (lv_at hl 0 rfl) ?_
  refine lv_ldc2 (v := 31) hx hb C.2.2.2.1 (C.2.2.2.2.1 _ LC8_235) dX8_digestOfMirror_170 ?_
  refine lv_lmul hx hb dX8_digestOfMirror_173 ?_
  refine lv_aload_n hx hb dX8_digestOfMirror_174 rfl (lv_at hl 1 rfl) ?_
  refine r_getA (j := 21) C hG FX8_58 rfl rfl dX8_digestOfMirror_175 ?_
  refine r_getR (d := 1) C hG FX8_112 rfl rfl (by decide) dX8_digestOfMirror_178 ?_
  refine r_getI C hG FX8_152 rfl rfl dX8_digestOfMirror_181 ?_
  refine lv_iload_n hx hb dX8_digestOfMirror_184 rfl (lv_at hl 3 rfl) ?_
  refine lv_icmp_ne (tgt := 192) hx hb dX8_digestOfMirror_185 (by decide) (fun c16 => ?_) (fun c16 => ?_)
  · have h := (if_inv h).2 c16
    refine lv_iconst (v := 0) hx hb dX8_digestOfMirror_192 (by decide) ?_
    exact j193 0 (x15 * 31) u14.2 _ _ _ hG (lv_sub hl [] rfl) h
  · have h := (if_inv h).1 c16
    refine lv_iconst (v := 1) hx hb dX8_digestOfMirror_188 (by decide) ?_
    refine lv_goto (tgt := 193) hx hb dX8_digestOfMirror_189 (by decide) ?_
    exact j193 1 (x15 * 31) u14.2 _ _ _ hG (lv_sub hl [] rfl) h
def k8_digest_163  : Nat → Int64 → Int32 → G → Option (Int64 × G)
  | 0, _, _, _ => none
  | f + 1, v1, v3, g =>
        if (g 30 2) ≤ v3 then
          some (v1, g)
        else
          (k3_kindIn 30 v3 g).bind fun u2 =>
          bd ((v1 * 31) + u2.toInt64) fun x3 =>
          (k3_mirrorIn 30 v3 g).bind fun u4 =>
          bd ((x3 * 31) + u4.toInt64) fun x5 =>
          bd (v3 + 1) fun x6 =>
          k8_digest_163 f x5 x6 g
def k8_digest_98  : Nat → Int64 → Int32 → G → Option (Int64 × G)
  | 0, _, _, _ => none
  | f + 1, v1, v3, g =>
        if (g 22 7) ≤ v3 then
          (k8_jobs g).bind fun u8 =>
          bd ((v1 * 31) + u8.toInt64) fun x9 =>
          (k8_jobsDone g).bind fun u10 =>
          bd ((x9 * 31) + u10.toInt64) fun x11 =>
          (k8_minutesToGo g).bind fun u12 =>
          bd ((x11 * 31) + u12.toInt64) fun x13 =>
          k8_digest_163 FU x13 0 g
        else
          (k8_digestOfMirror v1 v3 g).bind fun u14 =>
          bd u14.1 fun x15 =>
          bd (v3 + 1) fun x16 =>
          k8_digest_98 f x15 x16 u14.2
def k8_digest_93  (t0 : Int32) (t1 : Int64) (g : G) : Option (Int64 × G) :=
      bd (t1 + t0.toInt64) fun x17 =>
      k8_digest_98 FU x17 0 g
def k8_digest  (g : G) : Option (Int64 × G) :=
  (k8_mirrors g).bind fun u18 =>
  bd ((983 * 31) + u18.toInt64) fun x19 =>
  (k8_orders g).bind fun u20 =>
  bd ((x19 * 31) + u20.toInt64) fun x21 =>
  (k8_minutes g).bind fun u22 =>
  bd ((x21 * 31) + u22.toInt64) fun x23 =>
  (k8_tapeBytes g).bind fun u24 =>
  bd ((x23 * 31) + u24.toInt64) fun x25 =>
  (k8_lightAtEnd g).bind fun u26 =>
  bd ((x25 * 31) + u26.1.toInt64) fun x27 =>
  (k8_tiltAtEnd u26.2).bind fun u28 =>
  bd ((x27 * 31) + u28.1.toInt64) fun x29 =>
  (k8_isSeen u28.2).bind fun u30 =>
  if u30.1 = 0 then
    k8_digest_93 0 (x29 * 31) u30.2
  else
    k8_digest_93 1 (x29 * 31) u30.2
set_option maxRecDepth 100000 in
set_option maxHeartbeats 4000000 in
theorem m8_digest (E : EV) (l : Launch) (g : G) : ∀ u, k8_digest g = some u → ML E l yX8_digest cX8_digest 4 (some .long) 4 0 0 [.ref (E.ad 0)] g u := by
  intro u h
  refine MG.of (by decide +kernel) (Nat.le_of_ble_eq_true rfl) ?_
  intro p e s m args below meth c C hr hnm ls hl hG
  have C : Cx p s m args meth c cX8_digest 4 RX8 E := C
  have hx := C.1
  have hb := C.2.1
  have hl : lv_has ls 4 [(0, .ref (E.ad 0))] := hl
  unfold k8_digest at h
  have j163 : ∀ f : Nat, ∀ (v1 : Int64) (v3 : Int32) (g : G) (H : Heap) (locs : List Loc) (ls : Array Slot), Gd E s H locs g [] → lv_has ls 4 [(0, .ref (E.ad 0)), (1, .long v1), (3, .int v3)] → k8_digest_163 f v1 v3 g = some u → W p l e (rmD 4 0 0) s m args below meth c H locs 0 0 (MQ below (QL E s.heap.size u.1 u.2) args s 0 0 (AA E s.heap.size)) (F0 m 163 ls []) := by
    intro f
    induction f with
    | zero =>
      intro v1 v3 g H locs ls hG hl h
      unfold k8_digest_163 at h
      cases h
    | succ f ih =>
      intro v1 v3 g H locs ls hG hl h
      unfold k8_digest_163 at h
      refine lv_iload_n hx hb dX8_digest_163 rfl (lv_at hl 2 rfl) ?_
      refine lv_aload_n hx hb dX8_digest_164 rfl (lv_at hl 0 rfl) ?_
      refine r_getA (j := 21) C hG FX8_58 rfl rfl dX8_digest_165 ?_
      refine r_getR (d := 9) C hG FX8_163 rfl rfl (by decide) dX8_digest_168 ?_
      refine r_getI C hG FX8_167 rfl rfl dX8_digest_171 ?_
      refine lv_icmp_ge (tgt := 221) hx hb dX8_digest_174 (by decide) (fun c1 => ?_) (fun c1 => ?_)
      · have h := (if_inv h).1 c1
        refine lv_lload_n hx hb dX8_digest_221 rfl (lv_at hl 1 rfl) ?_
        exact r_lret C hG hr dX8_digest_222 h
      · have h := (if_inv h).2 c1
        refine lv_lload_n hx hb dX8_digest_177 rfl (lv_at hl 1 rfl) ?_
        refine lv_ldc2 (v := 31) hx hb C.2.2.2.1 (C.2.2.2.2.1 _ LC8_235) dX8_digest_178 ?_
        refine lv_lmul hx hb dX8_digest_181 ?_
        refine lv_aload_n hx hb dX8_digest_182 rfl (lv_at hl 0 rfl) ?_
        refine r_getA (j := 21) C hG FX8_58 rfl rfl dX8_digest_183 ?_
        refine r_getR (d := 9) C hG FX8_163 rfl rfl (by decide) dX8_digest_186 ?_
        refine lv_iload_n hx hb dX8_digest_189 rfl (lv_at hl 2 rfl) ?_
        refine r_callVIP C hl.1 hG [.int v3] [.long (v1 * 31)] (m3_kindIn E l 30 rfl v3 g) LX8_178 rfl KC3 rfl (rm_ok (by decide) (by decide)) (Nat.le_of_ble_eq_true rfl) ⟨Nat.le_refl _, Nat.le_refl _⟩ rfl dX8_digest_190 h (fun u2 H locs hG h => ?_)
        refine lv_i2l hx hb dX8_digest_193 rfl ?_
        refine lv_ladd hx hb dX8_digest_194 ?_
        refine r_nmL h (fun x3 h => ?_)
        refine lv_lstore_n (lv' := [(1, .long x3), (0, .ref (E.ad 0)), (3, .int v3)]) hx hb dX8_digest_195 rfl hl (by decide) rfl (fun ls hl => ?_)
        refine lv_lload_n hx hb dX8_digest_196 rfl (lv_at hl 0 rfl) ?_
        refine lv_ldc2 (v := 31) hx hb C.2.2.2.1 (C.2.2.2.2.1 _ LC8_235) dX8_digest_197 ?_
        refine lv_lmul hx hb dX8_digest_200 ?_
        refine lv_aload_n hx hb dX8_digest_201 rfl (lv_at hl 1 rfl) ?_
        refine r_getA (j := 21) C hG FX8_58 rfl rfl dX8_digest_202 ?_
        refine r_getR (d := 9) C hG FX8_163 rfl rfl (by decide) dX8_digest_205 ?_
        refine lv_iload_n hx hb dX8_digest_208 rfl (lv_at hl 2 rfl) ?_
        refine r_callVIP C hl.1 hG [.int v3] [.long (x3 * 31)] (m3_mirrorIn E l 30 rfl v3 g) LX8_181 rfl KC3 rfl (rm_ok (by decide) (by decide)) (Nat.le_of_ble_eq_true rfl) ⟨Nat.le_refl _, Nat.le_refl _⟩ rfl dX8_digest_209 h (fun u4 H locs hG h => ?_)
        refine lv_i2l hx hb dX8_digest_212 rfl ?_
        refine lv_ladd hx hb dX8_digest_213 ?_
        refine r_nmL h (fun x5 h => ?_)
        refine lv_lstore_n (lv' := [(1, .long x5), (0, .ref (E.ad 0)), (3, .int v3)]) hx hb dX8_digest_214 rfl hl (by decide) rfl (fun ls hl => ?_)
        refine r_iinc (w := 1) (lv' := fun x6 => [(3, .int x6), (1, .long x5), (0, .ref (E.ad 0))]) C dX8_digest_215 hl (k := 2) rfl (by decide) (by decide) (fun _ => rfl) h (fun x6 ls hl h => ?_)
        refine lv_goto (tgt := 163) hx hb dX8_digest_218 (by decide) ?_
        exact ih x5 x6 g _ _ _ hG (lv_sub hl [2, 1, 0] rfl) h
  have j98 : ∀ f : Nat, ∀ (v1 : Int64) (v3 : Int32) (g : G) (H : Heap) (locs : List Loc) (ls : Array Slot), Gd E s H locs g [] → lv_has ls 4 [(0, .ref (E.ad 0)), (1, .long v1), (3, .int v3)] → k8_digest_98 f v1 v3 g = some u → W p l e (rmD 4 0 0) s m args below meth c H locs 0 0 (MQ below (QL E s.heap.size u.1 u.2) args s 0 0 (AA E s.heap.size)) (F0 m 98 ls []) := by
    intro f
    induction f with
    | zero =>
      intro v1 v3 g H locs ls hG hl h
      unfold k8_digest_98 at h
      cases h
    | succ f ih =>
      intro v1 v3 g H locs ls hG hl h
      unfold k8_digest_98 at h
      refine lv_iload_n hx hb dX8_digest_98 rfl (lv_at hl 2 rfl) ?_
      refine lv_aload_n hx hb dX8_digest_99 rfl (lv_at hl 0 rfl) ?_
      refine r_getA (j := 21) C hG FX8_58 rfl rfl dX8_digest_100 ?_
      refine r_getR (d := 1) C hG FX8_112 rfl rfl (by decide) dX8_digest_103 ?_
      refine r_getI C hG FX8_116 rfl rfl dX8_digest_106 ?_
      refine lv_icmp_ge (tgt := 125) hx hb dX8_digest_109 (by decide) (fun c7 => ?_) (fun c7 => ?_)
      · have h := (if_inv h).1 c7
        refine lv_lload_n hx hb dX8_digest_125 rfl (lv_at hl 1 rfl) ?_
        refine lv_ldc2 (v := 31) hx hb C.2.2.2.1 (C.2.2.2.2.1 _ LC8_235) dX8_digest_126 ?_
        refine lv_lmul hx hb dX8_digest_129 ?_
        refine lv_aload_n hx hb dX8_digest_130 rfl (lv_at hl 0 rfl) ?_
        refine r_callVIP C hl.1 hG [] [.long (v1 * 31)] (m8_jobs E l g) LX8_261 rfl KC8 rfl (rm_ok (by decide) (by decide)) (Nat.le_of_ble_eq_true rfl) ⟨Nat.le_refl _, Nat.le_refl _⟩ rfl dX8_digest_131 h (fun u8 H locs hG h => ?_)
        refine lv_i2l hx hb dX8_digest_134 rfl ?_
        refine lv_ladd hx hb dX8_digest_135 ?_
        refine r_nmL h (fun x9 h => ?_)
        refine lv_lstore_n (lv' := [(1, .long x9), (0, .ref (E.ad 0)), (3, .int v3)]) hx hb dX8_digest_136 rfl hl (by decide) rfl (fun ls hl => ?_)
        refine lv_lload_n hx hb dX8_digest_137 rfl (lv_at hl 0 rfl) ?_
        refine lv_ldc2 (v := 31) hx hb C.2.2.2.1 (C.2.2.2.2.1 _ LC8_235) dX8_digest_138 ?_
        refine lv_lmul hx hb dX8_digest_141 ?_
        refine lv_aload_n hx hb dX8_digest_142 rfl (lv_at hl 1 rfl) ?_
        refine r_callVIP C hl.1 hG [] [.long (x9 * 31)] (m8_jobsDone E l g) LX8_264 rfl KC8 rfl (rm_ok (by decide) (by decide)) (Nat.le_of_ble_eq_true rfl) ⟨Nat.le_refl _, Nat.le_refl _⟩ rfl dX8_digest_143 h (fun u10 H locs hG h => ?_)
        refine lv_i2l hx hb dX8_digest_146 rfl ?_
        refine lv_ladd hx hb dX8_digest_147 ?_
        refine r_nmL h (fun x11 h => ?_)
        refine lv_lstore_n (lv' := [(1, .long x11), (0, .ref (E.ad 0)), (3, .int v3)]) hx hb dX8_digest_148 rfl hl (by decide) rfl (fun ls hl => ?_)
        refine lv_lload_n hx hb dX8_digest_149 rfl (lv_at hl 0 rfl) ?_
        refine lv_ldc2 (v := 31) hx hb C.2.2.2.1 (C.2.2.2.2.1 _ LC8_235) dX8_digest_150 ?_
        refine lv_lmul hx hb dX8_digest_153 ?_
        refine lv_aload_n hx hb dX8_digest_154 rfl (lv_at hl 1 rfl) ?_
        refine r_callVIP C hl.1 hG [] [.long (x11 * 31)] (m8_minutesToGo E l g) LX8_267 rfl KC8 rfl (rm_ok (by decide) (by decide)) (Nat.le_of_ble_eq_true rfl) ⟨Nat.le_refl _, Nat.le_refl _⟩ rfl dX8_digest_155 h (fun u12 H locs hG h => ?_)
        refine lv_i2l hx hb dX8_digest_158 rfl ?_
        refine lv_ladd hx hb dX8_digest_159 ?_
        refine r_nmL h (fun x13 h => ?_)
        refine lv_lstore_n (lv' := [(1, .long x13), (0, .ref (E.ad 0)), (3, .int v3)]) hx hb dX8_digest_160 rfl hl (by decide) rfl (fun ls hl => ?_)
        refine lv_iconst (v := 0) hx hb dX8_digest_161 (by decide) ?_
        refine lv_istore_n (lv' := [(3, .int 0), (1, .long x13), (0, .ref (E.ad 0))]) hx hb dX8_digest_162 rfl hl (by decide) rfl (fun ls hl => ?_)
        exact j163 FU x13 0 g _ _ _ hG (lv_sub hl [2, 1, 0] rfl) h
      · have h := (if_inv h).2 c7
        refine lv_aload_n hx hb dX8_digest_112 rfl (lv_at hl 0 rfl) ?_
        refine lv_lload_n hx hb dX8_digest_113 rfl (lv_at hl 1 rfl) ?_
        refine lv_iload_n hx hb dX8_digest_114 rfl (lv_at hl 2 rfl) ?_
        refine r_callVL C hl.1 hG [.long v1, .int v3] [] (m8_digestOfMirror E l v1 v3 g) LX8_257 rfl KC8 rfl (rm_ok (by decide) (by decide)) (Nat.le_of_ble_eq_true rfl) ⟨Nat.le_refl _, Nat.le_refl _⟩ rfl dX8_digest_115 h (fun u14 H locs hG h => ?_)
        refine r_nmL h (fun x15 h => ?_)
        refine lv_lstore_n (lv' := [(1, .long x15), (0, .ref (E.ad 0)), (3, .int v3)]) hx hb dX8_digest_118 rfl hl (by decide) rfl (fun ls hl => ?_)
        refine r_iinc (w := 1) (lv' := fun x16 => [(3, .int x16), (1, .long x15), (0, .ref (E.ad 0))]) C dX8_digest_119 hl (k := 2) rfl (by decide) (by decide) (fun _ => rfl) h (fun x16 ls hl h => ?_)
        refine lv_goto (tgt := 98) hx hb dX8_digest_122 (by decide) ?_
        exact ih x15 x16 u14.2 _ _ _ hG (lv_sub hl [2, 1, 0] rfl) h
  have j93 : ∀ (t0 : Int32) (t1 : Int64) (g : G) (H : Heap) (locs : List Loc) (ls : Array Slot), Gd E s H locs g [] → lv_has ls 4 [(0, .ref (E.ad 0))] → k8_digest_93 t0 t1 g = some u → W p l e (rmD 4 0 0) s m args below meth c H locs 0 0 (MQ below (QL E s.heap.size u.1 u.2) args s 0 0 (AA E s.heap.size)) (F0 m 93 ls [.int t0, .long t1]) := by
    intro t0 t1 g H locs ls hG hl h
    unfold k8_digest_93 at h
    refine lv_i2l hx hb dX8_digest_93 rfl ?_
    refine lv_ladd hx hb dX8_digest_94 ?_
    refine r_nmL h (fun x17 h => ?_)
    refine lv_lstore_n (lv' := [(1, .long x17), (0, .ref (E.ad 0))]) hx hb dX8_digest_95 rfl hl (by decide) rfl (fun ls hl => ?_)
    refine lv_iconst (v := 0) hx hb dX8_digest_96 (by decide) ?_
    refine lv_istore_n (lv' := [(3, .int 0), (1, .long x17), (0, .ref (E.ad 0))]) hx hb dX8_digest_97 rfl hl (by decide) rfl (fun ls hl => ?_)
    exact j98 FU x17 0 g _ _ _ hG (lv_sub hl [2, 1, 0] rfl) h
  refine lv_ldc2 (v := 983) hx hb C.2.2.2.1 (C.2.2.2.2.1 _ LC8_233) dX8_digest_0 ?_
  refine lv_lstore_n (lv' := [(1, .long 983), (0, .ref (E.ad 0))]) hx hb dX8_digest_3 rfl hl (by decide) rfl (fun ls hl => ?_)
  refine lv_lload_n hx hb dX8_digest_4 rfl (lv_at hl 0 rfl) ?_
  refine lv_ldc2 (v := 31) hx hb C.2.2.2.1 (C.2.2.2.2.1 _ LC8_235) dX8_digest_5 ?_
  refine lv_lmul hx hb dX8_digest_8 ?_
  refine lv_aload_n hx hb dX8_digest_9 rfl (lv_at hl 1 rfl) ?_
  refine r_callVIP C hl.1 hG [] [.long (983 * 31)] (m8_mirrors E l g) LX8_237 rfl KC8 rfl (rm_ok (by decide) (by decide)) (Nat.le_of_ble_eq_true rfl) ⟨Nat.le_refl _, Nat.le_refl _⟩ rfl dX8_digest_10 h (fun u18 H locs hG h => ?_)
  refine lv_i2l hx hb dX8_digest_13 rfl ?_
  refine lv_ladd hx hb dX8_digest_14 ?_
  refine r_nmL h (fun x19 h => ?_)
  refine lv_lstore_n (lv' := [(1, .long x19), (0, .ref (E.ad 0))]) hx hb dX8_digest_15 rfl hl (by decide) rfl (fun ls hl => ?_)
  refine lv_lload_n hx hb dX8_digest_16 rfl (lv_at hl 0 rfl) ?_
  refine lv_ldc2 (v := 31) hx hb C.2.2.2.1 (C.2.2.2.2.1 _ LC8_235) dX8_digest_17 ?_
  refine lv_lmul hx hb dX8_digest_20 ?_
  refine lv_aload_n hx hb dX8_digest_21 rfl (lv_at hl 1 rfl) ?_
  refine r_callVIP C hl.1 hG [] [.long (x19 * 31)] (m8_orders E l g) LX8_240 rfl KC8 rfl (rm_ok (by decide) (by decide)) (Nat.le_of_ble_eq_true rfl) ⟨Nat.le_refl _, Nat.le_refl _⟩ rfl dX8_digest_22 h (fun u20 H locs hG h => ?_)
  refine lv_i2l hx hb dX8_digest_25 rfl ?_
  refine lv_ladd hx hb dX8_digest_26 ?_
  refine r_nmL h (fun x21 h => ?_)
  refine lv_lstore_n (lv' := [(1, .long x21), (0, .ref (E.ad 0))]) hx hb dX8_digest_27 rfl hl (by decide) rfl (fun ls hl => ?_)
  refine lv_lload_n hx hb dX8_digest_28 rfl (lv_at hl 0 rfl) ?_
  refine lv_ldc2 (v := 31) hx hb C.2.2.2.1 (C.2.2.2.2.1 _ LC8_235) dX8_digest_29 ?_
  refine lv_lmul hx hb dX8_digest_32 ?_
  refine lv_aload_n hx hb dX8_digest_33 rfl (lv_at hl 1 rfl) ?_
  refine r_callVIP C hl.1 hG [] [.long (x21 * 31)] (m8_minutes E l g) LX8_242 rfl KC8 rfl (rm_ok (by decide) (by decide)) (Nat.le_of_ble_eq_true rfl) ⟨Nat.le_refl _, Nat.le_refl _⟩ rfl dX8_digest_34 h (fun u22 H locs hG h => ?_)
  refine lv_i2l hx hb dX8_digest_37 rfl ?_
  refine lv_ladd hx hb dX8_digest_38 ?_
  refine r_nmL h (fun x23 h => ?_)
  refine lv_lstore_n (lv' := [(1, .long x23), (0, .ref (E.ad 0))]) hx hb dX8_digest_39 rfl hl (by decide) rfl (fun ls hl => ?_)
  refine lv_lload_n hx hb dX8_digest_40 rfl (lv_at hl 0 rfl) ?_
  refine lv_ldc2 (v := 31) hx hb C.2.2.2.1 (C.2.2.2.2.1 _ LC8_235) dX8_digest_41 ?_
  refine lv_lmul hx hb dX8_digest_44 ?_
  refine lv_aload_n hx hb dX8_digest_45 rfl (lv_at hl 1 rfl) ?_
  refine r_callVIP C hl.1 hG [] [.long (x23 * 31)] (m8_tapeBytes E l g) LX8_245 rfl KC8 rfl (rm_ok (by decide) (by decide)) (Nat.le_of_ble_eq_true rfl) ⟨Nat.le_refl _, Nat.le_refl _⟩ rfl dX8_digest_46 h (fun u24 H locs hG h => ?_)
  refine lv_i2l hx hb dX8_digest_49 rfl ?_
  refine lv_ladd hx hb dX8_digest_50 ?_
  refine r_nmL h (fun x25 h => ?_)
  refine lv_lstore_n (lv' := [(1, .long x25), (0, .ref (E.ad 0))]) hx hb dX8_digest_51 rfl hl (by decide) rfl (fun ls hl => ?_)
  refine lv_lload_n hx hb dX8_digest_52 rfl (lv_at hl 0 rfl) ?_
  refine lv_ldc2 (v := 31) hx hb C.2.2.2.1 (C.2.2.2.2.1 _ LC8_235) dX8_digest_53 ?_
  refine lv_lmul hx hb dX8_digest_56 ?_
  refine lv_aload_n hx hb dX8_digest_57 rfl (lv_at hl 1 rfl) ?_
  refine r_callVI C hl.1 hG [] [.long (x25 * 31)] (m8_lightAtEnd E l g) LX8_248 rfl KC8 rfl (rm_ok (by decide) (by decide)) (Nat.le_of_ble_eq_true rfl) ⟨Nat.le_refl _, Nat.le_refl _⟩ rfl dX8_digest_58 h (fun u26 H locs hG h => ?_)
  refine lv_i2l hx hb dX8_digest_61 rfl ?_
  refine lv_ladd hx hb dX8_digest_62 ?_
  refine r_nmL h (fun x27 h => ?_)
  refine lv_lstore_n (lv' := [(1, .long x27), (0, .ref (E.ad 0))]) hx hb dX8_digest_63 rfl hl (by decide) rfl (fun ls hl => ?_)
  refine lv_lload_n hx hb dX8_digest_64 rfl (lv_at hl 0 rfl) ?_
  refine lv_ldc2 (v := 31) hx hb C.2.2.2.1 (C.2.2.2.2.1 _ LC8_235) dX8_digest_65 ?_
  refine lv_lmul hx hb dX8_digest_68 ?_
  refine lv_aload_n hx hb dX8_digest_69 rfl (lv_at hl 1 rfl) ?_
  refine r_callVI C hl.1 hG [] [.long (x27 * 31)] (m8_tiltAtEnd E l u26.2) LX8_251 rfl KC8 rfl (rm_ok (by decide) (by decide)) (Nat.le_of_ble_eq_true rfl) ⟨Nat.le_refl _, Nat.le_refl _⟩ rfl dX8_digest_70 h (fun u28 H locs hG h => ?_)
  refine lv_i2l hx hb dX8_digest_73 rfl ?_
  refine lv_ladd hx hb dX8_digest_74 ?_
  refine r_nmL h (fun x29 h => ?_)
  refine lv_lstore_n (lv' := [(1, .long x29), (0, .ref (E.ad 0))]) hx hb dX8_digest_75 rfl hl (by decide) rfl (fun ls hl => ?_)
  refine lv_lload_n hx hb dX8_digest_76 rfl (lv_at hl 0 rfl) ?_
  refine lv_ldc2 (v := 31) hx hb C.2.2.2.1 (C.2.2.2.2.1 _ LC8_235) dX8_digest_77 ?_
  refine lv_lmul hx hb dX8_digest_80 ?_
  refine lv_aload_n hx hb dX8_digest_81 rfl (lv_at hl 1 rfl) ?_
  refine r_callVI C hl.1 hG [] [.long (x29 * 31)] (m8_isSeen E l u28.2) LX8_254 rfl KC8 rfl (rm_ok (by decide) (by decide)) (Nat.le_of_ble_eq_true rfl) ⟨Nat.le_refl _, Nat.le_refl _⟩ rfl dX8_digest_82 h (fun u30 H locs hG h => ?_)
  refine lv_if_eq (tgt := 92) hx hb dX8_digest_85 (by decide) (fun c31 => ?_) (fun c31 => ?_)
  · have h := (if_inv h).1 c31
    refine lv_iconst (v := 0) hx hb dX8_digest_92 (by decide) ?_
    exact j93 0 (x29 * 31) u30.2 _ _ _ hG (lv_sub hl [1] rfl) h
  · have h := (if_inv h).2 c31
    refine lv_iconst (v := 1) hx hb dX8_digest_88 (by decide) ?_
    refine lv_goto (tgt := 93) hx hb dX8_digest_89 (by decide) ?_
    exact j93 1 (x29 * 31) u30.2 _ _ _ hG (lv_sub hl [1] rfl) h
def k8_lightIfTurned  (a1 : Int32) (a2 : Int32) (g : G) : Option (Int32 × G) :=
  (k4_turn 35 a1 a2 g).bind fun g1 =>
  (k4_lastLight 35 g1).bind fun u2 =>
  some (u2.1, u2.2)
set_option maxRecDepth 100000 in
set_option maxHeartbeats 4000000 in
theorem m8_lightIfTurned (E : EV) (l : Launch) (a1 : Int32) (a2 : Int32) (g : G) : ∀ u, k8_lightIfTurned a1 a2 g = some u → MI E l yX8_lightIfTurned cX8_lightIfTurned 3 (some .int) 3 0 0 [.ref (E.ad 0), .int a1, .int a2] g u := by
  intro u h
  refine MG.of (by decide +kernel) (Nat.le_of_ble_eq_true rfl) ?_
  intro p e s m args below meth c C hr hnm ls hl hG
  have C : Cx p s m args meth c cX8_lightIfTurned 3 RX8 E := C
  have hx := C.1
  have hb := C.2.1
  have hl : lv_has ls 3 [(0, .ref (E.ad 0)), (1, .int a1), (2, .int a2)] := hl
  unfold k8_lightIfTurned at h
  refine lv_aload_n hx hb dX8_lightIfTurned_0 rfl (lv_at hl 0 rfl) ?_
  refine r_getA (j := 34) C hG FX8_62 rfl rfl dX8_lightIfTurned_1 ?_
  refine r_getR (d := 1) C hG FX8_112 rfl rfl (by decide) dX8_lightIfTurned_4 ?_
  refine lv_iload_n hx hb dX8_lightIfTurned_7 rfl (lv_at hl 1 rfl) ?_
  refine lv_iload_n hx hb dX8_lightIfTurned_8 rfl (lv_at hl 2 rfl) ?_
  refine r_callVV C hl.1 hG [.int a1, .int a2] [] (m4_turn E l 35 rfl a1 a2 g) LX8_202 rfl KC4 rfl (rm_ok (by decide) (by decide)) (Nat.le_of_ble_eq_true rfl) ⟨Nat.le_refl _, Nat.le_refl _⟩ rfl dX8_lightIfTurned_9 h (fun g1 H locs hG h => ?_)
  refine lv_aload_n hx hb dX8_lightIfTurned_12 rfl (lv_at hl 0 rfl) ?_
  refine r_getA (j := 34) C hG FX8_62 rfl rfl dX8_lightIfTurned_13 ?_
  refine r_getR (d := 1) C hG FX8_112 rfl rfl (by decide) dX8_lightIfTurned_16 ?_
  refine r_callVI C hl.1 hG [] [] (m4_lastLight E l 35 rfl g1) LX8_127 rfl KC4 rfl (rm_ok (by decide) (by decide)) (Nat.le_of_ble_eq_true rfl) ⟨Nat.le_refl _, Nat.le_refl _⟩ rfl dX8_lightIfTurned_19 h (fun u2 H locs hG h => ?_)
  exact r_iret C hG hr rfl dX8_lightIfTurned_22 h
