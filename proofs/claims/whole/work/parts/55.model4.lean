def k11_trim  (a1 : Int32) (g : G) : Option (Int32 × G) :=
  bd (up g 47 0 0) fun g1 =>
  (k11_isIn a1 0 (g1 47 2) g1).bind fun u2 =>
  if u2 = 0 then
    (k11_no 1 g1).bind fun u5 =>
    some (u5.1, u5.2)
  else
    bd (up g1 47 2 a1) fun g4 =>
    some (a1, g4)
set_option maxRecDepth 100000 in
set_option maxHeartbeats 4000000 in
theorem m11_trim (E : EV) (l : Launch) (a1 : Int32) (g : G) : ∀ u, k11_trim a1 g = some u → MI E l yX11_trim cX11_trim 2 (some .int) 1 0 0 [.ref (E.ad 47), .int a1] g u := by
  intro u h
  refine MG.of (by decide +kernel) (Nat.le_of_ble_eq_true rfl) ?_
  intro p e s m args below meth c C hr hnm ls hl hG
  have C : Cx p s m args meth c cX11_trim 2 RX11 E := C
  have hx := C.1
  have hb := C.2.1
  have hl : lv_has ls 2 [(0, .ref (E.ad 47)), (1, .int a1)] := hl
  unfold k11_trim at h
  refine lv_aload_n hx hb dX11_trim_0 rfl (lv_at hl 0 rfl) ?_
  refine lv_iconst (v := 0) hx hb dX11_trim_1 (by decide) ?_
  refine r_putI C hG FX11_64 rfl rfl dX11_trim_2 h (fun H locs g1 hG h => ?_)
  refine lv_iload_n hx hb dX11_trim_5 rfl (lv_at hl 1 rfl) ?_
  refine lv_iconst (v := 0) hx hb dX11_trim_6 (by decide) ?_
  refine lv_aload_n hx hb dX11_trim_7 rfl (lv_at hl 0 rfl) ?_
  refine r_getI C hG FX11_71 rfl rfl dX11_trim_8 ?_
  refine r_callSIP C hl.1 hG [.int a1, .int 0, .int (g1 47 2)] [] (m11_isIn E l a1 0 (g1 47 2) g1) LX11_67 rfl (rm_ok (by decide) (by decide)) (Nat.le_of_ble_eq_true rfl) ⟨Nat.le_refl _, Nat.le_refl _⟩ rfl dX11_trim_11 h (fun u2 H locs hG h => ?_)
  refine lv_if_ne (tgt := 23) hx hb dX11_trim_14 (by decide) (fun c3 => ?_) (fun c3 => ?_)
  · have h := (if_inv h).2 c3
    refine lv_aload_n hx hb dX11_trim_23 rfl (lv_at hl 0 rfl) ?_
    refine lv_iload_n hx hb dX11_trim_24 rfl (lv_at hl 1 rfl) ?_
    refine r_putI C hG FX11_71 rfl rfl dX11_trim_25 h (fun H locs g4 hG h => ?_)
    refine lv_iload_n hx hb dX11_trim_28 rfl (lv_at hl 1 rfl) ?_
    exact r_iret C hG hr rfl dX11_trim_29 h
  · have h := (if_inv h).1 c3
    refine lv_aload_n hx hb dX11_trim_17 rfl (lv_at hl 0 rfl) ?_
    refine lv_iconst (v := 1) hx hb dX11_trim_18 (by decide) ?_
    refine r_callVI C hl.1 hG [.int 1] [] (m11_no E l 1 g1) LX11_262 rfl KC11 rfl (rm_ok (by decide) (by decide)) (Nat.le_of_ble_eq_true rfl) ⟨Nat.le_refl _, Nat.le_refl _⟩ rfl dX11_trim_19 h (fun u5 H locs hG h => ?_)
    exact r_iret C hG hr rfl dX11_trim_22 h
def k11_teach_66  (t0 : Int32) (g : G) : Option (Int32 × G) :=
      bd (up g 47 3 t0) fun g1 =>
      if (g1 47 10) = 0 then
        (k10_become 54 66 g1).bind fun g3 =>
        (k9_begin 79 54 g3).bind fun g4 =>
        some (0, g4)
      else
        some ((g1 47 10), g1)
def k11_teach  (g : G) : Option (Int32 × G) :=
  bd (up g 47 0 0) fun g5 =>
  bd (up g5 47 8 0) fun g6 =>
  bd (up g6 47 9 0) fun g7 =>
  bd (up g7 47 10 0) fun g8 =>
  bd (up g8 47 12 0) fun g9 =>
  (k10_begin 66 g9).bind fun g10 =>
  (k11_readAll g10).bind fun g11 =>
  (k11_train g11).bind fun g12 =>
  bd (up g12 47 2 0) fun g13 =>
  if (g13 47 10) = 0 then
    k11_teach_66 (-1) g13
  else
    ld g13 51 402 (g13 47 11) fun x15 =>
    k11_teach_66 x15 g13
set_option maxRecDepth 100000 in
set_option maxHeartbeats 4000000 in
theorem m11_teach (E : EV) (l : Launch) (g : G) : ∀ u, k11_teach g = some u → MI E l yX11_teach cX11_teach 1 (some .int) 108 0 0 [.ref (E.ad 47)] g u := by
  intro u h
  refine MG.of (by decide +kernel) (Nat.le_of_ble_eq_true rfl) ?_
  intro p e s m args below meth c C hr hnm ls hl hG
  have C : Cx p s m args meth c cX11_teach 1 RX11 E := C
  have hx := C.1
  have hb := C.2.1
  have hl : lv_has ls 1 [(0, .ref (E.ad 47))] := hl
  unfold k11_teach at h
  have j66 : ∀ (t0 : Int32) (g : G) (H : Heap) (locs : List Loc) (ls : Array Slot), Gd E s H locs g [] → lv_has ls 1 [(0, .ref (E.ad 47))] → k11_teach_66 t0 g = some u → W p l e (rmD 108 0 0) s m args below meth c H locs 0 0 (MQ below (QI E s.heap.size u.1 u.2) args s 0 0 (AA E s.heap.size)) (F0 m 66 ls [.int t0, .ref (E.ad 47)]) := by
    intro t0 g H locs ls hG hl h
    unfold k11_teach_66 at h
    refine r_putI C hG FX11_13 rfl rfl dX11_teach_66 h (fun H locs g1 hG h => ?_)
    refine lv_aload_n hx hb dX11_teach_69 rfl (lv_at hl 0 rfl) ?_
    refine r_getI C hG FX11_122 rfl rfl dX11_teach_70 ?_
    refine lv_if_eq (tgt := 81) hx hb dX11_teach_73 (by decide) (fun c2 => ?_) (fun c2 => ?_)
    · have h := (if_inv h).1 c2
      refine lv_aload_n hx hb dX11_teach_81 rfl (lv_at hl 0 rfl) ?_
      refine r_getA (j := 54) C hG FX11_35 rfl rfl dX11_teach_82 ?_
      refine lv_aload_n hx hb dX11_teach_85 rfl (lv_at hl 0 rfl) ?_
      refine r_getA (j := 66) C hG FX11_39 rfl rfl dX11_teach_86 ?_
      refine r_callVV C hl.1 hG [.ref (E.ad 66)] [] (m10_become E l 54 66 rfl rfl g1) LX11_274 rfl KC10 rfl (rm_ok (by decide) (by decide)) (Nat.le_of_ble_eq_true rfl) ⟨Nat.le_refl _, Nat.le_refl _⟩ rfl dX11_teach_89 h (fun g3 H locs hG h => ?_)
      refine lv_aload_n hx hb dX11_teach_92 rfl (lv_at hl 0 rfl) ?_
      refine r_getA (j := 79) C hG FX11_48 rfl rfl dX11_teach_93 ?_
      refine lv_aload_n hx hb dX11_teach_96 rfl (lv_at hl 0 rfl) ?_
      refine r_getA (j := 54) C hG FX11_35 rfl rfl dX11_teach_97 ?_
      refine r_callVV C hl.1 hG [.ref (E.ad 54)] [] (m9_begin E l 79 54 rfl rfl g3) LX11_278 rfl KC9 rfl (rm_ok (by decide) (by decide)) (Nat.le_of_ble_eq_true rfl) ⟨Nat.le_refl _, Nat.le_refl _⟩ rfl dX11_teach_100 h (fun g4 H locs hG h => ?_)
      refine lv_iconst (v := 0) hx hb dX11_teach_103 (by decide) ?_
      exact r_iret C hG hr rfl dX11_teach_104 h
    · have h := (if_inv h).2 c2
      refine lv_aload_n hx hb dX11_teach_76 rfl (lv_at hl 0 rfl) ?_
      refine r_getI C hG FX11_122 rfl rfl dX11_teach_77 ?_
      exact r_iret C hG hr rfl dX11_teach_80 h
  refine lv_aload_n hx hb dX11_teach_0 rfl (lv_at hl 0 rfl) ?_
  refine lv_iconst (v := 0) hx hb dX11_teach_1 (by decide) ?_
  refine r_putI C hG FX11_64 rfl rfl dX11_teach_2 h (fun H locs g5 hG h => ?_)
  refine lv_aload_n hx hb dX11_teach_5 rfl (lv_at hl 0 rfl) ?_
  refine lv_iconst (v := 0) hx hb dX11_teach_6 (by decide) ?_
  refine r_putI C hG FX11_119 rfl rfl dX11_teach_7 h (fun H locs g6 hG h => ?_)
  refine lv_aload_n hx hb dX11_teach_10 rfl (lv_at hl 0 rfl) ?_
  refine lv_iconst (v := 0) hx hb dX11_teach_11 (by decide) ?_
  refine r_putZ C hG FX11_115 rfl rfl (by decide) dX11_teach_12 h (fun H locs g7 hG h => ?_)
  refine lv_aload_n hx hb dX11_teach_15 rfl (lv_at hl 0 rfl) ?_
  refine lv_iconst (v := 0) hx hb dX11_teach_16 (by decide) ?_
  refine r_putI C hG FX11_122 rfl rfl dX11_teach_17 h (fun H locs g8 hG h => ?_)
  refine lv_aload_n hx hb dX11_teach_20 rfl (lv_at hl 0 rfl) ?_
  refine lv_iconst (v := 0) hx hb dX11_teach_21 (by decide) ?_
  refine r_putI C hG FX11_134 rfl rfl dX11_teach_22 h (fun H locs g9 hG h => ?_)
  refine lv_aload_n hx hb dX11_teach_25 rfl (lv_at hl 0 rfl) ?_
  refine r_getA (j := 66) C hG FX11_39 rfl rfl dX11_teach_26 ?_
  refine r_callVV C hl.1 hG [] [] (m10_begin E l 66 rfl g9) LX11_265 rfl KC10 rfl (rm_ok (by decide) (by decide)) (Nat.le_of_ble_eq_true rfl) ⟨Nat.le_refl _, Nat.le_refl _⟩ rfl dX11_teach_29 h (fun g10 H locs hG h => ?_)
  refine lv_aload_n hx hb dX11_teach_32 rfl (lv_at hl 0 rfl) ?_
  refine r_callVV C hl.1 hG [] [] (m11_readAll E l g10) LX11_268 rfl KC11 rfl (rm_ok (by decide) (by decide)) (Nat.le_of_ble_eq_true rfl) ⟨Nat.le_refl _, Nat.le_refl _⟩ rfl dX11_teach_33 h (fun g11 H locs hG h => ?_)
  refine lv_aload_n hx hb dX11_teach_36 rfl (lv_at hl 0 rfl) ?_
  refine r_callVV C hl.1 hG [] [] (m11_train E l g11) LX11_271 rfl KC11 rfl (rm_ok (by decide) (by decide)) (Nat.le_of_ble_eq_true rfl) ⟨Nat.le_refl _, Nat.le_refl _⟩ rfl dX11_teach_37 h (fun g12 H locs hG h => ?_)
  refine lv_aload_n hx hb dX11_teach_40 rfl (lv_at hl 0 rfl) ?_
  refine lv_iconst (v := 0) hx hb dX11_teach_41 (by decide) ?_
  refine r_putI C hG FX11_71 rfl rfl dX11_teach_42 h (fun H locs g13 hG h => ?_)
  refine lv_aload_n hx hb dX11_teach_45 rfl (lv_at hl 0 rfl) ?_
  refine lv_aload_n hx hb dX11_teach_46 rfl (lv_at hl 0 rfl) ?_
  refine r_getI C hG FX11_122 rfl rfl dX11_teach_47 ?_
  refine lv_if_ne (tgt := 57) hx hb dX11_teach_50 (by decide) (fun c14 => ?_) (fun c14 => ?_)
  · have h := (if_inv h).2 c14
    refine lv_aload_n hx hb dX11_teach_57 rfl (lv_at hl 0 rfl) ?_
    refine r_getA (j := 51) C hG FX11_23 rfl rfl dX11_teach_58 ?_
    refine lv_aload_n hx hb dX11_teach_61 rfl (lv_at hl 0 rfl) ?_
    refine r_getI C hG FX11_125 rfl rfl dX11_teach_62 ?_
    refine r_ild C hG (N := 402) rfl (by decide) dX11_teach_65 h (fun x15 h => ?_)
    exact j66 x15 g13 _ _ _ hG (lv_sub hl [0] rfl) h
  · have h := (if_inv h).1 c14
    refine lv_iconst (v := (-1)) hx hb dX11_teach_53 (by decide) ?_
    refine lv_goto (tgt := 66) hx hb dX11_teach_54 (by decide) ?_
    exact j66 (-1) g13 _ _ _ hG (lv_sub hl [0] rfl) h
def k11_errorAt  (g : G) : Option (Int32 × G) :=
  (k11_ok (g 47 3) g).bind fun u1 =>
  some (u1.1, u1.2)
set_option maxRecDepth 100000 in
set_option maxHeartbeats 4000000 in
theorem m11_errorAt (E : EV) (l : Launch) (g : G) : ∀ u, k11_errorAt g = some u → MI E l yX11_errorAt cX11_errorAt 1 (some .int) 1 0 0 [.ref (E.ad 47)] g u := by
  intro u h
  refine MG.of (by decide +kernel) (Nat.le_of_ble_eq_true rfl) ?_
  intro p e s m args below meth c C hr hnm ls hl hG
  have C : Cx p s m args meth c cX11_errorAt 1 RX11 E := C
  have hx := C.1
  have hb := C.2.1
  have hl : lv_has ls 1 [(0, .ref (E.ad 47))] := hl
  unfold k11_errorAt at h
  refine lv_aload_n hx hb dX11_errorAt_0 rfl (lv_at hl 0 rfl) ?_
  refine lv_aload_n hx hb dX11_errorAt_1 rfl (lv_at hl 0 rfl) ?_
  refine r_getI C hG FX11_13 rfl rfl dX11_errorAt_2 ?_
  refine r_callVI C hl.1 hG [.int (g 47 3)] [] (m11_ok E l (g 47 3) g) LX11_280 rfl KC11 rfl (rm_ok (by decide) (by decide)) (Nat.le_of_ble_eq_true rfl) ⟨Nat.le_refl _, Nat.le_refl _⟩ rfl dX11_errorAt_5 h (fun u1 H locs hG h => ?_)
  exact r_iret C hG hr rfl dX11_errorAt_8 h
def k11_mirrors  (g : G) : Option (Int32 × G) :=
  (k11_ok (g 54 0) g).bind fun u1 =>
  some (u1.1, u1.2)
set_option maxRecDepth 100000 in
set_option maxHeartbeats 4000000 in
theorem m11_mirrors (E : EV) (l : Launch) (g : G) : ∀ u, k11_mirrors g = some u → MI E l yX11_mirrors cX11_mirrors 1 (some .int) 1 0 0 [.ref (E.ad 47)] g u := by
  intro u h
  refine MG.of (by decide +kernel) (Nat.le_of_ble_eq_true rfl) ?_
  intro p e s m args below meth c C hr hnm ls hl hG
  have C : Cx p s m args meth c cX11_mirrors 1 RX11 E := C
  have hx := C.1
  have hb := C.2.1
  have hl : lv_has ls 1 [(0, .ref (E.ad 47))] := hl
  unfold k11_mirrors at h
  refine lv_aload_n hx hb dX11_mirrors_0 rfl (lv_at hl 0 rfl) ?_
  refine lv_aload_n hx hb dX11_mirrors_1 rfl (lv_at hl 0 rfl) ?_
  refine r_getA (j := 54) C hG FX11_35 rfl rfl dX11_mirrors_2 ?_
  refine r_getI C hG FX11_149 rfl rfl dX11_mirrors_5 ?_
  refine r_callVI C hl.1 hG [.int (g 54 0)] [] (m11_ok E l (g 54 0) g) LX11_280 rfl KC11 rfl (rm_ok (by decide) (by decide)) (Nat.le_of_ble_eq_true rfl) ⟨Nat.le_refl _, Nat.le_refl _⟩ rfl dX11_mirrors_8 h (fun u1 H locs hG h => ?_)
  exact r_iret C hG hr rfl dX11_mirrors_11 h
def k11_orders  (g : G) : Option (Int32 × G) :=
  (k11_ok (g 54 5) g).bind fun u1 =>
  some (u1.1, u1.2)
set_option maxRecDepth 100000 in
set_option maxHeartbeats 4000000 in
theorem m11_orders (E : EV) (l : Launch) (g : G) : ∀ u, k11_orders g = some u → MI E l yX11_orders cX11_orders 1 (some .int) 1 0 0 [.ref (E.ad 47)] g u := by
  intro u h
  refine MG.of (by decide +kernel) (Nat.le_of_ble_eq_true rfl) ?_
  intro p e s m args below meth c C hr hnm ls hl hG
  have C : Cx p s m args meth c cX11_orders 1 RX11 E := C
  have hx := C.1
  have hb := C.2.1
  have hl : lv_has ls 1 [(0, .ref (E.ad 47))] := hl
  unfold k11_orders at h
  refine lv_aload_n hx hb dX11_orders_0 rfl (lv_at hl 0 rfl) ?_
  refine lv_aload_n hx hb dX11_orders_1 rfl (lv_at hl 0 rfl) ?_
  refine r_getA (j := 54) C hG FX11_35 rfl rfl dX11_orders_2 ?_
  refine r_getI C hG FX11_229 rfl rfl dX11_orders_5 ?_
  refine r_callVI C hl.1 hG [.int (g 54 5)] [] (m11_ok E l (g 54 5) g) LX11_280 rfl KC11 rfl (rm_ok (by decide) (by decide)) (Nat.le_of_ble_eq_true rfl) ⟨Nat.le_refl _, Nat.le_refl _⟩ rfl dX11_orders_8 h (fun u1 H locs hG h => ?_)
  exact r_iret C hG hr rfl dX11_orders_11 h
def k11_minutes  (g : G) : Option (Int32 × G) :=
  (k11_ok (g 79 8) g).bind fun u1 =>
  some (u1.1, u1.2)
set_option maxRecDepth 100000 in
set_option maxHeartbeats 4000000 in
theorem m11_minutes (E : EV) (l : Launch) (g : G) : ∀ u, k11_minutes g = some u → MI E l yX11_minutes cX11_minutes 1 (some .int) 1 0 0 [.ref (E.ad 47)] g u := by
  intro u h
  refine MG.of (by decide +kernel) (Nat.le_of_ble_eq_true rfl) ?_
  intro p e s m args below meth c C hr hnm ls hl hG
  have C : Cx p s m args meth c cX11_minutes 1 RX11 E := C
  have hx := C.1
  have hb := C.2.1
  have hl : lv_has ls 1 [(0, .ref (E.ad 47))] := hl
  unfold k11_minutes at h
  refine lv_aload_n hx hb dX11_minutes_0 rfl (lv_at hl 0 rfl) ?_
  refine lv_aload_n hx hb dX11_minutes_1 rfl (lv_at hl 0 rfl) ?_
  refine r_getA (j := 79) C hG FX11_48 rfl rfl dX11_minutes_2 ?_
  refine r_getI C hG FX11_308 rfl rfl dX11_minutes_5 ?_
  refine r_callVI C hl.1 hG [.int (g 79 8)] [] (m11_ok E l (g 79 8) g) LX11_280 rfl KC11 rfl (rm_ok (by decide) (by decide)) (Nat.le_of_ble_eq_true rfl) ⟨Nat.le_refl _, Nat.le_refl _⟩ rfl dX11_minutes_8 h (fun u1 H locs hG h => ?_)
  exact r_iret C hG hr rfl dX11_minutes_11 h
def k11_tapeBytes  (g : G) : Option (Int32 × G) :=
  (k11_ok (g 47 2) g).bind fun u1 =>
  some (u1.1, u1.2)
set_option maxRecDepth 100000 in
set_option maxHeartbeats 4000000 in
theorem m11_tapeBytes (E : EV) (l : Launch) (g : G) : ∀ u, k11_tapeBytes g = some u → MI E l yX11_tapeBytes cX11_tapeBytes 1 (some .int) 1 0 0 [.ref (E.ad 47)] g u := by
  intro u h
  refine MG.of (by decide +kernel) (Nat.le_of_ble_eq_true rfl) ?_
  intro p e s m args below meth c C hr hnm ls hl hG
  have C : Cx p s m args meth c cX11_tapeBytes 1 RX11 E := C
  have hx := C.1
  have hb := C.2.1
  have hl : lv_has ls 1 [(0, .ref (E.ad 47))] := hl
  unfold k11_tapeBytes at h
  refine lv_aload_n hx hb dX11_tapeBytes_0 rfl (lv_at hl 0 rfl) ?_
  refine lv_aload_n hx hb dX11_tapeBytes_1 rfl (lv_at hl 0 rfl) ?_
  refine r_getI C hG FX11_71 rfl rfl dX11_tapeBytes_2 ?_
  refine r_callVI C hl.1 hG [.int (g 47 2)] [] (m11_ok E l (g 47 2) g) LX11_280 rfl KC11 rfl (rm_ok (by decide) (by decide)) (Nat.le_of_ble_eq_true rfl) ⟨Nat.le_refl _, Nat.le_refl _⟩ rfl dX11_tapeBytes_5 h (fun u1 H locs hG h => ?_)
  exact r_iret C hG hr rfl dX11_tapeBytes_8 h
def k11_lightAtEnd  (g : G) : Option (Int32 × G) :=
  (k11_light 79 g).bind fun u1 =>
  (k11_ok u1.1 u1.2).bind fun u2 =>
  some (u2.1, u2.2)
set_option maxRecDepth 100000 in
set_option maxHeartbeats 4000000 in
theorem m11_lightAtEnd (E : EV) (l : Launch) (g : G) : ∀ u, k11_lightAtEnd g = some u → MI E l yX11_lightAtEnd cX11_lightAtEnd 1 (some .int) 4 0 0 [.ref (E.ad 47)] g u := by
  intro u h
  refine MG.of (by decide +kernel) (Nat.le_of_ble_eq_true rfl) ?_
  intro p e s m args below meth c C hr hnm ls hl hG
  have C : Cx p s m args meth c cX11_lightAtEnd 1 RX11 E := C
  have hx := C.1
  have hb := C.2.1
  have hl : lv_has ls 1 [(0, .ref (E.ad 47))] := hl
  unfold k11_lightAtEnd at h
  refine lv_aload_n hx hb dX11_lightAtEnd_0 rfl (lv_at hl 0 rfl) ?_
  refine lv_aload_n hx hb dX11_lightAtEnd_1 rfl (lv_at hl 0 rfl) ?_
  refine lv_aload_n hx hb dX11_lightAtEnd_2 rfl (lv_at hl 0 rfl) ?_
  refine r_getA (j := 79) C hG FX11_48 rfl rfl dX11_lightAtEnd_3 ?_
  refine r_callVI C hl.1 hG [.ref (E.ad 79)] [.ref (E.ad 47)] (m11_light E l 79 rfl g) LX11_304 rfl KC11 rfl (rm_ok (by decide) (by decide)) (Nat.le_of_ble_eq_true rfl) ⟨Nat.le_refl _, Nat.le_refl _⟩ rfl dX11_lightAtEnd_6 h (fun u1 H locs hG h => ?_)
  refine r_callVI C hl.1 hG [.int u1.1] [] (m11_ok E l u1.1 u1.2) LX11_280 rfl KC11 rfl (rm_ok (by decide) (by decide)) (Nat.le_of_ble_eq_true rfl) ⟨Nat.le_refl _, Nat.le_refl _⟩ rfl dX11_lightAtEnd_9 h (fun u2 H locs hG h => ?_)
  exact r_iret C hG hr rfl dX11_lightAtEnd_12 h
def k11_tiltAtEnd  (g : G) : Option (Int32 × G) :=
  (k11_shine 79 g).bind fun g1 =>
  (k11_ok (g1 47 23) g1).bind fun u2 =>
  some (u2.1, u2.2)
set_option maxRecDepth 100000 in
set_option maxHeartbeats 4000000 in
theorem m11_tiltAtEnd (E : EV) (l : Launch) (g : G) : ∀ u, k11_tiltAtEnd g = some u → MI E l yX11_tiltAtEnd cX11_tiltAtEnd 1 (some .int) 3 0 0 [.ref (E.ad 47)] g u := by
  intro u h
  refine MG.of (by decide +kernel) (Nat.le_of_ble_eq_true rfl) ?_
  intro p e s m args below meth c C hr hnm ls hl hG
  have C : Cx p s m args meth c cX11_tiltAtEnd 1 RX11 E := C
  have hx := C.1
  have hb := C.2.1
  have hl : lv_has ls 1 [(0, .ref (E.ad 47))] := hl
  unfold k11_tiltAtEnd at h
  refine lv_aload_n hx hb dX11_tiltAtEnd_0 rfl (lv_at hl 0 rfl) ?_
  refine lv_aload_n hx hb dX11_tiltAtEnd_1 rfl (lv_at hl 0 rfl) ?_
  refine r_getA (j := 79) C hG FX11_48 rfl rfl dX11_tiltAtEnd_2 ?_
  refine r_callVV C hl.1 hG [.ref (E.ad 79)] [] (m11_shine E l 79 rfl g) LX11_300 rfl KC11 rfl (rm_ok (by decide) (by decide)) (Nat.le_of_ble_eq_true rfl) ⟨Nat.le_refl _, Nat.le_refl _⟩ rfl dX11_tiltAtEnd_5 h (fun g1 H locs hG h => ?_)
  refine lv_aload_n hx hb dX11_tiltAtEnd_8 rfl (lv_at hl 0 rfl) ?_
  refine lv_aload_n hx hb dX11_tiltAtEnd_9 rfl (lv_at hl 0 rfl) ?_
  refine r_getI C hG FX11_297 rfl rfl dX11_tiltAtEnd_10 ?_
  refine r_callVI C hl.1 hG [.int (g1 47 23)] [] (m11_ok E l (g1 47 23) g1) LX11_280 rfl KC11 rfl (rm_ok (by decide) (by decide)) (Nat.le_of_ble_eq_true rfl) ⟨Nat.le_refl _, Nat.le_refl _⟩ rfl dX11_tiltAtEnd_13 h (fun u2 H locs hG h => ?_)
  exact r_iret C hG hr rfl dX11_tiltAtEnd_16 h
def k11_isSeen  (g : G) : Option (Int32 × G) :=
  bd (up g 47 0 0) fun g1 =>
  (k11_seen 79 g1).bind fun u2 =>
  zr u2.1 u2.2
set_option maxRecDepth 100000 in
set_option maxHeartbeats 4000000 in
theorem m11_isSeen (E : EV) (l : Launch) (g : G) : ∀ u, k11_isSeen g = some u → MI E l yX11_isSeen cX11_isSeen 1 (some .boolean) 5 0 0 [.ref (E.ad 47)] g u := by
  intro u h
  refine MG.of (by decide +kernel) (Nat.le_of_ble_eq_true rfl) ?_
  intro p e s m args below meth c C hr hnm ls hl hG
  have C : Cx p s m args meth c cX11_isSeen 1 RX11 E := C
  have hx := C.1
  have hb := C.2.1
  have hl : lv_has ls 1 [(0, .ref (E.ad 47))] := hl
  unfold k11_isSeen at h
  refine lv_aload_n hx hb dX11_isSeen_0 rfl (lv_at hl 0 rfl) ?_
  refine lv_iconst (v := 0) hx hb dX11_isSeen_1 (by decide) ?_
  refine r_putI C hG FX11_64 rfl rfl dX11_isSeen_2 h (fun H locs g1 hG h => ?_)
  refine lv_aload_n hx hb dX11_isSeen_5 rfl (lv_at hl 0 rfl) ?_
  refine lv_aload_n hx hb dX11_isSeen_6 rfl (lv_at hl 0 rfl) ?_
  refine r_getA (j := 79) C hG FX11_48 rfl rfl dX11_isSeen_7 ?_
  refine r_callVI C hl.1 hG [.ref (E.ad 79)] [] (m11_seen E l 79 rfl g1) LX11_317 rfl KC11 rfl (rm_ok (by decide) (by decide)) (Nat.le_of_ble_eq_true rfl) ⟨Nat.le_refl _, Nat.le_refl _⟩ rfl dX11_isSeen_10 h (fun u2 H locs hG h => ?_)
  exact r_zret C hG hr dX11_isSeen_13 h
def k11_worstMirror_41  : Nat → Int32 → Int32 → G → Option (Int32 × G)
  | 0, _, _, _ => none
  | f + 1, v1, v2, g =>
        if (g 54 0) ≤ v2 then
          some (v1, g)
        else
          ld g 83 10 v2 fun x2 =>
          ld g 93 10 x2 fun x3 =>
          ld g 94 10 x2 fun x4 =>
          ld g 93 10 v1 fun x5 =>
          ld g 94 10 v1 fun x6 =>
          if (x3 - x4) ≤ (x5 - x6) then
            bd (v2 + 1) fun x8 =>
            k11_worstMirror_41 f v1 x8 g
          else
            bd (v2 + 1) fun x9 =>
            k11_worstMirror_41 f x2 x9 g
def k11_worstMirror  (g : G) : Option (Int32 × G) :=
  bd (up g 47 0 0) fun g10 =>
  if (g10 54 0) = 0 then
    (k11_no 1 g10).bind fun u14 =>
    some (u14.1, u14.2)
  else
    (k11_shine 79 g10).bind fun g12 =>
    ld g12 83 10 0 fun x13 =>
    k11_worstMirror_41 FU x13 1 g12
set_option maxRecDepth 100000 in
set_option maxHeartbeats 4000000 in
theorem m11_worstMirror (E : EV) (l : Launch) (g : G) : ∀ u, k11_worstMirror g = some u → MI E l yX11_worstMirror cX11_worstMirror 4 (some .int) 3 0 0 [.ref (E.ad 47)] g u := by
  intro u h
  refine MG.of (by decide +kernel) (Nat.le_of_ble_eq_true rfl) ?_
  intro p e s m args below meth c C hr hnm ls hl hG
  have C : Cx p s m args meth c cX11_worstMirror 4 RX11 E := C
  have hx := C.1
  have hb := C.2.1
  have hl : lv_has ls 4 [(0, .ref (E.ad 47))] := hl
  unfold k11_worstMirror at h
  have j41 : ∀ f : Nat, ∀ (v1 : Int32) (v2 : Int32) (g : G) (H : Heap) (locs : List Loc) (ls : Array Slot), Gd E s H locs g [] → lv_has ls 4 [(0, .ref (E.ad 47)), (1, .int v1), (2, .int v2)] → k11_worstMirror_41 f v1 v2 g = some u → W p l e (rmD 3 0 0) s m args below meth c H locs 0 0 (MQ below (QI E s.heap.size u.1 u.2) args s 0 0 (AA E s.heap.size)) (F0 m 41 ls []) := by
    intro f
    induction f with
    | zero =>
      intro v1 v2 g H locs ls hG hl h
      unfold k11_worstMirror_41 at h
      cases h
    | succ f ih =>
      intro v1 v2 g H locs ls hG hl h
      unfold k11_worstMirror_41 at h
      refine lv_iload_n hx hb dX11_worstMirror_41 rfl (lv_at hl 2 rfl) ?_
      refine lv_aload_n hx hb dX11_worstMirror_42 rfl (lv_at hl 0 rfl) ?_
      refine r_getA (j := 54) C hG FX11_35 rfl rfl dX11_worstMirror_43 ?_
      refine r_getI C hG FX11_149 rfl rfl dX11_worstMirror_46 ?_
      refine lv_icmp_ge (tgt := 99) hx hb dX11_worstMirror_49 (by decide) (fun c1 => ?_) (fun c1 => ?_)
      · have h := (if_inv h).1 c1
        refine lv_iload_n hx hb dX11_worstMirror_99 rfl (lv_at hl 1 rfl) ?_
        exact r_iret C hG hr rfl dX11_worstMirror_100 h
      · have h := (if_inv h).2 c1
        refine lv_aload_n hx hb dX11_worstMirror_52 rfl (lv_at hl 0 rfl) ?_
        refine r_getA (j := 79) C hG FX11_48 rfl rfl dX11_worstMirror_53 ?_
        refine r_getR (d := 4) C hG FX11_283 rfl rfl (by decide) dX11_worstMirror_56 ?_
        refine lv_iload_n hx hb dX11_worstMirror_59 rfl (lv_at hl 2 rfl) ?_
        refine r_ild C hG (N := 10) rfl (by decide) dX11_worstMirror_60 h (fun x2 h => ?_)
        refine lv_istore_n (lv' := [(3, .int x2), (0, .ref (E.ad 47)), (1, .int v1), (2, .int v2)]) hx hb dX11_worstMirror_61 rfl hl (by decide) rfl (fun ls hl => ?_)
        refine lv_aload_n hx hb dX11_worstMirror_62 rfl (lv_at hl 1 rfl) ?_
        refine r_getA (j := 93) C hG FX11_55 rfl rfl dX11_worstMirror_63 ?_
        refine lv_iload_n hx hb dX11_worstMirror_66 rfl (lv_at hl 0 rfl) ?_
        refine r_ild C hG (N := 10) rfl (by decide) dX11_worstMirror_67 h (fun x3 h => ?_)
        refine lv_aload_n hx hb dX11_worstMirror_68 rfl (lv_at hl 1 rfl) ?_
        refine r_getA (j := 94) C hG FX11_58 rfl rfl dX11_worstMirror_69 ?_
        refine lv_iload_n hx hb dX11_worstMirror_72 rfl (lv_at hl 0 rfl) ?_
        refine r_ild C hG (N := 10) rfl (by decide) dX11_worstMirror_73 h (fun x4 h => ?_)
        refine lv_isub hx hb dX11_worstMirror_74 ?_
        refine lv_aload_n hx hb dX11_worstMirror_75 rfl (lv_at hl 1 rfl) ?_
        refine r_getA (j := 93) C hG FX11_55 rfl rfl dX11_worstMirror_76 ?_
        refine lv_iload_n hx hb dX11_worstMirror_79 rfl (lv_at hl 2 rfl) ?_
        refine r_ild C hG (N := 10) rfl (by decide) dX11_worstMirror_80 h (fun x5 h => ?_)
        refine lv_aload_n hx hb dX11_worstMirror_81 rfl (lv_at hl 1 rfl) ?_
        refine r_getA (j := 94) C hG FX11_58 rfl rfl dX11_worstMirror_82 ?_
        refine lv_iload_n hx hb dX11_worstMirror_85 rfl (lv_at hl 2 rfl) ?_
        refine r_ild C hG (N := 10) rfl (by decide) dX11_worstMirror_86 h (fun x6 h => ?_)
        refine lv_isub hx hb dX11_worstMirror_87 ?_
        refine lv_icmp_le (tgt := 93) hx hb dX11_worstMirror_88 (by decide) (fun c7 => ?_) (fun c7 => ?_)
        · have h := (if_inv h).1 c7
          refine r_iinc (w := 1) (lv' := fun x8 => [(2, .int x8), (3, .int x2), (0, .ref (E.ad 47)), (1, .int v1)]) C dX11_worstMirror_93 hl (k := 3) rfl (by decide) (by decide) (fun _ => rfl) h (fun x8 ls hl h => ?_)
          refine lv_goto (tgt := 41) hx hb dX11_worstMirror_96 (by decide) ?_
          exact ih v1 x8 g _ _ _ hG (lv_sub hl [2, 3, 0] rfl) h
        · have h := (if_inv h).2 c7
          refine lv_iload_n hx hb dX11_worstMirror_91 rfl (lv_at hl 0 rfl) ?_
          refine lv_istore_n (lv' := [(1, .int x2), (3, .int x2), (0, .ref (E.ad 47)), (2, .int v2)]) hx hb dX11_worstMirror_92 rfl hl (by decide) rfl (fun ls hl => ?_)
          refine r_iinc (w := 1) (lv' := fun x9 => [(2, .int x9), (1, .int x2), (3, .int x2), (0, .ref (E.ad 47))]) C dX11_worstMirror_93 hl (k := 3) rfl (by decide) (by decide) (fun _ => rfl) h (fun x9 ls hl h => ?_)
          refine lv_goto (tgt := 41) hx hb dX11_worstMirror_96 (by decide) ?_
          exact ih x2 x9 g _ _ _ hG (lv_sub hl [3, 1, 0] rfl) h
  refine lv_aload_n hx hb dX11_worstMirror_0 rfl (lv_at hl 0 rfl) ?_
  refine lv_iconst (v := 0) hx hb dX11_worstMirror_1 (by decide) ?_
  refine r_putI C hG FX11_64 rfl rfl dX11_worstMirror_2 h (fun H locs g10 hG h => ?_)
  refine lv_aload_n hx hb dX11_worstMirror_5 rfl (lv_at hl 0 rfl) ?_
  refine r_getA (j := 54) C hG FX11_35 rfl rfl dX11_worstMirror_6 ?_
  refine r_getI C hG FX11_149 rfl rfl dX11_worstMirror_9 ?_
  refine lv_if_ne (tgt := 21) hx hb dX11_worstMirror_12 (by decide) (fun c11 => ?_) (fun c11 => ?_)
  · have h := (if_inv h).2 c11
    refine lv_aload_n hx hb dX11_worstMirror_21 rfl (lv_at hl 0 rfl) ?_
    refine lv_aload_n hx hb dX11_worstMirror_22 rfl (lv_at hl 0 rfl) ?_
    refine r_getA (j := 79) C hG FX11_48 rfl rfl dX11_worstMirror_23 ?_
    refine r_callVV C hl.1 hG [.ref (E.ad 79)] [] (m11_shine E l 79 rfl g10) LX11_300 rfl KC11 rfl (rm_ok (by decide) (by decide)) (Nat.le_of_ble_eq_true rfl) ⟨Nat.le_refl _, Nat.le_refl _⟩ rfl dX11_worstMirror_26 h (fun g12 H locs hG h => ?_)
    refine lv_aload_n hx hb dX11_worstMirror_29 rfl (lv_at hl 0 rfl) ?_
    refine r_getA (j := 79) C hG FX11_48 rfl rfl dX11_worstMirror_30 ?_
    refine r_getR (d := 4) C hG FX11_283 rfl rfl (by decide) dX11_worstMirror_33 ?_
    refine lv_iconst (v := 0) hx hb dX11_worstMirror_36 (by decide) ?_
    refine r_ild C hG (N := 10) rfl (by decide) dX11_worstMirror_37 h (fun x13 h => ?_)
    refine lv_istore_n (lv' := [(1, .int x13), (0, .ref (E.ad 47))]) hx hb dX11_worstMirror_38 rfl hl (by decide) rfl (fun ls hl => ?_)
    refine lv_iconst (v := 1) hx hb dX11_worstMirror_39 (by decide) ?_
    refine lv_istore_n (lv' := [(2, .int 1), (1, .int x13), (0, .ref (E.ad 47))]) hx hb dX11_worstMirror_40 rfl hl (by decide) rfl (fun ls hl => ?_)
    exact j41 FU x13 1 g12 _ _ _ hG (lv_sub hl [2, 1, 0] rfl) h
  · have h := (if_inv h).1 c11
    refine lv_aload_n hx hb dX11_worstMirror_15 rfl (lv_at hl 0 rfl) ?_
    refine lv_iconst (v := 1) hx hb dX11_worstMirror_16 (by decide) ?_
    refine r_callVI C hl.1 hG [.int 1] [] (m11_no E l 1 g10) LX11_262 rfl KC11 rfl (rm_ok (by decide) (by decide)) (Nat.le_of_ble_eq_true rfl) ⟨Nat.le_refl _, Nat.le_refl _⟩ rfl dX11_worstMirror_17 h (fun u14 H locs hG h => ?_)
    exact r_iret C hG hr rfl dX11_worstMirror_20 h
def k11_isMirror_25  (v2 : Int32) (t0 : Int32) (g : G) : Option (Int32 × G) :=
      bd (up g 47 0 t0) fun g1 =>
      zr v2 g1
def k11_isMirror  (a1 : Int32) (g : G) : Option (Int32 × G) :=
  (k11_isIn a1 0 ((g 54 0) - 1) g).bind fun u2 =>
  if u2 = 0 then
    k11_isMirror_25 u2 1 g
  else
    k11_isMirror_25 u2 0 g
set_option maxRecDepth 100000 in
set_option maxHeartbeats 4000000 in
theorem m11_isMirror (E : EV) (l : Launch) (a1 : Int32) (g : G) : ∀ u, k11_isMirror a1 g = some u → MI E l yX11_isMirror cX11_isMirror 3 (some .boolean) 1 0 0 [.ref (E.ad 47), .int a1] g u := by
  intro u h
  refine MG.of (by decide +kernel) (Nat.le_of_ble_eq_true rfl) ?_
  intro p e s m args below meth c C hr hnm ls hl hG
  have C : Cx p s m args meth c cX11_isMirror 3 RX11 E := C
  have hx := C.1
  have hb := C.2.1
  have hl : lv_has ls 3 [(0, .ref (E.ad 47)), (1, .int a1)] := hl
  unfold k11_isMirror at h
  have j25 : ∀ (v2 : Int32) (t0 : Int32) (g : G) (H : Heap) (locs : List Loc) (ls : Array Slot), Gd E s H locs g [] → lv_has ls 3 [(2, .int v2)] → k11_isMirror_25 v2 t0 g = some u → W p l e (rmD 1 0 0) s m args below meth c H locs 0 0 (MQ below (QI E s.heap.size u.1 u.2) args s 0 0 (AA E s.heap.size)) (F0 m 25 ls [.int t0, .ref (E.ad 47)]) := by
    intro v2 t0 g H locs ls hG hl h
    unfold k11_isMirror_25 at h
    refine r_putI C hG FX11_64 rfl rfl dX11_isMirror_25 h (fun H locs g1 hG h => ?_)
    refine lv_iload_n hx hb dX11_isMirror_28 rfl (lv_at hl 0 rfl) ?_
    exact r_zret C hG hr dX11_isMirror_29 h
  refine lv_iload_n hx hb dX11_isMirror_0 rfl (lv_at hl 1 rfl) ?_
  refine lv_iconst (v := 0) hx hb dX11_isMirror_1 (by decide) ?_
  refine lv_aload_n hx hb dX11_isMirror_2 rfl (lv_at hl 0 rfl) ?_
  refine r_getA (j := 54) C hG FX11_35 rfl rfl dX11_isMirror_3 ?_
  refine r_getI C hG FX11_149 rfl rfl dX11_isMirror_6 ?_
  refine lv_iconst (v := 1) hx hb dX11_isMirror_9 (by decide) ?_
  refine lv_isub hx hb dX11_isMirror_10 ?_
  refine r_callSIP C hl.1 hG [.int a1, .int 0, .int ((g 54 0) - 1)] [] (m11_isIn E l a1 0 ((g 54 0) - 1) g) LX11_67 rfl (rm_ok (by decide) (by decide)) (Nat.le_of_ble_eq_true rfl) ⟨Nat.le_refl _, Nat.le_refl _⟩ rfl dX11_isMirror_11 h (fun u2 H locs hG h => ?_)
  refine lv_istore_n (lv' := [(2, .int u2), (0, .ref (E.ad 47)), (1, .int a1)]) hx hb dX11_isMirror_14 rfl hl (by decide) rfl (fun ls hl => ?_)
  refine lv_aload_n hx hb dX11_isMirror_15 rfl (lv_at hl 1 rfl) ?_
  refine lv_iload_n hx hb dX11_isMirror_16 rfl (lv_at hl 0 rfl) ?_
  refine lv_if_eq (tgt := 24) hx hb dX11_isMirror_17 (by decide) (fun c3 => ?_) (fun c3 => ?_)
  · have h := (if_inv h).1 c3
    refine lv_iconst (v := 1) hx hb dX11_isMirror_24 (by decide) ?_
    exact j25 u2 1 g _ _ _ hG (lv_sub hl [0] rfl) h
  · have h := (if_inv h).2 c3
    refine lv_iconst (v := 0) hx hb dX11_isMirror_20 (by decide) ?_
    refine lv_goto (tgt := 25) hx hb dX11_isMirror_21 (by decide) ?_
    exact j25 u2 0 g _ _ _ hG (lv_sub hl [0] rfl) h
def k11_clarityOf  (a1 : Int32) (g : G) : Option (Int32 × G) :=
  (k11_isMirror a1 g).bind fun u1 =>
  if u1.1 = 0 then
    some (0, u1.2)
  else
    ld u1.2 80 10 a1 fun x3 =>
    some (x3, u1.2)
set_option maxRecDepth 100000 in
set_option maxHeartbeats 4000000 in
theorem m11_clarityOf (E : EV) (l : Launch) (a1 : Int32) (g : G) : ∀ u, k11_clarityOf a1 g = some u → MI E l yX11_clarityOf cX11_clarityOf 2 (some .int) 2 0 0 [.ref (E.ad 47), .int a1] g u := by
  intro u h
  refine MG.of (by decide +kernel) (Nat.le_of_ble_eq_true rfl) ?_
  intro p e s m args below meth c C hr hnm ls hl hG
  have C : Cx p s m args meth c cX11_clarityOf 2 RX11 E := C
  have hx := C.1
  have hb := C.2.1
  have hl : lv_has ls 2 [(0, .ref (E.ad 47)), (1, .int a1)] := hl
  unfold k11_clarityOf at h
  refine lv_aload_n hx hb dX11_clarityOf_0 rfl (lv_at hl 0 rfl) ?_
  refine lv_iload_n hx hb dX11_clarityOf_1 rfl (lv_at hl 1 rfl) ?_
  refine r_callVI C hl.1 hG [.int a1] [] (m11_isMirror E l a1 g) LX11_349 rfl KC11 rfl (rm_ok (by decide) (by decide)) (Nat.le_of_ble_eq_true rfl) ⟨Nat.le_refl _, Nat.le_refl _⟩ rfl dX11_clarityOf_2 h (fun u1 H locs hG h => ?_)
  refine lv_if_eq (tgt := 20) hx hb dX11_clarityOf_5 (by decide) (fun c2 => ?_) (fun c2 => ?_)
  · have h := (if_inv h).1 c2
    refine lv_iconst (v := 0) hx hb dX11_clarityOf_20 (by decide) ?_
    exact r_iret C hG hr rfl dX11_clarityOf_21 h
  · have h := (if_inv h).2 c2
    refine lv_aload_n hx hb dX11_clarityOf_8 rfl (lv_at hl 0 rfl) ?_
    refine r_getA (j := 79) C hG FX11_48 rfl rfl dX11_clarityOf_9 ?_
    refine r_getR (d := 1) C hG FX11_292 rfl rfl (by decide) dX11_clarityOf_12 ?_
    refine lv_iload_n hx hb dX11_clarityOf_15 rfl (lv_at hl 1 rfl) ?_
    refine r_ild C hG (N := 10) rfl (by decide) dX11_clarityOf_16 h (fun x3 h => ?_)
    refine lv_goto (tgt := 21) hx hb dX11_clarityOf_17 (by decide) ?_
    exact r_iret C hG hr rfl dX11_clarityOf_21 h
def k11_bestClarityOf  (a1 : Int32) (g : G) : Option (Int32 × G) :=
  (k11_isMirror a1 g).bind fun u1 =>
  if u1.1 = 0 then
    some (0, u1.2)
  else
    ld u1.2 81 10 a1 fun x3 =>
    some (x3, u1.2)
set_option maxRecDepth 100000 in
set_option maxHeartbeats 4000000 in
theorem m11_bestClarityOf (E : EV) (l : Launch) (a1 : Int32) (g : G) : ∀ u, k11_bestClarityOf a1 g = some u → MI E l yX11_bestClarityOf cX11_bestClarityOf 2 (some .int) 2 0 0 [.ref (E.ad 47), .int a1] g u := by
  intro u h
  refine MG.of (by decide +kernel) (Nat.le_of_ble_eq_true rfl) ?_
  intro p e s m args below meth c C hr hnm ls hl hG
  have C : Cx p s m args meth c cX11_bestClarityOf 2 RX11 E := C
  have hx := C.1
  have hb := C.2.1
  have hl : lv_has ls 2 [(0, .ref (E.ad 47)), (1, .int a1)] := hl
  unfold k11_bestClarityOf at h
  refine lv_aload_n hx hb dX11_bestClarityOf_0 rfl (lv_at hl 0 rfl) ?_
  refine lv_iload_n hx hb dX11_bestClarityOf_1 rfl (lv_at hl 1 rfl) ?_
  refine r_callVI C hl.1 hG [.int a1] [] (m11_isMirror E l a1 g) LX11_349 rfl KC11 rfl (rm_ok (by decide) (by decide)) (Nat.le_of_ble_eq_true rfl) ⟨Nat.le_refl _, Nat.le_refl _⟩ rfl dX11_bestClarityOf_2 h (fun u1 H locs hG h => ?_)
  refine lv_if_eq (tgt := 20) hx hb dX11_bestClarityOf_5 (by decide) (fun c2 => ?_) (fun c2 => ?_)
  · have h := (if_inv h).1 c2
    refine lv_iconst (v := 0) hx hb dX11_bestClarityOf_20 (by decide) ?_
    exact r_iret C hG hr rfl dX11_bestClarityOf_21 h
  · have h := (if_inv h).2 c2
    refine lv_aload_n hx hb dX11_bestClarityOf_8 rfl (lv_at hl 0 rfl) ?_
    refine r_getA (j := 79) C hG FX11_48 rfl rfl dX11_bestClarityOf_9 ?_
    refine r_getR (d := 2) C hG FX11_314 rfl rfl (by decide) dX11_bestClarityOf_12 ?_
    refine lv_iload_n hx hb dX11_bestClarityOf_15 rfl (lv_at hl 1 rfl) ?_
    refine r_ild C hG (N := 10) rfl (by decide) dX11_bestClarityOf_16 h (fun x3 h => ?_)
    refine lv_goto (tgt := 21) hx hb dX11_bestClarityOf_17 (by decide) ?_
    exact r_iret C hG hr rfl dX11_bestClarityOf_21 h
def k11_offsetOf  (a1 : Int32) (g : G) : Option (Int32 × G) :=
  (k11_isMirror a1 g).bind fun u1 =>
  if u1.1 = 0 then
    some (0, u1.2)
  else
    ld u1.2 82 10 a1 fun x3 =>
    some (x3, u1.2)
set_option maxRecDepth 100000 in
set_option maxHeartbeats 4000000 in
theorem m11_offsetOf (E : EV) (l : Launch) (a1 : Int32) (g : G) : ∀ u, k11_offsetOf a1 g = some u → MI E l yX11_offsetOf cX11_offsetOf 2 (some .int) 2 0 0 [.ref (E.ad 47), .int a1] g u := by
  intro u h
  refine MG.of (by decide +kernel) (Nat.le_of_ble_eq_true rfl) ?_
  intro p e s m args below meth c C hr hnm ls hl hG
  have C : Cx p s m args meth c cX11_offsetOf 2 RX11 E := C
  have hx := C.1
  have hb := C.2.1
  have hl : lv_has ls 2 [(0, .ref (E.ad 47)), (1, .int a1)] := hl
  unfold k11_offsetOf at h
  refine lv_aload_n hx hb dX11_offsetOf_0 rfl (lv_at hl 0 rfl) ?_
  refine lv_iload_n hx hb dX11_offsetOf_1 rfl (lv_at hl 1 rfl) ?_
  refine r_callVI C hl.1 hG [.int a1] [] (m11_isMirror E l a1 g) LX11_349 rfl KC11 rfl (rm_ok (by decide) (by decide)) (Nat.le_of_ble_eq_true rfl) ⟨Nat.le_refl _, Nat.le_refl _⟩ rfl dX11_offsetOf_2 h (fun u1 H locs hG h => ?_)
  refine lv_if_eq (tgt := 20) hx hb dX11_offsetOf_5 (by decide) (fun c2 => ?_) (fun c2 => ?_)
  · have h := (if_inv h).1 c2
    refine lv_iconst (v := 0) hx hb dX11_offsetOf_20 (by decide) ?_
    exact r_iret C hG hr rfl dX11_offsetOf_21 h
  · have h := (if_inv h).2 c2
    refine lv_aload_n hx hb dX11_offsetOf_8 rfl (lv_at hl 0 rfl) ?_
    refine r_getA (j := 79) C hG FX11_48 rfl rfl dX11_offsetOf_9 ?_
    refine r_getR (d := 3) C hG FX11_293 rfl rfl (by decide) dX11_offsetOf_12 ?_
    refine lv_iload_n hx hb dX11_offsetOf_15 rfl (lv_at hl 1 rfl) ?_
    refine r_ild C hG (N := 10) rfl (by decide) dX11_offsetOf_16 h (fun x3 h => ?_)
    refine lv_goto (tgt := 21) hx hb dX11_offsetOf_17 (by decide) ?_
    exact r_iret C hG hr rfl dX11_offsetOf_21 h
def k11_place_2  (g : G) : Nat → Int32 → Int32 → Option (Int32)
  | 0, _, _ => none
  | f + 1, v1, v2 =>
        ld g 83 10 v2 fun x1 =>
        if x1 = v1 then
          some v2
        else
          bd (v2 + 1) fun x3 =>
          k11_place_2 g f v1 x3
def k11_place  (a1 : Int32) (g : G) : Option (Int32) :=
  k11_place_2 g FU a1 0
set_option maxRecDepth 100000 in
set_option maxHeartbeats 4000000 in
theorem m11_place (E : EV) (l : Launch) (a1 : Int32) (g : G) : ∀ u, k11_place a1 g = some u → MI E l yX11_place cX11_place 3 (some .int) 0 0 0 [.ref (E.ad 47), .int a1] g (u, g) := by
  intro u h
  refine MG.of (by decide +kernel) (Nat.le_of_ble_eq_true rfl) ?_
  intro p e s m args below meth c C hr hnm ls hl hG
  have C : Cx p s m args meth c cX11_place 3 RX11 E := C
  have hx := C.1
  have hb := C.2.1
  have hl : lv_has ls 3 [(0, .ref (E.ad 47)), (1, .int a1)] := hl
  unfold k11_place at h
  have j2 : ∀ f : Nat, ∀ (v1 : Int32) (v2 : Int32) (H : Heap) (locs : List Loc) (ls : Array Slot), Gd E s H locs g [] → lv_has ls 3 [(0, .ref (E.ad 47)), (1, .int v1), (2, .int v2)] → k11_place_2 g f v1 v2 = some u → W p l e (rmD 0 0 0) s m args below meth c H locs 0 0 (MQ below (QI E s.heap.size u g) args s 0 0 (AA E s.heap.size)) (F0 m 2 ls []) := by
    intro f
    induction f with
    | zero =>
      intro v1 v2 H locs ls hG hl h
      unfold k11_place_2 at h
      cases h
    | succ f ih =>
      intro v1 v2 H locs ls hG hl h
      unfold k11_place_2 at h
      refine lv_aload_n hx hb dX11_place_2 rfl (lv_at hl 0 rfl) ?_
      refine r_getA (j := 79) C hG FX11_48 rfl rfl dX11_place_3 ?_
      refine r_getR (d := 4) C hG FX11_283 rfl rfl (by decide) dX11_place_6 ?_
      refine lv_iload_n hx hb dX11_place_9 rfl (lv_at hl 2 rfl) ?_
      refine r_ild C hG (N := 10) rfl (by decide) dX11_place_10 h (fun x1 h => ?_)
      refine lv_iload_n hx hb dX11_place_11 rfl (lv_at hl 1 rfl) ?_
      refine lv_icmp_eq (tgt := 21) hx hb dX11_place_12 (by decide) (fun c2 => ?_) (fun c2 => ?_)
      · have h := (if_inv h).1 c2
        refine lv_iload_n hx hb dX11_place_21 rfl (lv_at hl 2 rfl) ?_
        exact r_iretP C hG hr rfl dX11_place_22 h
      · have h := (if_inv h).2 c2
        refine r_iinc (w := 1) (lv' := fun x3 => [(2, .int x3), (0, .ref (E.ad 47)), (1, .int v1)]) C dX11_place_15 hl (k := 2) rfl (by decide) (by decide) (fun _ => rfl) h (fun x3 ls hl h => ?_)
        refine lv_goto (tgt := 2) hx hb dX11_place_18 (by decide) ?_
        exact ih v1 x3 _ _ _ hG (lv_sub hl [1, 2, 0] rfl) h
  refine lv_iconst (v := 0) hx hb dX11_place_0 (by decide) ?_
  refine lv_istore_n (lv' := [(2, .int 0), (0, .ref (E.ad 47)), (1, .int a1)]) hx hb dX11_place_1 rfl hl (by decide) rfl (fun ls hl => ?_)
  exact j2 FU a1 0 _ _ _ hG (lv_sub hl [1, 2, 0] rfl) h
def k11_placeOf  (a1 : Int32) (g : G) : Option (Int32 × G) :=
  (k11_isMirror a1 g).bind fun u1 =>
  if u1.1 = 0 then
    some (0, u1.2)
  else
    (k11_place a1 u1.2).bind fun u3 =>
    some (u3, u1.2)
set_option maxRecDepth 100000 in
set_option maxHeartbeats 4000000 in
theorem m11_placeOf (E : EV) (l : Launch) (a1 : Int32) (g : G) : ∀ u, k11_placeOf a1 g = some u → MI E l yX11_placeOf cX11_placeOf 2 (some .int) 2 0 0 [.ref (E.ad 47), .int a1] g u := by
  intro u h
  refine MG.of (by decide +kernel) (Nat.le_of_ble_eq_true rfl) ?_
  intro p e s m args below meth c C hr hnm ls hl hG
  have C : Cx p s m args meth c cX11_placeOf 2 RX11 E := C
  have hx := C.1
  have hb := C.2.1
  have hl : lv_has ls 2 [(0, .ref (E.ad 47)), (1, .int a1)] := hl
  unfold k11_placeOf at h
  refine lv_aload_n hx hb dX11_placeOf_0 rfl (lv_at hl 0 rfl) ?_
  refine lv_iload_n hx hb dX11_placeOf_1 rfl (lv_at hl 1 rfl) ?_
  refine r_callVI C hl.1 hG [.int a1] [] (m11_isMirror E l a1 g) LX11_349 rfl KC11 rfl (rm_ok (by decide) (by decide)) (Nat.le_of_ble_eq_true rfl) ⟨Nat.le_refl _, Nat.le_refl _⟩ rfl dX11_placeOf_2 h (fun u1 H locs hG h => ?_)
  refine lv_if_eq (tgt := 16) hx hb dX11_placeOf_5 (by decide) (fun c2 => ?_) (fun c2 => ?_)
  · have h := (if_inv h).1 c2
    refine lv_iconst (v := 0) hx hb dX11_placeOf_16 (by decide) ?_
    exact r_iret C hG hr rfl dX11_placeOf_17 h
  · have h := (if_inv h).2 c2
    refine lv_aload_n hx hb dX11_placeOf_8 rfl (lv_at hl 0 rfl) ?_
    refine lv_iload_n hx hb dX11_placeOf_9 rfl (lv_at hl 1 rfl) ?_
    refine r_callVIP C hl.1 hG [.int a1] [] (m11_place E l a1 u1.2) LX11_352 rfl KC11 rfl (rm_ok (by decide) (by decide)) (Nat.le_of_ble_eq_true rfl) ⟨Nat.le_refl _, Nat.le_refl _⟩ rfl dX11_placeOf_10 h (fun u3 H locs hG h => ?_)
    refine lv_goto (tgt := 17) hx hb dX11_placeOf_13 (by decide) ?_
    exact r_iret C hG hr rfl dX11_placeOf_17 h
def k11_lightBehind  (a1 : Int32) (g : G) : Option (Int32 × G) :=
  (k11_shine 79 g).bind fun g1 =>
  (k11_isMirror a1 g1).bind fun u2 =>
  if u2.1 = 0 then
    some (0, u2.2)
  else
    ld u2.2 94 10 a1 fun x4 =>
    some (x4, u2.2)
set_option maxRecDepth 100000 in
set_option maxHeartbeats 4000000 in
theorem m11_lightBehind (E : EV) (l : Launch) (a1 : Int32) (g : G) : ∀ u, k11_lightBehind a1 g = some u → MI E l yX11_lightBehind cX11_lightBehind 2 (some .int) 3 0 0 [.ref (E.ad 47), .int a1] g u := by
  intro u h
  refine MG.of (by decide +kernel) (Nat.le_of_ble_eq_true rfl) ?_
  intro p e s m args below meth c C hr hnm ls hl hG
  have C : Cx p s m args meth c cX11_lightBehind 2 RX11 E := C
  have hx := C.1
  have hb := C.2.1
  have hl : lv_has ls 2 [(0, .ref (E.ad 47)), (1, .int a1)] := hl
  unfold k11_lightBehind at h
  refine lv_aload_n hx hb dX11_lightBehind_0 rfl (lv_at hl 0 rfl) ?_
  refine lv_aload_n hx hb dX11_lightBehind_1 rfl (lv_at hl 0 rfl) ?_
  refine r_getA (j := 79) C hG FX11_48 rfl rfl dX11_lightBehind_2 ?_
  refine r_callVV C hl.1 hG [.ref (E.ad 79)] [] (m11_shine E l 79 rfl g) LX11_300 rfl KC11 rfl (rm_ok (by decide) (by decide)) (Nat.le_of_ble_eq_true rfl) ⟨Nat.le_refl _, Nat.le_refl _⟩ rfl dX11_lightBehind_5 h (fun g1 H locs hG h => ?_)
  refine lv_aload_n hx hb dX11_lightBehind_8 rfl (lv_at hl 0 rfl) ?_
  refine lv_iload_n hx hb dX11_lightBehind_9 rfl (lv_at hl 1 rfl) ?_
  refine r_callVI C hl.1 hG [.int a1] [] (m11_isMirror E l a1 g1) LX11_349 rfl KC11 rfl (rm_ok (by decide) (by decide)) (Nat.le_of_ble_eq_true rfl) ⟨Nat.le_refl _, Nat.le_refl _⟩ rfl dX11_lightBehind_10 h (fun u2 H locs hG h => ?_)
  refine lv_if_eq (tgt := 25) hx hb dX11_lightBehind_13 (by decide) (fun c3 => ?_) (fun c3 => ?_)
  · have h := (if_inv h).1 c3
    refine lv_iconst (v := 0) hx hb dX11_lightBehind_25 (by decide) ?_
    exact r_iret C hG hr rfl dX11_lightBehind_26 h
  · have h := (if_inv h).2 c3
    refine lv_aload_n hx hb dX11_lightBehind_16 rfl (lv_at hl 0 rfl) ?_
    refine r_getA (j := 94) C hG FX11_58 rfl rfl dX11_lightBehind_17 ?_
    refine lv_iload_n hx hb dX11_lightBehind_20 rfl (lv_at hl 1 rfl) ?_
    refine r_ild C hG (N := 10) rfl (by decide) dX11_lightBehind_21 h (fun x4 h => ?_)
    refine lv_goto (tgt := 26) hx hb dX11_lightBehind_22 (by decide) ?_
    exact r_iret C hG hr rfl dX11_lightBehind_26 h
def k11_lostAt  (a1 : Int32) (g : G) : Option (Int32 × G) :=
  (k11_shine 79 g).bind fun g1 =>
  (k11_isMirror a1 g1).bind fun u2 =>
  if u2.1 = 0 then
    some (0, u2.2)
  else
    ld u2.2 93 10 a1 fun x4 =>
    ld u2.2 94 10 a1 fun x5 =>
    some ((x4 - x5), u2.2)
set_option maxRecDepth 100000 in
set_option maxHeartbeats 4000000 in
theorem m11_lostAt (E : EV) (l : Launch) (a1 : Int32) (g : G) : ∀ u, k11_lostAt a1 g = some u → MI E l yX11_lostAt cX11_lostAt 2 (some .int) 3 0 0 [.ref (E.ad 47), .int a1] g u := by
  intro u h
  refine MG.of (by decide +kernel) (Nat.le_of_ble_eq_true rfl) ?_
  intro p e s m args below meth c C hr hnm ls hl hG
  have C : Cx p s m args meth c cX11_lostAt 2 RX11 E := C
  have hx := C.1
  have hb := C.2.1
  have hl : lv_has ls 2 [(0, .ref (E.ad 47)), (1, .int a1)] := hl
  unfold k11_lostAt at h
  refine lv_aload_n hx hb dX11_lostAt_0 rfl (lv_at hl 0 rfl) ?_
  refine lv_aload_n hx hb dX11_lostAt_1 rfl (lv_at hl 0 rfl) ?_
  refine r_getA (j := 79) C hG FX11_48 rfl rfl dX11_lostAt_2 ?_
  refine r_callVV C hl.1 hG [.ref (E.ad 79)] [] (m11_shine E l 79 rfl g) LX11_300 rfl KC11 rfl (rm_ok (by decide) (by decide)) (Nat.le_of_ble_eq_true rfl) ⟨Nat.le_refl _, Nat.le_refl _⟩ rfl dX11_lostAt_5 h (fun g1 H locs hG h => ?_)
  refine lv_aload_n hx hb dX11_lostAt_8 rfl (lv_at hl 0 rfl) ?_
  refine lv_iload_n hx hb dX11_lostAt_9 rfl (lv_at hl 1 rfl) ?_
  refine r_callVI C hl.1 hG [.int a1] [] (m11_isMirror E l a1 g1) LX11_349 rfl KC11 rfl (rm_ok (by decide) (by decide)) (Nat.le_of_ble_eq_true rfl) ⟨Nat.le_refl _, Nat.le_refl _⟩ rfl dX11_lostAt_10 h (fun u2 H locs hG h => ?_)
  refine lv_if_eq (tgt := 32) hx hb dX11_lostAt_13 (by decide) (fun c3 => ?_) (fun c3 => ?_)
  · have h := (if_inv h).1 c3
    refine lv_iconst (v := 0) hx hb dX11_lostAt_32 (by decide) ?_
    exact r_iret C hG hr rfl dX11_lostAt_33 h
  · have h := (if_inv h).2 c3
    refine lv_aload_n hx hb dX11_lostAt_16 rfl (lv_at hl 0 rfl) ?_
    refine r_getA (j := 93) C hG FX11_55 rfl rfl dX11_lostAt_17 ?_
    refine lv_iload_n hx hb dX11_lostAt_20 rfl (lv_at hl 1 rfl) ?_
    refine r_ild C hG (N := 10) rfl (by decide) dX11_lostAt_21 h (fun x4 h => ?_)
    refine lv_aload_n hx hb dX11_lostAt_22 rfl (lv_at hl 0 rfl) ?_
    refine r_getA (j := 94) C hG FX11_58 rfl rfl dX11_lostAt_23 ?_
    refine lv_iload_n hx hb dX11_lostAt_26 rfl (lv_at hl 1 rfl) ?_
    refine r_ild C hG (N := 10) rfl (by decide) dX11_lostAt_27 h (fun x5 h => ?_)
    refine lv_isub hx hb dX11_lostAt_28 ?_
    refine lv_goto (tgt := 33) hx hb dX11_lostAt_29 (by decide) ?_
    exact r_iret C hG hr rfl dX11_lostAt_33 h
def k11_tiltBehind  (a1 : Int32) (g : G) : Option (Int32 × G) :=
  (k11_shine 79 g).bind fun g1 =>
  (k11_isMirror a1 g1).bind fun u2 =>
  if u2.1 = 0 then
    some (0, u2.2)
  else
    ld u2.2 95 10 a1 fun x4 =>
    some (x4, u2.2)
set_option maxRecDepth 100000 in
set_option maxHeartbeats 4000000 in
theorem m11_tiltBehind (E : EV) (l : Launch) (a1 : Int32) (g : G) : ∀ u, k11_tiltBehind a1 g = some u → MI E l yX11_tiltBehind cX11_tiltBehind 2 (some .int) 3 0 0 [.ref (E.ad 47), .int a1] g u := by
  intro u h
  refine MG.of (by decide +kernel) (Nat.le_of_ble_eq_true rfl) ?_
  intro p e s m args below meth c C hr hnm ls hl hG
  have C : Cx p s m args meth c cX11_tiltBehind 2 RX11 E := C
  have hx := C.1
  have hb := C.2.1
  have hl : lv_has ls 2 [(0, .ref (E.ad 47)), (1, .int a1)] := hl
  unfold k11_tiltBehind at h
  refine lv_aload_n hx hb dX11_tiltBehind_0 rfl (lv_at hl 0 rfl) ?_
  refine lv_aload_n hx hb dX11_tiltBehind_1 rfl (lv_at hl 0 rfl) ?_
  refine r_getA (j := 79) C hG FX11_48 rfl rfl dX11_tiltBehind_2 ?_
  refine r_callVV C hl.1 hG [.ref (E.ad 79)] [] (m11_shine E l 79 rfl g) LX11_300 rfl KC11 rfl (rm_ok (by decide) (by decide)) (Nat.le_of_ble_eq_true rfl) ⟨Nat.le_refl _, Nat.le_refl _⟩ rfl dX11_tiltBehind_5 h (fun g1 H locs hG h => ?_)
  refine lv_aload_n hx hb dX11_tiltBehind_8 rfl (lv_at hl 0 rfl) ?_
  refine lv_iload_n hx hb dX11_tiltBehind_9 rfl (lv_at hl 1 rfl) ?_
  refine r_callVI C hl.1 hG [.int a1] [] (m11_isMirror E l a1 g1) LX11_349 rfl KC11 rfl (rm_ok (by decide) (by decide)) (Nat.le_of_ble_eq_true rfl) ⟨Nat.le_refl _, Nat.le_refl _⟩ rfl dX11_tiltBehind_10 h (fun u2 H locs hG h => ?_)
  refine lv_if_eq (tgt := 25) hx hb dX11_tiltBehind_13 (by decide) (fun c3 => ?_) (fun c3 => ?_)
  · have h := (if_inv h).1 c3
    refine lv_iconst (v := 0) hx hb dX11_tiltBehind_25 (by decide) ?_
    exact r_iret C hG hr rfl dX11_tiltBehind_26 h
  · have h := (if_inv h).2 c3
    refine lv_aload_n hx hb dX11_tiltBehind_16 rfl (lv_at hl 0 rfl) ?_
    refine r_getA (j := 95) C hG FX11_61 rfl rfl dX11_tiltBehind_17 ?_
    refine lv_iload_n hx hb dX11_tiltBehind_20 rfl (lv_at hl 1 rfl) ?_
    refine r_ild C hG (N := 10) rfl (by decide) dX11_tiltBehind_21 h (fun x4 h => ?_)
    refine lv_goto (tgt := 26) hx hb dX11_tiltBehind_22 (by decide) ?_
    exact r_iret C hG hr rfl dX11_tiltBehind_26 h
def k11_isCovered  (a1 : Int32) (g : G) : Option (Int32 × G) :=
  (k11_isMirror a1 g).bind fun u1 =>
  if u1.1 = 0 then
    some (0, u1.2)
  else
    (k9_isCovered 79 a1 u1.2).bind fun u3 =>
    if u3 = 0 then
      some (0, u1.2)
    else
      some (1, u1.2)
set_option maxRecDepth 100000 in
set_option maxHeartbeats 4000000 in
theorem m11_isCovered (E : EV) (l : Launch) (a1 : Int32) (g : G) : ∀ u, k11_isCovered a1 g = some u → MI E l yX11_isCovered cX11_isCovered 2 (some .boolean) 2 0 0 [.ref (E.ad 47), .int a1] g u := by
  intro u h
  refine MG.of (by decide +kernel) (Nat.le_of_ble_eq_true rfl) ?_
  intro p e s m args below meth c C hr hnm ls hl hG
  have C : Cx p s m args meth c cX11_isCovered 2 RX11 E := C
  have hx := C.1
  have hb := C.2.1
  have hl : lv_has ls 2 [(0, .ref (E.ad 47)), (1, .int a1)] := hl
  unfold k11_isCovered at h
  refine lv_aload_n hx hb dX11_isCovered_0 rfl (lv_at hl 0 rfl) ?_
  refine lv_iload_n hx hb dX11_isCovered_1 rfl (lv_at hl 1 rfl) ?_
  refine r_callVI C hl.1 hG [.int a1] [] (m11_isMirror E l a1 g) LX11_349 rfl KC11 rfl (rm_ok (by decide) (by decide)) (Nat.le_of_ble_eq_true rfl) ⟨Nat.le_refl _, Nat.le_refl _⟩ rfl dX11_isCovered_2 h (fun u1 H locs hG h => ?_)
  refine lv_if_eq (tgt := 23) hx hb dX11_isCovered_5 (by decide) (fun c2 => ?_) (fun c2 => ?_)
  · have h := (if_inv h).1 c2
    refine lv_iconst (v := 0) hx hb dX11_isCovered_23 (by decide) ?_
    exact r_iret C hG hr rfl dX11_isCovered_24 h
  · have h := (if_inv h).2 c2
    refine lv_aload_n hx hb dX11_isCovered_8 rfl (lv_at hl 0 rfl) ?_
    refine r_getA (j := 79) C hG FX11_48 rfl rfl dX11_isCovered_9 ?_
    refine lv_iload_n hx hb dX11_isCovered_12 rfl (lv_at hl 1 rfl) ?_
    refine r_callVIP C hl.1 hG [.int a1] [] (m9_isCovered E l 79 rfl a1 u1.2) LX11_289 rfl KC9 rfl (rm_ok (by decide) (by decide)) (Nat.le_of_ble_eq_true rfl) ⟨Nat.le_refl _, Nat.le_refl _⟩ rfl dX11_isCovered_13 h (fun u3 H locs hG h => ?_)
    refine lv_if_eq (tgt := 23) hx hb dX11_isCovered_16 (by decide) (fun c4 => ?_) (fun c4 => ?_)
    · have h := (if_inv h).1 c4
      refine lv_iconst (v := 0) hx hb dX11_isCovered_23 (by decide) ?_
      exact r_iret C hG hr rfl dX11_isCovered_24 h
    · have h := (if_inv h).2 c4
      refine lv_iconst (v := 1) hx hb dX11_isCovered_19 (by decide) ?_
      refine lv_goto (tgt := 24) hx hb dX11_isCovered_20 (by decide) ?_
      exact r_iret C hG hr rfl dX11_isCovered_24 h
def k11_mirrorAt  (a1 : Int32) (g : G) : Option (Int32 × G) :=
  (k11_isMirror a1 g).bind fun u1 =>
  if u1.1 = 0 then
    some (0, u1.2)
  else
    ld u1.2 83 10 a1 fun x3 =>
    some (x3, u1.2)
set_option maxRecDepth 100000 in
set_option maxHeartbeats 4000000 in
theorem m11_mirrorAt (E : EV) (l : Launch) (a1 : Int32) (g : G) : ∀ u, k11_mirrorAt a1 g = some u → MI E l yX11_mirrorAt cX11_mirrorAt 2 (some .int) 2 0 0 [.ref (E.ad 47), .int a1] g u := by
  intro u h
  refine MG.of (by decide +kernel) (Nat.le_of_ble_eq_true rfl) ?_
  intro p e s m args below meth c C hr hnm ls hl hG
  have C : Cx p s m args meth c cX11_mirrorAt 2 RX11 E := C
  have hx := C.1
  have hb := C.2.1
  have hl : lv_has ls 2 [(0, .ref (E.ad 47)), (1, .int a1)] := hl
  unfold k11_mirrorAt at h
  refine lv_aload_n hx hb dX11_mirrorAt_0 rfl (lv_at hl 0 rfl) ?_
  refine lv_iload_n hx hb dX11_mirrorAt_1 rfl (lv_at hl 1 rfl) ?_
  refine r_callVI C hl.1 hG [.int a1] [] (m11_isMirror E l a1 g) LX11_349 rfl KC11 rfl (rm_ok (by decide) (by decide)) (Nat.le_of_ble_eq_true rfl) ⟨Nat.le_refl _, Nat.le_refl _⟩ rfl dX11_mirrorAt_2 h (fun u1 H locs hG h => ?_)
  refine lv_if_eq (tgt := 20) hx hb dX11_mirrorAt_5 (by decide) (fun c2 => ?_) (fun c2 => ?_)
  · have h := (if_inv h).1 c2
    refine lv_iconst (v := 0) hx hb dX11_mirrorAt_20 (by decide) ?_
    exact r_iret C hG hr rfl dX11_mirrorAt_21 h
  · have h := (if_inv h).2 c2
    refine lv_aload_n hx hb dX11_mirrorAt_8 rfl (lv_at hl 0 rfl) ?_
    refine r_getA (j := 79) C hG FX11_48 rfl rfl dX11_mirrorAt_9 ?_
    refine r_getR (d := 4) C hG FX11_283 rfl rfl (by decide) dX11_mirrorAt_12 ?_
    refine lv_iload_n hx hb dX11_mirrorAt_15 rfl (lv_at hl 1 rfl) ?_
    refine r_ild C hG (N := 10) rfl (by decide) dX11_mirrorAt_16 h (fun x3 h => ?_)
    refine lv_goto (tgt := 21) hx hb dX11_mirrorAt_17 (by decide) ?_
    exact r_iret C hG hr rfl dX11_mirrorAt_21 h
def k11_isJob_25  (v2 : Int32) (t0 : Int32) (g : G) : Option (Int32 × G) :=
      bd (up g 47 0 t0) fun g1 =>
      zr v2 g1
def k11_isJob  (a1 : Int32) (g : G) : Option (Int32 × G) :=
  (k11_isIn a1 0 ((g 79 6) - 1) g).bind fun u2 =>
  if u2 = 0 then
    k11_isJob_25 u2 1 g
  else
    k11_isJob_25 u2 0 g
set_option maxRecDepth 100000 in
set_option maxHeartbeats 4000000 in
theorem m11_isJob (E : EV) (l : Launch) (a1 : Int32) (g : G) : ∀ u, k11_isJob a1 g = some u → MI E l yX11_isJob cX11_isJob 3 (some .boolean) 1 0 0 [.ref (E.ad 47), .int a1] g u := by
  intro u h
  refine MG.of (by decide +kernel) (Nat.le_of_ble_eq_true rfl) ?_
  intro p e s m args below meth c C hr hnm ls hl hG
  have C : Cx p s m args meth c cX11_isJob 3 RX11 E := C
  have hx := C.1
  have hb := C.2.1
  have hl : lv_has ls 3 [(0, .ref (E.ad 47)), (1, .int a1)] := hl
  unfold k11_isJob at h
  have j25 : ∀ (v2 : Int32) (t0 : Int32) (g : G) (H : Heap) (locs : List Loc) (ls : Array Slot), Gd E s H locs g [] → lv_has ls 3 [(2, .int v2)] → k11_isJob_25 v2 t0 g = some u → W p l e (rmD 1 0 0) s m args below meth c H locs 0 0 (MQ below (QI E s.heap.size u.1 u.2) args s 0 0 (AA E s.heap.size)) (F0 m 25 ls [.int t0, .ref (E.ad 47)]) := by
    intro v2 t0 g H locs ls hG hl h
    unfold k11_isJob_25 at h
    refine r_putI C hG FX11_64 rfl rfl dX11_isJob_25 h (fun H locs g1 hG h => ?_)
    refine lv_iload_n hx hb dX11_isJob_28 rfl (lv_at hl 0 rfl) ?_
    exact r_zret C hG hr dX11_isJob_29 h
  refine lv_iload_n hx hb dX11_isJob_0 rfl (lv_at hl 1 rfl) ?_
  refine lv_iconst (v := 0) hx hb dX11_isJob_1 (by decide) ?_
  refine lv_aload_n hx hb dX11_isJob_2 rfl (lv_at hl 0 rfl) ?_
  refine r_getA (j := 79) C hG FX11_48 rfl rfl dX11_isJob_3 ?_
  refine r_getI C hG FX11_311 rfl rfl dX11_isJob_6 ?_
  refine lv_iconst (v := 1) hx hb dX11_isJob_9 (by decide) ?_
  refine lv_isub hx hb dX11_isJob_10 ?_
  refine r_callSIP C hl.1 hG [.int a1, .int 0, .int ((g 79 6) - 1)] [] (m11_isIn E l a1 0 ((g 79 6) - 1) g) LX11_67 rfl (rm_ok (by decide) (by decide)) (Nat.le_of_ble_eq_true rfl) ⟨Nat.le_refl _, Nat.le_refl _⟩ rfl dX11_isJob_11 h (fun u2 H locs hG h => ?_)
  refine lv_istore_n (lv' := [(2, .int u2), (0, .ref (E.ad 47)), (1, .int a1)]) hx hb dX11_isJob_14 rfl hl (by decide) rfl (fun ls hl => ?_)
  refine lv_aload_n hx hb dX11_isJob_15 rfl (lv_at hl 1 rfl) ?_
  refine lv_iload_n hx hb dX11_isJob_16 rfl (lv_at hl 0 rfl) ?_
  refine lv_if_eq (tgt := 24) hx hb dX11_isJob_17 (by decide) (fun c3 => ?_) (fun c3 => ?_)
  · have h := (if_inv h).1 c3
    refine lv_iconst (v := 1) hx hb dX11_isJob_24 (by decide) ?_
    exact j25 u2 1 g _ _ _ hG (lv_sub hl [0] rfl) h
  · have h := (if_inv h).2 c3
    refine lv_iconst (v := 0) hx hb dX11_isJob_20 (by decide) ?_
    refine lv_goto (tgt := 25) hx hb dX11_isJob_21 (by decide) ?_
    exact j25 u2 0 g _ _ _ hG (lv_sub hl [0] rfl) h
def k11_jobs  (g : G) : Option (Int32 × G) :=
  (k11_ok (g 79 6) g).bind fun u1 =>
  some (u1.1, u1.2)
set_option maxRecDepth 100000 in
set_option maxHeartbeats 4000000 in
theorem m11_jobs (E : EV) (l : Launch) (g : G) : ∀ u, k11_jobs g = some u → MI E l yX11_jobs cX11_jobs 1 (some .int) 1 0 0 [.ref (E.ad 47)] g u := by
  intro u h
  refine MG.of (by decide +kernel) (Nat.le_of_ble_eq_true rfl) ?_
  intro p e s m args below meth c C hr hnm ls hl hG
  have C : Cx p s m args meth c cX11_jobs 1 RX11 E := C
  have hx := C.1
  have hb := C.2.1
  have hl : lv_has ls 1 [(0, .ref (E.ad 47))] := hl
  unfold k11_jobs at h
  refine lv_aload_n hx hb dX11_jobs_0 rfl (lv_at hl 0 rfl) ?_
  refine lv_aload_n hx hb dX11_jobs_1 rfl (lv_at hl 0 rfl) ?_
  refine r_getA (j := 79) C hG FX11_48 rfl rfl dX11_jobs_2 ?_
  refine r_getI C hG FX11_311 rfl rfl dX11_jobs_5 ?_
  refine r_callVI C hl.1 hG [.int (g 79 6)] [] (m11_ok E l (g 79 6) g) LX11_280 rfl KC11 rfl (rm_ok (by decide) (by decide)) (Nat.le_of_ble_eq_true rfl) ⟨Nat.le_refl _, Nat.le_refl _⟩ rfl dX11_jobs_8 h (fun u1 H locs hG h => ?_)
  exact r_iret C hG hr rfl dX11_jobs_11 h
def k11_jobsDone  (g : G) : Option (Int32 × G) :=
  (k11_ok (g 79 9) g).bind fun u1 =>
  some (u1.1, u1.2)
set_option maxRecDepth 100000 in
set_option maxHeartbeats 4000000 in
theorem m11_jobsDone (E : EV) (l : Launch) (g : G) : ∀ u, k11_jobsDone g = some u → MI E l yX11_jobsDone cX11_jobsDone 1 (some .int) 1 0 0 [.ref (E.ad 47)] g u := by
  intro u h
  refine MG.of (by decide +kernel) (Nat.le_of_ble_eq_true rfl) ?_
  intro p e s m args below meth c C hr hnm ls hl hG
  have C : Cx p s m args meth c cX11_jobsDone 1 RX11 E := C
  have hx := C.1
  have hb := C.2.1
  have hl : lv_has ls 1 [(0, .ref (E.ad 47))] := hl
  unfold k11_jobsDone at h
  refine lv_aload_n hx hb dX11_jobsDone_0 rfl (lv_at hl 0 rfl) ?_
  refine lv_aload_n hx hb dX11_jobsDone_1 rfl (lv_at hl 0 rfl) ?_
  refine r_getA (j := 79) C hG FX11_48 rfl rfl dX11_jobsDone_2 ?_
  refine r_getI C hG FX11_355 rfl rfl dX11_jobsDone_5 ?_
  refine r_callVI C hl.1 hG [.int (g 79 9)] [] (m11_ok E l (g 79 9) g) LX11_280 rfl KC11 rfl (rm_ok (by decide) (by decide)) (Nat.le_of_ble_eq_true rfl) ⟨Nat.le_refl _, Nat.le_refl _⟩ rfl dX11_jobsDone_8 h (fun u1 H locs hG h => ?_)
  exact r_iret C hG hr rfl dX11_jobsDone_11 h
def k11_kindOfJob  (a1 : Int32) (g : G) : Option (Int32 × G) :=
  (k11_isJob a1 g).bind fun u1 =>
  if u1.1 = 0 then
    some (0, u1.2)
  else
    ld u1.2 84 12 a1 fun x3 =>
    some (x3, u1.2)
set_option maxRecDepth 100000 in
set_option maxHeartbeats 4000000 in
theorem m11_kindOfJob (E : EV) (l : Launch) (a1 : Int32) (g : G) : ∀ u, k11_kindOfJob a1 g = some u → MI E l yX11_kindOfJob cX11_kindOfJob 2 (some .int) 2 0 0 [.ref (E.ad 47), .int a1] g u := by
  intro u h
  refine MG.of (by decide +kernel) (Nat.le_of_ble_eq_true rfl) ?_
  intro p e s m args below meth c C hr hnm ls hl hG
  have C : Cx p s m args meth c cX11_kindOfJob 2 RX11 E := C
  have hx := C.1
  have hb := C.2.1
  have hl : lv_has ls 2 [(0, .ref (E.ad 47)), (1, .int a1)] := hl
  unfold k11_kindOfJob at h
  refine lv_aload_n hx hb dX11_kindOfJob_0 rfl (lv_at hl 0 rfl) ?_
  refine lv_iload_n hx hb dX11_kindOfJob_1 rfl (lv_at hl 1 rfl) ?_
  refine r_callVI C hl.1 hG [.int a1] [] (m11_isJob E l a1 g) LX11_358 rfl KC11 rfl (rm_ok (by decide) (by decide)) (Nat.le_of_ble_eq_true rfl) ⟨Nat.le_refl _, Nat.le_refl _⟩ rfl dX11_kindOfJob_2 h (fun u1 H locs hG h => ?_)
  refine lv_if_eq (tgt := 20) hx hb dX11_kindOfJob_5 (by decide) (fun c2 => ?_) (fun c2 => ?_)
  · have h := (if_inv h).1 c2
    refine lv_iconst (v := 0) hx hb dX11_kindOfJob_20 (by decide) ?_
    exact r_iret C hG hr rfl dX11_kindOfJob_21 h
  · have h := (if_inv h).2 c2
    refine lv_aload_n hx hb dX11_kindOfJob_8 rfl (lv_at hl 0 rfl) ?_
    refine r_getA (j := 79) C hG FX11_48 rfl rfl dX11_kindOfJob_9 ?_
    refine r_getR (d := 5) C hG FX11_361 rfl rfl (by decide) dX11_kindOfJob_12 ?_
    refine lv_iload_n hx hb dX11_kindOfJob_15 rfl (lv_at hl 1 rfl) ?_
    refine r_ild C hG (N := 12) rfl (by decide) dX11_kindOfJob_16 h (fun x3 h => ?_)
    refine lv_goto (tgt := 21) hx hb dX11_kindOfJob_17 (by decide) ?_
    exact r_iret C hG hr rfl dX11_kindOfJob_21 h
def k11_mirrorOfJob  (a1 : Int32) (g : G) : Option (Int32 × G) :=
  (k11_isJob a1 g).bind fun u1 =>
  if u1.1 = 0 then
    some (0, u1.2)
  else
    ld u1.2 85 12 a1 fun x3 =>
    some (x3, u1.2)
set_option maxRecDepth 100000 in
set_option maxHeartbeats 4000000 in
theorem m11_mirrorOfJob (E : EV) (l : Launch) (a1 : Int32) (g : G) : ∀ u, k11_mirrorOfJob a1 g = some u → MI E l yX11_mirrorOfJob cX11_mirrorOfJob 2 (some .int) 2 0 0 [.ref (E.ad 47), .int a1] g u := by
  intro u h
  refine MG.of (by decide +kernel) (Nat.le_of_ble_eq_true rfl) ?_
  intro p e s m args below meth c C hr hnm ls hl hG
  have C : Cx p s m args meth c cX11_mirrorOfJob 2 RX11 E := C
  have hx := C.1
  have hb := C.2.1
  have hl : lv_has ls 2 [(0, .ref (E.ad 47)), (1, .int a1)] := hl
  unfold k11_mirrorOfJob at h
  refine lv_aload_n hx hb dX11_mirrorOfJob_0 rfl (lv_at hl 0 rfl) ?_
  refine lv_iload_n hx hb dX11_mirrorOfJob_1 rfl (lv_at hl 1 rfl) ?_
  refine r_callVI C hl.1 hG [.int a1] [] (m11_isJob E l a1 g) LX11_358 rfl KC11 rfl (rm_ok (by decide) (by decide)) (Nat.le_of_ble_eq_true rfl) ⟨Nat.le_refl _, Nat.le_refl _⟩ rfl dX11_mirrorOfJob_2 h (fun u1 H locs hG h => ?_)
  refine lv_if_eq (tgt := 20) hx hb dX11_mirrorOfJob_5 (by decide) (fun c2 => ?_) (fun c2 => ?_)
  · have h := (if_inv h).1 c2
    refine lv_iconst (v := 0) hx hb dX11_mirrorOfJob_20 (by decide) ?_
    exact r_iret C hG hr rfl dX11_mirrorOfJob_21 h
  · have h := (if_inv h).2 c2
    refine lv_aload_n hx hb dX11_mirrorOfJob_8 rfl (lv_at hl 0 rfl) ?_
    refine r_getA (j := 79) C hG FX11_48 rfl rfl dX11_mirrorOfJob_9 ?_
    refine r_getR (d := 6) C hG FX11_364 rfl rfl (by decide) dX11_mirrorOfJob_12 ?_
    refine lv_iload_n hx hb dX11_mirrorOfJob_15 rfl (lv_at hl 1 rfl) ?_
    refine r_ild C hG (N := 12) rfl (by decide) dX11_mirrorOfJob_16 h (fun x3 h => ?_)
    refine lv_goto (tgt := 21) hx hb dX11_mirrorOfJob_17 (by decide) ?_
    exact r_iret C hG hr rfl dX11_mirrorOfJob_21 h
def k11_minutesToGo  (g : G) : Option (Int32 × G) :=
  (k11_ok (g 79 7) g).bind fun u1 =>
  some (u1.1, u1.2)
set_option maxRecDepth 100000 in
set_option maxHeartbeats 4000000 in
theorem m11_minutesToGo (E : EV) (l : Launch) (g : G) : ∀ u, k11_minutesToGo g = some u → MI E l yX11_minutesToGo cX11_minutesToGo 1 (some .int) 1 0 0 [.ref (E.ad 47)] g u := by
  intro u h
  refine MG.of (by decide +kernel) (Nat.le_of_ble_eq_true rfl) ?_
  intro p e s m args below meth c C hr hnm ls hl hG
  have C : Cx p s m args meth c cX11_minutesToGo 1 RX11 E := C
  have hx := C.1
  have hb := C.2.1
  have hl : lv_has ls 1 [(0, .ref (E.ad 47))] := hl
  unfold k11_minutesToGo at h
  refine lv_aload_n hx hb dX11_minutesToGo_0 rfl (lv_at hl 0 rfl) ?_
  refine lv_aload_n hx hb dX11_minutesToGo_1 rfl (lv_at hl 0 rfl) ?_
  refine r_getA (j := 79) C hG FX11_48 rfl rfl dX11_minutesToGo_2 ?_
  refine r_getI C hG FX11_367 rfl rfl dX11_minutesToGo_5 ?_
  refine r_callVI C hl.1 hG [.int (g 79 7)] [] (m11_ok E l (g 79 7) g) LX11_280 rfl KC11 rfl (rm_ok (by decide) (by decide)) (Nat.le_of_ble_eq_true rfl) ⟨Nat.le_refl _, Nat.le_refl _⟩ rfl dX11_minutesToGo_8 h (fun u1 H locs hG h => ?_)
  exact r_iret C hG hr rfl dX11_minutesToGo_11 h
def k11_orderJob  (a1 : Int32) (a2 : Int32) (g : G) : Option (Int32 × G) :=
  (k11_isMirror a1 g).bind fun u1 =>
  if u1.1 = 0 then
    some (0, u1.2)
  else
    (k11_isIn a2 0 2 u1.2).bind fun u3 =>
    if u3 = 0 then
      (k11_no 2 u1.2).bind fun u8 =>
      some (u8.1, u8.2)
    else
      (k9_order 79 a2 a1 u1.2).bind fun u5 =>
      if u5.1 = 0 then
        (k11_no 3 u5.2).bind fun u7 =>
        some (u7.1, u7.2)
      else
        some ((u5.2 79 6), u5.2)
set_option maxRecDepth 100000 in
set_option maxHeartbeats 4000000 in
theorem m11_orderJob (E : EV) (l : Launch) (a1 : Int32) (a2 : Int32) (g : G) : ∀ u, k11_orderJob a1 a2 g = some u → MI E l yX11_orderJob cX11_orderJob 3 (some .int) 2 0 0 [.ref (E.ad 47), .int a1, .int a2] g u := by
  intro u h
  refine MG.of (by decide +kernel) (Nat.le_of_ble_eq_true rfl) ?_
  intro p e s m args below meth c C hr hnm ls hl hG
  have C : Cx p s m args meth c cX11_orderJob 3 RX11 E := C
  have hx := C.1
  have hb := C.2.1
  have hl : lv_has ls 3 [(0, .ref (E.ad 47)), (1, .int a1), (2, .int a2)] := hl
  unfold k11_orderJob at h
  refine lv_aload_n hx hb dX11_orderJob_0 rfl (lv_at hl 0 rfl) ?_
  refine lv_iload_n hx hb dX11_orderJob_1 rfl (lv_at hl 1 rfl) ?_
  refine r_callVI C hl.1 hG [.int a1] [] (m11_isMirror E l a1 g) LX11_349 rfl KC11 rfl (rm_ok (by decide) (by decide)) (Nat.le_of_ble_eq_true rfl) ⟨Nat.le_refl _, Nat.le_refl _⟩ rfl dX11_orderJob_2 h (fun u1 H locs hG h => ?_)
  refine lv_if_ne (tgt := 10) hx hb dX11_orderJob_5 (by decide) (fun c2 => ?_) (fun c2 => ?_)
  · have h := (if_inv h).2 c2
    refine lv_iload_n hx hb dX11_orderJob_10 rfl (lv_at hl 2 rfl) ?_
    refine lv_iconst (v := 0) hx hb dX11_orderJob_11 (by decide) ?_
    refine lv_iconst (v := 2) hx hb dX11_orderJob_12 (by decide) ?_
    refine r_callSIP C hl.1 hG [.int a2, .int 0, .int 2] [] (m11_isIn E l a2 0 2 u1.2) LX11_67 rfl (rm_ok (by decide) (by decide)) (Nat.le_of_ble_eq_true rfl) ⟨Nat.le_refl _, Nat.le_refl _⟩ rfl dX11_orderJob_13 h (fun u3 H locs hG h => ?_)
    refine lv_if_ne (tgt := 25) hx hb dX11_orderJob_16 (by decide) (fun c4 => ?_) (fun c4 => ?_)
    · have h := (if_inv h).2 c4
      refine lv_aload_n hx hb dX11_orderJob_25 rfl (lv_at hl 0 rfl) ?_
      refine r_getA (j := 79) C hG FX11_48 rfl rfl dX11_orderJob_26 ?_
      refine lv_iload_n hx hb dX11_orderJob_29 rfl (lv_at hl 2 rfl) ?_
      refine lv_iload_n hx hb dX11_orderJob_30 rfl (lv_at hl 1 rfl) ?_
      refine r_callVI C hl.1 hG [.int a2, .int a1] [] (m9_order E l 79 rfl a2 a1 u1.2) LX11_340 rfl KC9 rfl (rm_ok (by decide) (by decide)) (Nat.le_of_ble_eq_true rfl) ⟨Nat.le_refl _, Nat.le_refl _⟩ rfl dX11_orderJob_31 h (fun u5 H locs hG h => ?_)
      refine lv_if_eq (tgt := 47) hx hb dX11_orderJob_34 (by decide) (fun c6 => ?_) (fun c6 => ?_)
      · have h := (if_inv h).1 c6
        refine lv_aload_n hx hb dX11_orderJob_47 rfl (lv_at hl 0 rfl) ?_
        refine lv_iconst (v := 3) hx hb dX11_orderJob_48 (by decide) ?_
        refine r_callVI C hl.1 hG [.int 3] [] (m11_no E l 3 u5.2) LX11_262 rfl KC11 rfl (rm_ok (by decide) (by decide)) (Nat.le_of_ble_eq_true rfl) ⟨Nat.le_refl _, Nat.le_refl _⟩ rfl dX11_orderJob_49 h (fun u7 H locs hG h => ?_)
        exact r_iret C hG hr rfl dX11_orderJob_52 h
      · have h := (if_inv h).2 c6
        refine lv_aload_n hx hb dX11_orderJob_37 rfl (lv_at hl 0 rfl) ?_
        refine r_getA (j := 79) C hG FX11_48 rfl rfl dX11_orderJob_38 ?_
        refine r_getI C hG FX11_311 rfl rfl dX11_orderJob_41 ?_
        refine lv_goto (tgt := 52) hx hb dX11_orderJob_44 (by decide) ?_
        exact r_iret C hG hr rfl dX11_orderJob_52 h
    · have h := (if_inv h).1 c4
      refine lv_aload_n hx hb dX11_orderJob_19 rfl (lv_at hl 0 rfl) ?_
      refine lv_iconst (v := 2) hx hb dX11_orderJob_20 (by decide) ?_
      refine r_callVI C hl.1 hG [.int 2] [] (m11_no E l 2 u1.2) LX11_262 rfl KC11 rfl (rm_ok (by decide) (by decide)) (Nat.le_of_ble_eq_true rfl) ⟨Nat.le_refl _, Nat.le_refl _⟩ rfl dX11_orderJob_21 h (fun u8 H locs hG h => ?_)
      exact r_iret C hG hr rfl dX11_orderJob_24 h
  · have h := (if_inv h).1 c2
    refine lv_iconst (v := 0) hx hb dX11_orderJob_8 (by decide) ?_
    exact r_iret C hG hr rfl dX11_orderJob_9 h
def k11_cancelJob  (a1 : Int32) (g : G) : Option (Int32 × G) :=
  (k11_isJob a1 g).bind fun u1 =>
  if u1.1 = 0 then
    some (0, u1.2)
  else
    (k9_take 79 a1 u1.2).bind fun u3 =>
    some (u3.1, u3.2)
set_option maxRecDepth 100000 in
set_option maxHeartbeats 4000000 in
theorem m11_cancelJob (E : EV) (l : Launch) (a1 : Int32) (g : G) : ∀ u, k11_cancelJob a1 g = some u → MI E l yX11_cancelJob cX11_cancelJob 2 (some .int) 2 0 0 [.ref (E.ad 47), .int a1] g u := by
  intro u h
  refine MG.of (by decide +kernel) (Nat.le_of_ble_eq_true rfl) ?_
  intro p e s m args below meth c C hr hnm ls hl hG
  have C : Cx p s m args meth c cX11_cancelJob 2 RX11 E := C
  have hx := C.1
  have hb := C.2.1
  have hl : lv_has ls 2 [(0, .ref (E.ad 47)), (1, .int a1)] := hl
  unfold k11_cancelJob at h
  refine lv_aload_n hx hb dX11_cancelJob_0 rfl (lv_at hl 0 rfl) ?_
  refine lv_iload_n hx hb dX11_cancelJob_1 rfl (lv_at hl 1 rfl) ?_
  refine r_callVI C hl.1 hG [.int a1] [] (m11_isJob E l a1 g) LX11_358 rfl KC11 rfl (rm_ok (by decide) (by decide)) (Nat.le_of_ble_eq_true rfl) ⟨Nat.le_refl _, Nat.le_refl _⟩ rfl dX11_cancelJob_2 h (fun u1 H locs hG h => ?_)
  refine lv_if_eq (tgt := 19) hx hb dX11_cancelJob_5 (by decide) (fun c2 => ?_) (fun c2 => ?_)
  · have h := (if_inv h).1 c2
    refine lv_iconst (v := 0) hx hb dX11_cancelJob_19 (by decide) ?_
    exact r_iret C hG hr rfl dX11_cancelJob_20 h
  · have h := (if_inv h).2 c2
    refine lv_aload_n hx hb dX11_cancelJob_8 rfl (lv_at hl 0 rfl) ?_
    refine r_getA (j := 79) C hG FX11_48 rfl rfl dX11_cancelJob_9 ?_
    refine lv_iload_n hx hb dX11_cancelJob_12 rfl (lv_at hl 1 rfl) ?_
    refine r_callVI C hl.1 hG [.int a1] [] (m9_take E l 79 rfl a1 u1.2) LX11_370 rfl KC9 rfl (rm_ok (by decide) (by decide)) (Nat.le_of_ble_eq_true rfl) ⟨Nat.le_refl _, Nat.le_refl _⟩ rfl dX11_cancelJob_13 h (fun u3 H locs hG h => ?_)
    refine lv_goto (tgt := 20) hx hb dX11_cancelJob_16 (by decide) ?_
    exact r_iret C hG hr rfl dX11_cancelJob_20 h
def k11_turnMirror  (a1 : Int32) (a2 : Int32) (g : G) : Option (Int32 × G) :=
  (k11_isMirror a1 g).bind fun u1 =>
  if u1.1 = 0 then
    some (0, u1.2)
  else
    (k11_isIn a2 (-90) 90 u1.2).bind fun u3 =>
    if u3 = 0 then
      (k11_no 2 u1.2).bind fun u7 =>
      some (u7.1, u7.2)
    else
      ld u1.2 82 10 a1 fun x5 =>
      sto u1.2 82 10 a1 a2 fun g6 =>
      some (x5, g6)
set_option maxRecDepth 100000 in
set_option maxHeartbeats 4000000 in
theorem m11_turnMirror (E : EV) (l : Launch) (a1 : Int32) (a2 : Int32) (g : G) : ∀ u, k11_turnMirror a1 a2 g = some u → MI E l yX11_turnMirror cX11_turnMirror 4 (some .int) 2 0 0 [.ref (E.ad 47), .int a1, .int a2] g u := by
  intro u h
  refine MG.of (by decide +kernel) (Nat.le_of_ble_eq_true rfl) ?_
  intro p e s m args below meth c C hr hnm ls hl hG
  have C : Cx p s m args meth c cX11_turnMirror 4 RX11 E := C
  have hx := C.1
  have hb := C.2.1
  have hl : lv_has ls 4 [(0, .ref (E.ad 47)), (1, .int a1), (2, .int a2)] := hl
  unfold k11_turnMirror at h
  refine lv_aload_n hx hb dX11_turnMirror_0 rfl (lv_at hl 0 rfl) ?_
  refine lv_iload_n hx hb dX11_turnMirror_1 rfl (lv_at hl 1 rfl) ?_
  refine r_callVI C hl.1 hG [.int a1] [] (m11_isMirror E l a1 g) LX11_349 rfl KC11 rfl (rm_ok (by decide) (by decide)) (Nat.le_of_ble_eq_true rfl) ⟨Nat.le_refl _, Nat.le_refl _⟩ rfl dX11_turnMirror_2 h (fun u1 H locs hG h => ?_)
  refine lv_if_ne (tgt := 10) hx hb dX11_turnMirror_5 (by decide) (fun c2 => ?_) (fun c2 => ?_)
  · have h := (if_inv h).2 c2
    refine lv_iload_n hx hb dX11_turnMirror_10 rfl (lv_at hl 2 rfl) ?_
    refine lv_bipush (v := (-90)) hx hb dX11_turnMirror_11 (by decide) ?_
    refine lv_bipush (v := 90) hx hb dX11_turnMirror_13 (by decide) ?_
    refine r_callSIP C hl.1 hG [.int a2, .int (-90), .int 90] [] (m11_isIn E l a2 (-90) 90 u1.2) LX11_67 rfl (rm_ok (by decide) (by decide)) (Nat.le_of_ble_eq_true rfl) ⟨Nat.le_refl _, Nat.le_refl _⟩ rfl dX11_turnMirror_15 h (fun u3 H locs hG h => ?_)
    refine lv_if_ne (tgt := 27) hx hb dX11_turnMirror_18 (by decide) (fun c4 => ?_) (fun c4 => ?_)
    · have h := (if_inv h).2 c4
      refine lv_aload_n hx hb dX11_turnMirror_27 rfl (lv_at hl 0 rfl) ?_
      refine r_getA (j := 79) C hG FX11_48 rfl rfl dX11_turnMirror_28 ?_
      refine r_getR (d := 3) C hG FX11_293 rfl rfl (by decide) dX11_turnMirror_31 ?_
      refine lv_iload_n hx hb dX11_turnMirror_34 rfl (lv_at hl 1 rfl) ?_
      refine r_ild C hG (N := 10) rfl (by decide) dX11_turnMirror_35 h (fun x5 h => ?_)
      refine lv_istore_n (lv' := [(3, .int x5), (0, .ref (E.ad 47)), (1, .int a1), (2, .int a2)]) hx hb dX11_turnMirror_36 rfl hl (by decide) rfl (fun ls hl => ?_)
      refine lv_aload_n hx hb dX11_turnMirror_37 rfl (lv_at hl 1 rfl) ?_
      refine r_getA (j := 79) C hG FX11_48 rfl rfl dX11_turnMirror_38 ?_
      refine r_getR (d := 3) C hG FX11_293 rfl rfl (by decide) dX11_turnMirror_41 ?_
      refine lv_iload_n hx hb dX11_turnMirror_44 rfl (lv_at hl 2 rfl) ?_
      refine lv_iload_n hx hb dX11_turnMirror_45 rfl (lv_at hl 3 rfl) ?_
      refine r_ist C hG (N := 10) rfl (by decide) dX11_turnMirror_46 h (fun H locs g6 hG h => ?_)
      refine lv_iload_n hx hb dX11_turnMirror_47 rfl (lv_at hl 0 rfl) ?_
      exact r_iret C hG hr rfl dX11_turnMirror_48 h
    · have h := (if_inv h).1 c4
      refine lv_aload_n hx hb dX11_turnMirror_21 rfl (lv_at hl 0 rfl) ?_
      refine lv_iconst (v := 2) hx hb dX11_turnMirror_22 (by decide) ?_
      refine r_callVI C hl.1 hG [.int 2] [] (m11_no E l 2 u1.2) LX11_262 rfl KC11 rfl (rm_ok (by decide) (by decide)) (Nat.le_of_ble_eq_true rfl) ⟨Nat.le_refl _, Nat.le_refl _⟩ rfl dX11_turnMirror_23 h (fun u7 H locs hG h => ?_)
      exact r_iret C hG hr rfl dX11_turnMirror_26 h
  · have h := (if_inv h).1 c2
    refine lv_iconst (v := 0) hx hb dX11_turnMirror_8 (by decide) ?_
    exact r_iret C hG hr rfl dX11_turnMirror_9 h
def k11_dustMirror  (a1 : Int32) (a2 : Int32) (g : G) : Option (Int32 × G) :=
  (k11_isMirror a1 g).bind fun u1 =>
  if u1.1 = 0 then
    some (0, u1.2)
  else
    (k11_isIn a2 0 100 u1.2).bind fun u3 =>
    if u3 = 0 then
      (k11_no 2 u1.2).bind fun u9 =>
      some (u9.1, u9.2)
    else
      ld u1.2 80 10 a1 fun x5 =>
      bd (if 0 < (x5 - a2) then (x5 - a2) else 0) fun x6 =>
      sto u1.2 80 10 a1 x6 fun g7 =>
      ld g7 80 10 a1 fun x8 =>
      some (x8, g7)
set_option maxRecDepth 100000 in
set_option maxHeartbeats 4000000 in
theorem m11_dustMirror (E : EV) (l : Launch) (a1 : Int32) (a2 : Int32) (g : G) : ∀ u, k11_dustMirror a1 a2 g = some u → MI E l yX11_dustMirror cX11_dustMirror 3 (some .int) 2 0 0 [.ref (E.ad 47), .int a1, .int a2] g u := by
  intro u h
  refine MG.of (by decide +kernel) (Nat.le_of_ble_eq_true rfl) ?_
  intro p e s m args below meth c C hr hnm ls hl hG
  have C : Cx p s m args meth c cX11_dustMirror 3 RX11 E := C
  have hx := C.1
  have hb := C.2.1
  have hl : lv_has ls 3 [(0, .ref (E.ad 47)), (1, .int a1), (2, .int a2)] := hl
  unfold k11_dustMirror at h
  refine lv_aload_n hx hb dX11_dustMirror_0 rfl (lv_at hl 0 rfl) ?_
  refine lv_iload_n hx hb dX11_dustMirror_1 rfl (lv_at hl 1 rfl) ?_
  refine r_callVI C hl.1 hG [.int a1] [] (m11_isMirror E l a1 g) LX11_349 rfl KC11 rfl (rm_ok (by decide) (by decide)) (Nat.le_of_ble_eq_true rfl) ⟨Nat.le_refl _, Nat.le_refl _⟩ rfl dX11_dustMirror_2 h (fun u1 H locs hG h => ?_)
  refine lv_if_ne (tgt := 10) hx hb dX11_dustMirror_5 (by decide) (fun c2 => ?_) (fun c2 => ?_)
  · have h := (if_inv h).2 c2
    refine lv_iload_n hx hb dX11_dustMirror_10 rfl (lv_at hl 2 rfl) ?_
    refine lv_iconst (v := 0) hx hb dX11_dustMirror_11 (by decide) ?_
    refine lv_bipush (v := 100) hx hb dX11_dustMirror_12 (by decide) ?_
    refine r_callSIP C hl.1 hG [.int a2, .int 0, .int 100] [] (m11_isIn E l a2 0 100 u1.2) LX11_67 rfl (rm_ok (by decide) (by decide)) (Nat.le_of_ble_eq_true rfl) ⟨Nat.le_refl _, Nat.le_refl _⟩ rfl dX11_dustMirror_14 h (fun u3 H locs hG h => ?_)
    refine lv_if_ne (tgt := 26) hx hb dX11_dustMirror_17 (by decide) (fun c4 => ?_) (fun c4 => ?_)
    · have h := (if_inv h).2 c4
      refine lv_aload_n hx hb dX11_dustMirror_26 rfl (lv_at hl 0 rfl) ?_
      refine r_getA (j := 79) C hG FX11_48 rfl rfl dX11_dustMirror_27 ?_
      refine r_getR (d := 1) C hG FX11_292 rfl rfl (by decide) dX11_dustMirror_30 ?_
      refine lv_iload_n hx hb dX11_dustMirror_33 rfl (lv_at hl 1 rfl) ?_
      refine lv_iconst (v := 0) hx hb dX11_dustMirror_34 (by decide) ?_
      refine lv_aload_n hx hb dX11_dustMirror_35 rfl (lv_at hl 0 rfl) ?_
      refine r_getA (j := 79) C hG FX11_48 rfl rfl dX11_dustMirror_36 ?_
      refine r_getR (d := 1) C hG FX11_292 rfl rfl (by decide) dX11_dustMirror_39 ?_
      refine lv_iload_n hx hb dX11_dustMirror_42 rfl (lv_at hl 1 rfl) ?_
      refine r_ild C hG (N := 10) rfl (by decide) dX11_dustMirror_43 h (fun x5 h => ?_)
      refine lv_iload_n hx hb dX11_dustMirror_44 rfl (lv_at hl 2 rfl) ?_
      refine lv_isub hx hb dX11_dustMirror_45 ?_
      refine r_max C hl.1 LX11_166 ⟨(Nat.le_of_ble_eq_true rfl), (Nat.le_of_ble_eq_true rfl), Nat.zero_le _, Nat.zero_le _⟩ dX11_dustMirror_46 ?_
      refine r_nm h (fun x6 h => ?_)
      refine r_ist C hG (N := 10) rfl (by decide) dX11_dustMirror_49 h (fun H locs g7 hG h => ?_)
      refine lv_aload_n hx hb dX11_dustMirror_50 rfl (lv_at hl 0 rfl) ?_
      refine r_getA (j := 79) C hG FX11_48 rfl rfl dX11_dustMirror_51 ?_
      refine r_getR (d := 1) C hG FX11_292 rfl rfl (by decide) dX11_dustMirror_54 ?_
      refine lv_iload_n hx hb dX11_dustMirror_57 rfl (lv_at hl 1 rfl) ?_
      refine r_ild C hG (N := 10) rfl (by decide) dX11_dustMirror_58 h (fun x8 h => ?_)
      exact r_iret C hG hr rfl dX11_dustMirror_59 h
    · have h := (if_inv h).1 c4
      refine lv_aload_n hx hb dX11_dustMirror_20 rfl (lv_at hl 0 rfl) ?_
      refine lv_iconst (v := 2) hx hb dX11_dustMirror_21 (by decide) ?_
      refine r_callVI C hl.1 hG [.int 2] [] (m11_no E l 2 u1.2) LX11_262 rfl KC11 rfl (rm_ok (by decide) (by decide)) (Nat.le_of_ble_eq_true rfl) ⟨Nat.le_refl _, Nat.le_refl _⟩ rfl dX11_dustMirror_22 h (fun u9 H locs hG h => ?_)
      exact r_iret C hG hr rfl dX11_dustMirror_25 h
  · have h := (if_inv h).1 c2
    refine lv_iconst (v := 0) hx hb dX11_dustMirror_8 (by decide) ?_
    exact r_iret C hG hr rfl dX11_dustMirror_9 h
def k11_moveMirror_39  : Nat → Int32 → Int32 → Int32 → Int32 → Int32 → G → Option (Int32 × G)
  | 0, _, _, _, _, _, _ => none
  | f + 1, v1, v2, v3, v4, v5, g =>
        if v5 = v2 then
          sto g 83 10 v2 v1 fun g2 =>
          some (v3, g2)
        else
          ld g 83 10 (v5 + v4) fun x3 =>
          sto g 83 10 v5 x3 fun g4 =>
          bd (v5 + v4) fun x5 =>
          k11_moveMirror_39 f v1 v2 v3 v4 x5 g4
def k11_moveMirror_34  (v1 : Int32) (v2 : Int32) (v3 : Int32) (t0 : Int32) (g : G) : Option (Int32 × G) :=
      k11_moveMirror_39 FU v1 v2 v3 t0 v3 g
def k11_moveMirror  (a1 : Int32) (a2 : Int32) (g : G) : Option (Int32 × G) :=
  (k11_isMirror a1 g).bind fun u6 =>
  if u6.1 = 0 then
    some (0, u6.2)
  else
    (k11_isMirror a2 u6.2).bind fun u8 =>
    if u8.1 = 0 then
      some (0, u8.2)
    else
      (k11_place a1 u8.2).bind fun u10 =>
      if a2 ≤ u10 then
        k11_moveMirror_34 a1 a2 u10 (-1) u8.2
      else
        k11_moveMirror_34 a1 a2 u10 1 u8.2
set_option maxRecDepth 100000 in
set_option maxHeartbeats 4000000 in
theorem m11_moveMirror (E : EV) (l : Launch) (a1 : Int32) (a2 : Int32) (g : G) : ∀ u, k11_moveMirror a1 a2 g = some u → MI E l yX11_moveMirror cX11_moveMirror 6 (some .int) 2 0 0 [.ref (E.ad 47), .int a1, .int a2] g u := by
  intro u h
  refine MG.of (by decide +kernel) (Nat.le_of_ble_eq_true rfl) ?_
  intro p e s m args below meth c C hr hnm ls hl hG
  have C : Cx p s m args meth c cX11_moveMirror 6 RX11 E := C
  have hx := C.1
  have hb := C.2.1
  have hl : lv_has ls 6 [(0, .ref (E.ad 47)), (1, .int a1), (2, .int a2)] := hl
  unfold k11_moveMirror at h
  have j39 : ∀ f : Nat, ∀ (v1 : Int32) (v2 : Int32) (v3 : Int32) (v4 : Int32) (v5 : Int32) (g : G) (H : Heap) (locs : List Loc) (ls : Array Slot), Gd E s H locs g [] → lv_has ls 6 [(0, .ref (E.ad 47)), (1, .int v1), (2, .int v2), (3, .int v3), (4, .int v4), (5, .int v5)] → k11_moveMirror_39 f v1 v2 v3 v4 v5 g = some u → W p l e (rmD 2 0 0) s m args below meth c H locs 0 0 (MQ below (QI E s.heap.size u.1 u.2) args s 0 0 (AA E s.heap.size)) (F0 m 39 ls []) := by
    intro f
    induction f with
    | zero =>
      intro v1 v2 v3 v4 v5 g H locs ls hG hl h
      unfold k11_moveMirror_39 at h
      cases h
    | succ f ih =>
      intro v1 v2 v3 v4 v5 g H locs ls hG hl h
      unfold k11_moveMirror_39 at h
      refine lv_iload hx hb dX11_moveMirror_39 (lv_at hl 5 rfl) ?_
      refine lv_iload_n hx hb dX11_moveMirror_41 rfl (lv_at hl 2 rfl) ?_
      refine lv_icmp_eq (tgt := 78) hx hb dX11_moveMirror_42 (by decide) (fun c1 => ?_) (fun c1 => ?_)
      · have h := (if_inv h).1 c1
        refine lv_aload_n hx hb dX11_moveMirror_78 rfl (lv_at hl 0 rfl) ?_
        refine r_getA (j := 79) C hG FX11_48 rfl rfl dX11_moveMirror_79 ?_
        refine r_getR (d := 4) C hG FX11_283 rfl rfl (by decide) dX11_moveMirror_82 ?_
        refine lv_iload_n hx hb dX11_moveMirror_85 rfl (lv_at hl 2 rfl) ?_
        refine lv_iload_n hx hb dX11_moveMirror_86 rfl (lv_at hl 1 rfl) ?_
        refine r_ist C hG (N := 10) rfl (by decide) dX11_moveMirror_87 h (fun H locs g2 hG h => ?_)
        refine lv_iload_n hx hb dX11_moveMirror_88 rfl (lv_at hl 3 rfl) ?_
        exact r_iret C hG hr rfl dX11_moveMirror_89 h
      · have h := (if_inv h).2 c1
        refine lv_aload_n hx hb dX11_moveMirror_45 rfl (lv_at hl 0 rfl) ?_
        refine r_getA (j := 79) C hG FX11_48 rfl rfl dX11_moveMirror_46 ?_
        refine r_getR (d := 4) C hG FX11_283 rfl rfl (by decide) dX11_moveMirror_49 ?_
        refine lv_iload hx hb dX11_moveMirror_52 (lv_at hl 5 rfl) ?_
        refine lv_aload_n hx hb dX11_moveMirror_54 rfl (lv_at hl 0 rfl) ?_
        refine r_getA (j := 79) C hG FX11_48 rfl rfl dX11_moveMirror_55 ?_
        refine r_getR (d := 4) C hG FX11_283 rfl rfl (by decide) dX11_moveMirror_58 ?_
        refine lv_iload hx hb dX11_moveMirror_61 (lv_at hl 5 rfl) ?_
        refine lv_iload hx hb dX11_moveMirror_63 (lv_at hl 4 rfl) ?_
        refine lv_iadd hx hb dX11_moveMirror_65 ?_
        refine r_ild C hG (N := 10) rfl (by decide) dX11_moveMirror_66 h (fun x3 h => ?_)
        refine r_ist C hG (N := 10) rfl (by decide) dX11_moveMirror_67 h (fun H locs g4 hG h => ?_)
        refine lv_iload hx hb dX11_moveMirror_68 (lv_at hl 5 rfl) ?_
        refine lv_iload hx hb dX11_moveMirror_70 (lv_at hl 4 rfl) ?_
        refine lv_iadd hx hb dX11_moveMirror_72 ?_
        refine r_nm h (fun x5 h => ?_)
        refine lv_istore (lv' := [(5, .int x5), (0, .ref (E.ad 47)), (1, .int v1), (2, .int v2), (3, .int v3), (4, .int v4)]) hx hb dX11_moveMirror_73 hl (by decide) rfl (fun ls hl => ?_)
        refine lv_goto (tgt := 39) hx hb dX11_moveMirror_75 (by decide) ?_
        exact ih v1 v2 v3 v4 x5 g4 _ _ _ hG (lv_sub hl [1, 2, 3, 4, 5, 0] rfl) h
  have j34 : ∀ (v1 : Int32) (v2 : Int32) (v3 : Int32) (t0 : Int32) (g : G) (H : Heap) (locs : List Loc) (ls : Array Slot), Gd E s H locs g [] → lv_has ls 6 [(0, .ref (E.ad 47)), (1, .int v1), (2, .int v2), (3, .int v3)] → k11_moveMirror_34 v1 v2 v3 t0 g = some u → W p l e (rmD 2 0 0) s m args below meth c H locs 0 0 (MQ below (QI E s.heap.size u.1 u.2) args s 0 0 (AA E s.heap.size)) (F0 m 34 ls [.int t0]) := by
    intro v1 v2 v3 t0 g H locs ls hG hl h
    unfold k11_moveMirror_34 at h
    refine lv_istore (lv' := [(4, .int t0), (0, .ref (E.ad 47)), (1, .int v1), (2, .int v2), (3, .int v3)]) hx hb dX11_moveMirror_34 hl (by decide) rfl (fun ls hl => ?_)
    refine lv_iload_n hx hb dX11_moveMirror_36 rfl (lv_at hl 4 rfl) ?_
    refine lv_istore (lv' := [(5, .int v3), (4, .int t0), (0, .ref (E.ad 47)), (1, .int v1), (2, .int v2), (3, .int v3)]) hx hb dX11_moveMirror_37 hl (by decide) rfl (fun ls hl => ?_)
    exact j39 FU v1 v2 v3 t0 v3 g _ _ _ hG (lv_sub hl [2, 3, 4, 5, 1, 0] rfl) h
  refine lv_aload_n hx hb dX11_moveMirror_0 rfl (lv_at hl 0 rfl) ?_
  refine lv_iload_n hx hb dX11_moveMirror_1 rfl (lv_at hl 1 rfl) ?_
  refine r_callVI C hl.1 hG [.int a1] [] (m11_isMirror E l a1 g) LX11_349 rfl KC11 rfl (rm_ok (by decide) (by decide)) (Nat.le_of_ble_eq_true rfl) ⟨Nat.le_refl _, Nat.le_refl _⟩ rfl dX11_moveMirror_2 h (fun u6 H locs hG h => ?_)
  refine lv_if_eq (tgt := 16) hx hb dX11_moveMirror_5 (by decide) (fun c7 => ?_) (fun c7 => ?_)
  · have h := (if_inv h).1 c7
    refine lv_iconst (v := 0) hx hb dX11_moveMirror_16 (by decide) ?_
    exact r_iret C hG hr rfl dX11_moveMirror_17 h
  · have h := (if_inv h).2 c7
    refine lv_aload_n hx hb dX11_moveMirror_8 rfl (lv_at hl 0 rfl) ?_
    refine lv_iload_n hx hb dX11_moveMirror_9 rfl (lv_at hl 2 rfl) ?_
    refine r_callVI C hl.1 hG [.int a2] [] (m11_isMirror E l a2 u6.2) LX11_349 rfl KC11 rfl (rm_ok (by decide) (by decide)) (Nat.le_of_ble_eq_true rfl) ⟨Nat.le_refl _, Nat.le_refl _⟩ rfl dX11_moveMirror_10 h (fun u8 H locs hG h => ?_)
    refine lv_if_ne (tgt := 18) hx hb dX11_moveMirror_13 (by decide) (fun c9 => ?_) (fun c9 => ?_)
    · have h := (if_inv h).2 c9
      refine lv_aload_n hx hb dX11_moveMirror_18 rfl (lv_at hl 0 rfl) ?_
      refine lv_iload_n hx hb dX11_moveMirror_19 rfl (lv_at hl 1 rfl) ?_
      refine r_callVIP C hl.1 hG [.int a1] [] (m11_place E l a1 u8.2) LX11_352 rfl KC11 rfl (rm_ok (by decide) (by decide)) (Nat.le_of_ble_eq_true rfl) ⟨Nat.le_refl _, Nat.le_refl _⟩ rfl dX11_moveMirror_20 h (fun u10 H locs hG h => ?_)
      refine lv_istore_n (lv' := [(3, .int u10), (0, .ref (E.ad 47)), (1, .int a1), (2, .int a2)]) hx hb dX11_moveMirror_23 rfl hl (by decide) rfl (fun ls hl => ?_)
      refine lv_iload_n hx hb dX11_moveMirror_24 rfl (lv_at hl 0 rfl) ?_
      refine lv_iload_n hx hb dX11_moveMirror_25 rfl (lv_at hl 3 rfl) ?_
      refine lv_icmp_ge (tgt := 33) hx hb dX11_moveMirror_26 (by decide) (fun c11 => ?_) (fun c11 => ?_)
      · have h := (if_inv h).1 c11
        refine lv_iconst (v := (-1)) hx hb dX11_moveMirror_33 (by decide) ?_
        exact j34 a1 a2 u10 (-1) u8.2 _ _ _ hG (lv_sub hl [1, 2, 3, 0] rfl) h
      · have h := (if_inv h).2 c11
        refine lv_iconst (v := 1) hx hb dX11_moveMirror_29 (by decide) ?_
        refine lv_goto (tgt := 34) hx hb dX11_moveMirror_30 (by decide) ?_
        exact j34 a1 a2 u10 1 u8.2 _ _ _ hG (lv_sub hl [1, 2, 3, 0] rfl) h
    · have h := (if_inv h).1 c9
      refine lv_iconst (v := 0) hx hb dX11_moveMirror_16 (by decide) ?_
      exact r_iret C hG hr rfl dX11_moveMirror_17 h
