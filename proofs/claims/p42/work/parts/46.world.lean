def k7_begin (o : Nat) (g : G) : Option (G) :=
  (k4_begin (o + 1) 16 g).bind fun g1 =>
  (k3_begin (o + 9) g1).bind fun g2 =>
  bd (up g2 o 5 0) fun g3 =>
  some g3
set_option maxRecDepth 100000 in
set_option maxHeartbeats 4000000 in
theorem m7_begin (E : EV) (l : Launch) (o : Nat) (hk : kd o = 7) (g : G) : ∀ u, k7_begin o g = some u → MV E l yX7_begin cX7_begin 1 none 2 0 0 [.ref (E.ad o)] g u := by
  intro u h
  refine MG.of (by decide +kernel) (Nat.le_of_ble_eq_true rfl) ?_
  intro p e s m args below meth c C hr hnm ls hl hG
  have C : Cx p s m args meth c cX7_begin 1 RX7 E := C
  have hx := C.1
  have hb := C.2.1
  have hl : lv_has ls 1 [(0, .ref (E.ad o))] := hl
  unfold k7_begin at h
  refine lv_aload_n hx hb dX7_begin_0 rfl (lv_at hl 0 rfl) ?_
  refine r_getR (d := 1) C hG FX7_12 hk rfl (by decide) dX7_begin_1 ?_
  refine lv_aload_n hx hb dX7_begin_4 rfl (lv_at hl 0 rfl) ?_
  refine r_getA (j := 16) C hG FX7_29 hk rfl dX7_begin_5 ?_
  refine r_callVV C hl.1 hG [.ref (E.ad 16)] [] (m4_begin E l (o + 1) 16 (kR7_1 hk) rfl g) LX7_33 (kR7_1 hk) KC4 rfl (rm_ok (by decide) (by decide)) (Nat.le_of_ble_eq_true rfl) ⟨Nat.le_refl _, Nat.le_refl _⟩ rfl dX7_begin_8 h (fun g1 H locs hG h => ?_)
  refine lv_aload_n hx hb dX7_begin_11 rfl (lv_at hl 0 rfl) ?_
  refine r_getR (d := 9) C hG FX7_21 hk rfl (by decide) dX7_begin_12 ?_
  refine r_callVV C hl.1 hG [] [] (m3_begin E l (o + 9) (kR7_2 hk) g1) LX7_37 (kR7_2 hk) KC3 rfl (rm_ok (by decide) (by decide)) (Nat.le_of_ble_eq_true rfl) ⟨Nat.le_refl _, Nat.le_refl _⟩ rfl dX7_begin_15 h (fun g2 H locs hG h => ?_)
  refine lv_aload_n hx hb dX7_begin_18 rfl (lv_at hl 0 rfl) ?_
  refine lv_iconst (v := 0) hx hb dX7_begin_19 (by decide) ?_
  refine r_putI C hG FX7_39 hk rfl dX7_begin_20 h (fun H locs g3 hG h => ?_)
  exact r_vret C hG hr dX7_begin_23 h
def k7_copy (o : Nat) (o1 : Nat) (g : G) : Option (G) :=
  (k4_copy (o + 1) (o1 + 1) g).bind fun g1 =>
  (k3_copy (o + 9) (o1 + 9) g1).bind fun g2 =>
  bd (up g2 o 5 (g2 o1 5)) fun g3 =>
  some g3
set_option maxRecDepth 100000 in
set_option maxHeartbeats 4000000 in
theorem m7_copy (E : EV) (l : Launch) (o : Nat) (o1 : Nat) (hk : kd o = 7) (hk1 : kd o1 = 7) (g : G) : ∀ u, k7_copy o o1 g = some u → MV E l yX7_copy cX7_copy 2 none 2 0 0 [.ref (E.ad o), .ref (E.ad o1)] g u := by
  intro u h
  refine MG.of (by decide +kernel) (Nat.le_of_ble_eq_true rfl) ?_
  intro p e s m args below meth c C hr hnm ls hl hG
  have C : Cx p s m args meth c cX7_copy 2 RX7 E := C
  have hx := C.1
  have hb := C.2.1
  have hl : lv_has ls 2 [(0, .ref (E.ad o)), (1, .ref (E.ad o1))] := hl
  unfold k7_copy at h
  refine lv_aload_n hx hb dX7_copy_0 rfl (lv_at hl 0 rfl) ?_
  refine r_getR (d := 1) C hG FX7_12 hk rfl (by decide) dX7_copy_1 ?_
  refine lv_aload_n hx hb dX7_copy_4 rfl (lv_at hl 1 rfl) ?_
  refine r_getR (d := 1) C hG FX7_12 hk1 rfl (by decide) dX7_copy_5 ?_
  refine r_callVV C hl.1 hG [.ref (E.ad (o1 + 1))] [] (m4_copy E l (o + 1) (o1 + 1) (kR7_1 hk) (kR7_1 hk1) g) LX7_43 (kR7_1 hk) KC4 rfl (rm_ok (by decide) (by decide)) (Nat.le_of_ble_eq_true rfl) ⟨Nat.le_refl _, Nat.le_refl _⟩ rfl dX7_copy_8 h (fun g1 H locs hG h => ?_)
  refine lv_aload_n hx hb dX7_copy_11 rfl (lv_at hl 0 rfl) ?_
  refine r_getR (d := 9) C hG FX7_21 hk rfl (by decide) dX7_copy_12 ?_
  refine lv_aload_n hx hb dX7_copy_15 rfl (lv_at hl 1 rfl) ?_
  refine r_getR (d := 9) C hG FX7_21 hk1 rfl (by decide) dX7_copy_16 ?_
  refine r_callVV C hl.1 hG [.ref (E.ad (o1 + 9))] [] (m3_copy E l (o + 9) (o1 + 9) (kR7_2 hk) (kR7_2 hk1) g1) LX7_47 (kR7_2 hk) KC3 rfl (rm_ok (by decide) (by decide)) (Nat.le_of_ble_eq_true rfl) ⟨Nat.le_refl _, Nat.le_refl _⟩ rfl dX7_copy_19 h (fun g2 H locs hG h => ?_)
  refine lv_aload_n hx hb dX7_copy_22 rfl (lv_at hl 0 rfl) ?_
  refine lv_aload_n hx hb dX7_copy_23 rfl (lv_at hl 1 rfl) ?_
  refine r_getI C hG FX7_39 hk1 rfl dX7_copy_24 ?_
  refine r_putI C hG FX7_39 hk rfl dX7_copy_27 h (fun H locs g3 hG h => ?_)
  exact r_vret C hG hr dX7_copy_30 h
def k7_pop (o : Nat) (g : G) : Option (Int32 × G) :=
  if 0 < (g o 4) then
    bd (up g o 4 ((g o 4) - 1)) fun g2 =>
    ld g2 (o + 12) 400 (g2 o 4) fun x3 =>
    some (x3, g2)
  else
    some (0, g)
set_option maxRecDepth 100000 in
set_option maxHeartbeats 4000000 in
theorem m7_pop (E : EV) (l : Launch) (o : Nat) (hk : kd o = 7) (g : G) : ∀ u, k7_pop o g = some u → MI E l yX7_pop cX7_pop 1 (some .int) 0 0 0 [.ref (E.ad o)] g u := by
  intro u h
  refine MG.of (by decide +kernel) (Nat.le_of_ble_eq_true rfl) ?_
  intro p e s m args below meth c C hr hnm ls hl hG
  have C : Cx p s m args meth c cX7_pop 1 RX7 E := C
  have hx := C.1
  have hb := C.2.1
  have hl : lv_has ls 1 [(0, .ref (E.ad o))] := hl
  unfold k7_pop at h
  refine lv_aload_n hx hb dX7_pop_0 rfl (lv_at hl 0 rfl) ?_
  refine r_getI C hG FX7_50 hk rfl dX7_pop_1 ?_
  refine lv_if_gt (tgt := 9) hx hb dX7_pop_4 (by decide) (fun c1 => ?_) (fun c1 => ?_)
  · have h := (if_inv h).1 c1
    refine lv_aload_n hx hb dX7_pop_9 rfl (lv_at hl 0 rfl) ?_
    refine lv_dup hx hb dX7_pop_10 rfl ?_
    refine r_getI C hG FX7_50 hk rfl dX7_pop_11 ?_
    refine lv_iconst (v := 1) hx hb dX7_pop_14 (by decide) ?_
    refine lv_isub hx hb dX7_pop_15 ?_
    refine r_putI C hG FX7_50 hk rfl dX7_pop_16 h (fun H locs g2 hG h => ?_)
    refine lv_aload_n hx hb dX7_pop_19 rfl (lv_at hl 0 rfl) ?_
    refine r_getR (d := 12) C hG FX7_25 hk rfl (by decide) dX7_pop_20 ?_
    refine lv_aload_n hx hb dX7_pop_23 rfl (lv_at hl 0 rfl) ?_
    refine r_getI C hG FX7_50 hk rfl dX7_pop_24 ?_
    refine r_ild C hG (N := 400) (kR7_3 hk) (by decide) dX7_pop_27 h (fun x3 h => ?_)
    exact r_iret C hG hr rfl dX7_pop_28 h
  · have h := (if_inv h).2 c1
    refine lv_iconst (v := 0) hx hb dX7_pop_7 (by decide) ?_
    exact r_iret C hG hr rfl dX7_pop_8 h
def k7_carryOut_122 (o : Nat) (v2 : Int32) (g : G) : Option (G) :=
      (k3_add (o + 9) 2 v2 g).bind fun g1 =>
      some g1
def k7_carryOut_28 (o : Nat) (v1 : Int32) (v2 : Int32) (v3 : Int32) (t0 : Int32) (g : G) : Option (G) :=
      if v3 = 0 then
        some g
      else
        if v1 = 133 then
          (k4_shake (o + 1) v2 t0 g).bind fun g4 =>
          some g4
        else
        if v1 = 134 then
          k7_carryOut_122 o v2 g
        else
        if v1 = 135 then
          (k4_dust (o + 1) v2 t0 g).bind fun g7 =>
          some g7
        else
        if v1 = 136 then
          (k3_add (o + 9) 0 v2 g).bind fun g9 =>
          some g9
        else
        if v1 = 137 then
          (k3_add (o + 9) 1 v2 g).bind fun g11 =>
          some g11
        else
        k7_carryOut_122 o v2 g
def k7_carryOut_12 (o : Nat) (v1 : Int32) (v2 : Int32) (t0 : Int32) (g : G) : Option (G) :=
      (k8_isOrderBySum v1 g).bind fun u12 =>
      if u12 = 0 then
        k7_carryOut_28 o v1 v2 t0 0 g
      else
        (k7_pop o g).bind fun u14 =>
        k7_carryOut_28 o v1 v2 t0 u14.1 u14.2
def k7_carryOut (o : Nat) (a1 : Int32) (a2 : Int32) (g : G) : Option (G) :=
  (k7_pop o g).bind fun u15 =>
  if u15.1 = 0 then
    k7_carryOut_12 o a1 a2 0 u15.2
  else
    k7_carryOut_12 o a1 a2 1 u15.2
set_option maxRecDepth 100000 in
set_option maxHeartbeats 4000000 in
theorem m7_carryOut (E : EV) (l : Launch) (o : Nat) (hk : kd o = 7) (a1 : Int32) (a2 : Int32) (g : G) : ∀ u, k7_carryOut o a1 a2 g = some u → MV E l yX7_carryOut cX7_carryOut 5 none 4 0 0 [.ref (E.ad o), .int a1, .int a2] g u := by
  intro u h
  refine MG.of (by decide +kernel) (Nat.le_of_ble_eq_true rfl) ?_
  intro p e s m args below meth c C hr hnm ls hl hG
  have C : Cx p s m args meth c cX7_carryOut 5 RX7 E := C
  have hx := C.1
  have hb := C.2.1
  have hl : lv_has ls 5 [(0, .ref (E.ad o)), (1, .int a1), (2, .int a2)] := hl
  unfold k7_carryOut at h
  have j122 : ∀ (v2 : Int32) (g : G) (H : Heap) (locs : List Loc) (ls : Array Slot), Gd E s H locs g [] → lv_has ls 5 [(0, .ref (E.ad o)), (2, .int v2)] → k7_carryOut_122 o v2 g = some u → W p l e (rmD 4 0 0) s m args below meth c H locs 0 0 (MQ below (QV E s.heap.size u) args s 0 0 (AA E s.heap.size)) (F0 m 122 ls []) := by
    intro v2 g H locs ls hG hl h
    unfold k7_carryOut_122 at h
    refine lv_aload_n hx hb dX7_carryOut_122 rfl (lv_at hl 0 rfl) ?_
    refine r_getR (d := 9) C hG FX7_21 hk rfl (by decide) dX7_carryOut_123 ?_
    refine lv_iconst (v := 2) hx hb dX7_carryOut_126 (by decide) ?_
    refine lv_iload_n hx hb dX7_carryOut_127 rfl (lv_at hl 1 rfl) ?_
    refine r_callVV C hl.1 hG [.int 2, .int v2] [] (m3_add E l (o + 9) (kR7_2 hk) 2 v2 g) LX7_112 (kR7_2 hk) KC3 rfl (rm_ok (by decide) (by decide)) (Nat.le_of_ble_eq_true rfl) ⟨Nat.le_refl _, Nat.le_refl _⟩ rfl dX7_carryOut_128 h (fun g1 H locs hG h => ?_)
    exact r_vret C hG hr dX7_carryOut_131 h
  have j28 : ∀ (v1 : Int32) (v2 : Int32) (v3 : Int32) (t0 : Int32) (g : G) (H : Heap) (locs : List Loc) (ls : Array Slot), Gd E s H locs g [] → lv_has ls 5 [(0, .ref (E.ad o)), (1, .int v1), (2, .int v2), (3, .int v3)] → k7_carryOut_28 o v1 v2 v3 t0 g = some u → W p l e (rmD 4 0 0) s m args below meth c H locs 0 0 (MQ below (QV E s.heap.size u) args s 0 0 (AA E s.heap.size)) (F0 m 28 ls [.int t0]) := by
    intro v1 v2 v3 t0 g H locs ls hG hl h
    unfold k7_carryOut_28 at h
    refine lv_istore (lv' := [(4, .int t0), (0, .ref (E.ad o)), (1, .int v1), (2, .int v2), (3, .int v3)]) hx hb dX7_carryOut_28 hl (by decide) rfl (fun ls hl => ?_)
    refine lv_iload_n hx hb dX7_carryOut_30 rfl (lv_at hl 4 rfl) ?_
    refine lv_if_ne (tgt := 35) hx hb dX7_carryOut_31 (by decide) (fun c2 => ?_) (fun c2 => ?_)
    · have h := (if_inv h).2 c2
      refine lv_iload_n hx hb dX7_carryOut_35 rfl (lv_at hl 2 rfl) ?_
      by_cases c3 : v1 = 133
      · have h := (if_inv h).1 c3
        refine lv_tableIn (off := 36) (tgt := 72) hx hb dX7_carryOut_36 (by rw [c3]; decide +kernel) (by rw [c3]; decide +kernel) (by rw [c3]; decide +kernel) (by decide) ?_
        refine lv_aload_n hx hb dX7_carryOut_72 rfl (lv_at hl 1 rfl) ?_
        refine r_getR (d := 1) C hG FX7_12 hk rfl (by decide) dX7_carryOut_73 ?_
        refine lv_iload_n hx hb dX7_carryOut_76 rfl (lv_at hl 3 rfl) ?_
        refine lv_iload hx hb dX7_carryOut_77 (lv_at hl 0 rfl) ?_
        refine r_callVV C hl.1 hG [.int v2, .int t0] [] (m4_shake E l (o + 1) (kR7_1 hk) v2 t0 g) LX7_106 (kR7_1 hk) KC4 rfl (rm_ok (by decide) (by decide)) (Nat.le_of_ble_eq_true rfl) ⟨Nat.le_refl _, Nat.le_refl _⟩ rfl dX7_carryOut_79 h (fun g4 H locs hG h => ?_)
        refine lv_goto (tgt := 131) hx hb dX7_carryOut_82 (by decide) ?_
        exact r_vret C hG hr dX7_carryOut_131 h
      have h := (if_inv h).2 c3
      by_cases c5 : v1 = 134
      · have h := (if_inv h).1 c5
        refine lv_tableIn (off := 86) (tgt := 122) hx hb dX7_carryOut_36 (by rw [c5]; decide +kernel) (by rw [c5]; decide +kernel) (by rw [c5]; decide +kernel) (by decide) ?_
        exact j122 v2 g _ _ _ hG (lv_sub hl [1, 3] rfl) h
      have h := (if_inv h).2 c5
      by_cases c6 : v1 = 135
      · have h := (if_inv h).1 c6
        refine lv_tableIn (off := 49) (tgt := 85) hx hb dX7_carryOut_36 (by rw [c6]; decide +kernel) (by rw [c6]; decide +kernel) (by rw [c6]; decide +kernel) (by decide) ?_
        refine lv_aload_n hx hb dX7_carryOut_85 rfl (lv_at hl 1 rfl) ?_
        refine r_getR (d := 1) C hG FX7_12 hk rfl (by decide) dX7_carryOut_86 ?_
        refine lv_iload_n hx hb dX7_carryOut_89 rfl (lv_at hl 3 rfl) ?_
        refine lv_iload hx hb dX7_carryOut_90 (lv_at hl 0 rfl) ?_
        refine r_callVV C hl.1 hG [.int v2, .int t0] [] (m4_dust E l (o + 1) (kR7_1 hk) v2 t0 g) LX7_109 (kR7_1 hk) KC4 rfl (rm_ok (by decide) (by decide)) (Nat.le_of_ble_eq_true rfl) ⟨Nat.le_refl _, Nat.le_refl _⟩ rfl dX7_carryOut_92 h (fun g7 H locs hG h => ?_)
        refine lv_goto (tgt := 131) hx hb dX7_carryOut_95 (by decide) ?_
        exact r_vret C hG hr dX7_carryOut_131 h
      have h := (if_inv h).2 c6
      by_cases c8 : v1 = 136
      · have h := (if_inv h).1 c8
        refine lv_tableIn (off := 62) (tgt := 98) hx hb dX7_carryOut_36 (by rw [c8]; decide +kernel) (by rw [c8]; decide +kernel) (by rw [c8]; decide +kernel) (by decide) ?_
        refine lv_aload_n hx hb dX7_carryOut_98 rfl (lv_at hl 1 rfl) ?_
        refine r_getR (d := 9) C hG FX7_21 hk rfl (by decide) dX7_carryOut_99 ?_
        refine lv_iconst (v := 0) hx hb dX7_carryOut_102 (by decide) ?_
        refine lv_iload_n hx hb dX7_carryOut_103 rfl (lv_at hl 3 rfl) ?_
        refine r_callVV C hl.1 hG [.int 0, .int v2] [] (m3_add E l (o + 9) (kR7_2 hk) 0 v2 g) LX7_112 (kR7_2 hk) KC3 rfl (rm_ok (by decide) (by decide)) (Nat.le_of_ble_eq_true rfl) ⟨Nat.le_refl _, Nat.le_refl _⟩ rfl dX7_carryOut_104 h (fun g9 H locs hG h => ?_)
        refine lv_goto (tgt := 131) hx hb dX7_carryOut_107 (by decide) ?_
        exact r_vret C hG hr dX7_carryOut_131 h
      have h := (if_inv h).2 c8
      by_cases c10 : v1 = 137
      · have h := (if_inv h).1 c10
        refine lv_tableIn (off := 74) (tgt := 110) hx hb dX7_carryOut_36 (by rw [c10]; decide +kernel) (by rw [c10]; decide +kernel) (by rw [c10]; decide +kernel) (by decide) ?_
        refine lv_aload_n hx hb dX7_carryOut_110 rfl (lv_at hl 1 rfl) ?_
        refine r_getR (d := 9) C hG FX7_21 hk rfl (by decide) dX7_carryOut_111 ?_
        refine lv_iconst (v := 1) hx hb dX7_carryOut_114 (by decide) ?_
        refine lv_iload_n hx hb dX7_carryOut_115 rfl (lv_at hl 3 rfl) ?_
        refine r_callVV C hl.1 hG [.int 1, .int v2] [] (m3_add E l (o + 9) (kR7_2 hk) 1 v2 g) LX7_112 (kR7_2 hk) KC3 rfl (rm_ok (by decide) (by decide)) (Nat.le_of_ble_eq_true rfl) ⟨Nat.le_refl _, Nat.le_refl _⟩ rfl dX7_carryOut_116 h (fun g11 H locs hG h => ?_)
        refine lv_goto (tgt := 131) hx hb dX7_carryOut_119 (by decide) ?_
        exact r_vret C hG hr dX7_carryOut_131 h
      have h := (if_inv h).2 c10
      refine lv_tableOut (tgt := 122) hx hb dX7_carryOut_36 (tab_out 5 (by decide) (lt_s (lt_s (lt_s (lt_s (lt_s lt_0 (nei c3 (by decide))) (nei c5 (by decide))) (nei c6 (by decide))) (nei c8 (by decide))) (nei c10 (by decide)))) (by decide) ?_
      exact j122 v2 g _ _ _ hG (lv_sub hl [1, 3] rfl) h
    · have h := (if_inv h).1 c2
      exact r_vret C hG hr dX7_carryOut_34 h
  have j12 : ∀ (v1 : Int32) (v2 : Int32) (t0 : Int32) (g : G) (H : Heap) (locs : List Loc) (ls : Array Slot), Gd E s H locs g [] → lv_has ls 5 [(0, .ref (E.ad o)), (1, .int v1), (2, .int v2)] → k7_carryOut_12 o v1 v2 t0 g = some u → W p l e (rmD 4 0 0) s m args below meth c H locs 0 0 (MQ below (QV E s.heap.size u) args s 0 0 (AA E s.heap.size)) (F0 m 12 ls [.int t0]) := by
    intro v1 v2 t0 g H locs ls hG hl h
    unfold k7_carryOut_12 at h
    refine lv_istore_n (lv' := [(3, .int t0), (0, .ref (E.ad o)), (1, .int v1), (2, .int v2)]) hx hb dX7_carryOut_12 rfl hl (by decide) rfl (fun ls hl => ?_)
    refine lv_iload_n hx hb dX7_carryOut_13 rfl (lv_at hl 2 rfl) ?_
    refine r_callSIP C hl.1 hG [.int v1] [] (m8_isOrderBySum E l v1 g) LX7_103 rfl (rm_ok (by decide) (by decide)) (Nat.le_of_ble_eq_true rfl) ⟨Nat.le_refl _, Nat.le_refl _⟩ rfl dX7_carryOut_14 h (fun u12 H locs hG h => ?_)
    refine lv_if_eq (tgt := 27) hx hb dX7_carryOut_17 (by decide) (fun c13 => ?_) (fun c13 => ?_)
    · have h := (if_inv h).1 c13
      refine lv_iconst (v := 0) hx hb dX7_carryOut_27 (by decide) ?_
      exact j28 v1 v2 t0 0 g _ _ _ hG (lv_sub hl [1, 2, 3, 0] rfl) h
    · have h := (if_inv h).2 c13
      refine lv_aload_n hx hb dX7_carryOut_20 rfl (lv_at hl 1 rfl) ?_
      refine r_callVI C hl.1 hG [] [] (m7_pop E l o hk g) LX7_85 hk KC7 rfl (rm_ok (by decide) (by decide)) (Nat.le_of_ble_eq_true rfl) ⟨Nat.le_refl _, Nat.le_refl _⟩ rfl dX7_carryOut_21 h (fun u14 H locs hG h => ?_)
      refine lv_goto (tgt := 28) hx hb dX7_carryOut_24 (by decide) ?_
      exact j28 v1 v2 t0 u14.1 u14.2 _ _ _ hG (lv_sub hl [1, 2, 3, 0] rfl) h
  refine lv_aload_n hx hb dX7_carryOut_0 rfl (lv_at hl 0 rfl) ?_
  refine r_callVI C hl.1 hG [] [] (m7_pop E l o hk g) LX7_85 hk KC7 rfl (rm_ok (by decide) (by decide)) (Nat.le_of_ble_eq_true rfl) ⟨Nat.le_refl _, Nat.le_refl _⟩ rfl dX7_carryOut_1 h (fun u15 H locs hG h => ?_)
  refine lv_if_eq (tgt := 11) hx hb dX7_carryOut_4 (by decide) (fun c16 => ?_) (fun c16 => ?_)
  · have h := (if_inv h).1 c16
    refine lv_iconst (v := 0) hx hb dX7_carryOut_11 (by decide) ?_
    exact j12 a1 a2 0 u15.2 _ _ _ hG (lv_sub hl [0, 1, 2] rfl) h
  · have h := (if_inv h).2 c16
    refine lv_iconst (v := 1) hx hb dX7_carryOut_7 (by decide) ?_
    refine lv_goto (tgt := 12) hx hb dX7_carryOut_8 (by decide) ?_
    exact j12 a1 a2 1 u15.2 _ _ _ hG (lv_sub hl [0, 1, 2] rfl) h
def k7_push (o : Nat) (a1 : Int32) (g : G) : Option (G) :=
  if 400 ≤ (g o 4) then
    some g
  else
    sto g (o + 12) 400 (g o 4) a1 fun g2 =>
    bd (up g2 o 4 ((g2 o 4) + 1)) fun g3 =>
    some g3
set_option maxRecDepth 100000 in
set_option maxHeartbeats 4000000 in
theorem m7_push (E : EV) (l : Launch) (o : Nat) (hk : kd o = 7) (a1 : Int32) (g : G) : ∀ u, k7_push o a1 g = some u → MV E l yX7_push cX7_push 2 none 0 0 0 [.ref (E.ad o), .int a1] g u := by
  intro u h
  refine MG.of (by decide +kernel) (Nat.le_of_ble_eq_true rfl) ?_
  intro p e s m args below meth c C hr hnm ls hl hG
  have C : Cx p s m args meth c cX7_push 2 RX7 E := C
  have hx := C.1
  have hb := C.2.1
  have hl : lv_has ls 2 [(0, .ref (E.ad o)), (1, .int a1)] := hl
  unfold k7_push at h
  refine lv_aload_n hx hb dX7_push_0 rfl (lv_at hl 0 rfl) ?_
  refine r_getI C hG FX7_50 hk rfl dX7_push_1 ?_
  refine lv_sipush (v := 400) hx hb dX7_push_4 (by decide) ?_
  refine lv_icmp_ge (tgt := 30) hx hb dX7_push_7 (by decide) (fun c1 => ?_) (fun c1 => ?_)
  · have h := (if_inv h).1 c1
    exact r_vret C hG hr dX7_push_30 h
  · have h := (if_inv h).2 c1
    refine lv_aload_n hx hb dX7_push_10 rfl (lv_at hl 0 rfl) ?_
    refine r_getR (d := 12) C hG FX7_25 hk rfl (by decide) dX7_push_11 ?_
    refine lv_aload_n hx hb dX7_push_14 rfl (lv_at hl 0 rfl) ?_
    refine r_getI C hG FX7_50 hk rfl dX7_push_15 ?_
    refine lv_iload_n hx hb dX7_push_18 rfl (lv_at hl 1 rfl) ?_
    refine r_ist C hG (N := 400) (kR7_3 hk) (by decide) dX7_push_19 h (fun H locs g2 hG h => ?_)
    refine lv_aload_n hx hb dX7_push_20 rfl (lv_at hl 0 rfl) ?_
    refine lv_dup hx hb dX7_push_21 rfl ?_
    refine r_getI C hG FX7_50 hk rfl dX7_push_22 ?_
    refine lv_iconst (v := 1) hx hb dX7_push_25 (by decide) ?_
    refine lv_iadd hx hb dX7_push_26 ?_
    refine r_putI C hG FX7_50 hk rfl dX7_push_27 h (fun H locs g3 hG h => ?_)
    exact r_vret C hG hr dX7_push_30 h
def k7_joinsTwo  (a0 : Int32) (g : G) : Option (Int32) :=
  if a0 = 4 then
    some 1
  else
  if a0 = 5 then
    some 1
  else
  if a0 = 42 then
    some 1
  else
  if a0 = 43 then
    some 1
  else
  if a0 = 45 then
    some 1
  else
  if a0 = 47 then
    some 1
  else
  if a0 = 60 then
    some 1
  else
  if a0 = 61 then
    some 1
  else
  if a0 = 62 then
    some 1
  else
  if a0 = 150 then
    some 1
  else
  if a0 = 151 then
    some 1
  else
  if a0 = 152 then
    some 1
  else
  if a0 = 153 then
    some 1
  else
  some 0
set_option maxRecDepth 100000 in
set_option maxHeartbeats 4000000 in
theorem m7_joinsTwo (E : EV) (l : Launch) (a0 : Int32) (g : G) : ∀ u, k7_joinsTwo a0 g = some u → MI E l yX7_joinsTwo cX7_joinsTwo 1 (some .boolean) 0 0 0 [.int a0] g (u, g) := by
  intro u h
  refine MG.of (by decide +kernel) (Nat.le_of_ble_eq_true rfl) ?_
  intro p e s m args below meth c C hr hnm ls hl hG
  have C : Cx p s m args meth c cX7_joinsTwo 1 RX7 E := C
  have hx := C.1
  have hb := C.2.1
  have hl : lv_has ls 1 [(0, .int a0)] := hl
  unfold k7_joinsTwo at h
  refine lv_iload_n hx hb dX7_joinsTwo_0 rfl (lv_at hl 0 rfl) ?_
  by_cases c1 : a0 = 4
  · have h := (if_inv h).1 c1
    refine lv_lookup (off := 115) (tgt := 116) hx hb dX7_joinsTwo_1 (by decide +kernel) (by rw [c1]; decide +kernel) (by decide) ?_
    refine lv_iconst (v := 1) hx hb dX7_joinsTwo_116 (by decide) ?_
    exact r_iretP C hG hr rfl dX7_joinsTwo_117 h
  have h := (if_inv h).2 c1
  by_cases c2 : a0 = 5
  · have h := (if_inv h).1 c2
    refine lv_lookup (off := 115) (tgt := 116) hx hb dX7_joinsTwo_1 (by decide +kernel) (by rw [c2]; decide +kernel) (by decide) ?_
    refine lv_iconst (v := 1) hx hb dX7_joinsTwo_116 (by decide) ?_
    exact r_iretP C hG hr rfl dX7_joinsTwo_117 h
  have h := (if_inv h).2 c2
  by_cases c3 : a0 = 42
  · have h := (if_inv h).1 c3
    refine lv_lookup (off := 115) (tgt := 116) hx hb dX7_joinsTwo_1 (by decide +kernel) (by rw [c3]; decide +kernel) (by decide) ?_
    refine lv_iconst (v := 1) hx hb dX7_joinsTwo_116 (by decide) ?_
    exact r_iretP C hG hr rfl dX7_joinsTwo_117 h
  have h := (if_inv h).2 c3
  by_cases c4 : a0 = 43
  · have h := (if_inv h).1 c4
    refine lv_lookup (off := 115) (tgt := 116) hx hb dX7_joinsTwo_1 (by decide +kernel) (by rw [c4]; decide +kernel) (by decide) ?_
    refine lv_iconst (v := 1) hx hb dX7_joinsTwo_116 (by decide) ?_
    exact r_iretP C hG hr rfl dX7_joinsTwo_117 h
  have h := (if_inv h).2 c4
  by_cases c5 : a0 = 45
  · have h := (if_inv h).1 c5
    refine lv_lookup (off := 115) (tgt := 116) hx hb dX7_joinsTwo_1 (by decide +kernel) (by rw [c5]; decide +kernel) (by decide) ?_
    refine lv_iconst (v := 1) hx hb dX7_joinsTwo_116 (by decide) ?_
    exact r_iretP C hG hr rfl dX7_joinsTwo_117 h
  have h := (if_inv h).2 c5
  by_cases c6 : a0 = 47
  · have h := (if_inv h).1 c6
    refine lv_lookup (off := 115) (tgt := 116) hx hb dX7_joinsTwo_1 (by decide +kernel) (by rw [c6]; decide +kernel) (by decide) ?_
    refine lv_iconst (v := 1) hx hb dX7_joinsTwo_116 (by decide) ?_
    exact r_iretP C hG hr rfl dX7_joinsTwo_117 h
  have h := (if_inv h).2 c6
  by_cases c7 : a0 = 60
  · have h := (if_inv h).1 c7
    refine lv_lookup (off := 115) (tgt := 116) hx hb dX7_joinsTwo_1 (by decide +kernel) (by rw [c7]; decide +kernel) (by decide) ?_
    refine lv_iconst (v := 1) hx hb dX7_joinsTwo_116 (by decide) ?_
    exact r_iretP C hG hr rfl dX7_joinsTwo_117 h
  have h := (if_inv h).2 c7
  by_cases c8 : a0 = 61
  · have h := (if_inv h).1 c8
    refine lv_lookup (off := 115) (tgt := 116) hx hb dX7_joinsTwo_1 (by decide +kernel) (by rw [c8]; decide +kernel) (by decide) ?_
    refine lv_iconst (v := 1) hx hb dX7_joinsTwo_116 (by decide) ?_
    exact r_iretP C hG hr rfl dX7_joinsTwo_117 h
  have h := (if_inv h).2 c8
  by_cases c9 : a0 = 62
  · have h := (if_inv h).1 c9
    refine lv_lookup (off := 115) (tgt := 116) hx hb dX7_joinsTwo_1 (by decide +kernel) (by rw [c9]; decide +kernel) (by decide) ?_
    refine lv_iconst (v := 1) hx hb dX7_joinsTwo_116 (by decide) ?_
    exact r_iretP C hG hr rfl dX7_joinsTwo_117 h
  have h := (if_inv h).2 c9
  by_cases c10 : a0 = 150
  · have h := (if_inv h).1 c10
    refine lv_lookup (off := 115) (tgt := 116) hx hb dX7_joinsTwo_1 (by decide +kernel) (by rw [c10]; decide +kernel) (by decide) ?_
    refine lv_iconst (v := 1) hx hb dX7_joinsTwo_116 (by decide) ?_
    exact r_iretP C hG hr rfl dX7_joinsTwo_117 h
  have h := (if_inv h).2 c10
  by_cases c11 : a0 = 151
  · have h := (if_inv h).1 c11
    refine lv_lookup (off := 115) (tgt := 116) hx hb dX7_joinsTwo_1 (by decide +kernel) (by rw [c11]; decide +kernel) (by decide) ?_
    refine lv_iconst (v := 1) hx hb dX7_joinsTwo_116 (by decide) ?_
    exact r_iretP C hG hr rfl dX7_joinsTwo_117 h
  have h := (if_inv h).2 c11
  by_cases c12 : a0 = 152
  · have h := (if_inv h).1 c12
    refine lv_lookup (off := 115) (tgt := 116) hx hb dX7_joinsTwo_1 (by decide +kernel) (by rw [c12]; decide +kernel) (by decide) ?_
    refine lv_iconst (v := 1) hx hb dX7_joinsTwo_116 (by decide) ?_
    exact r_iretP C hG hr rfl dX7_joinsTwo_117 h
  have h := (if_inv h).2 c12
  by_cases c13 : a0 = 153
  · have h := (if_inv h).1 c13
    refine lv_lookup (off := 115) (tgt := 116) hx hb dX7_joinsTwo_1 (by decide +kernel) (by rw [c13]; decide +kernel) (by decide) ?_
    refine lv_iconst (v := 1) hx hb dX7_joinsTwo_116 (by decide) ?_
    exact r_iretP C hG hr rfl dX7_joinsTwo_117 h
  have h := (if_inv h).2 c13
  refine lv_lookup (off := 117) (tgt := 118) hx hb dX7_joinsTwo_1 (by decide +kernel) (lk_def _ _ _ (fa_c (nei c1 (by decide)) (fa_c (nei c2 (by decide)) (fa_c (nei c3 (by decide)) (fa_c (nei c4 (by decide)) (fa_c (nei c5 (by decide)) (fa_c (nei c6 (by decide)) (fa_c (nei c7 (by decide)) (fa_c (nei c8 (by decide)) (fa_c (nei c9 (by decide)) (fa_c (nei c10 (by decide)) (fa_c (nei c11 (by decide)) (fa_c (nei c12 (by decide)) (fa_c (nei c13 (by decide)) fa_n)))))))))))))) (by decide) ?_
  refine lv_iconst (v := 0) hx hb dX7_joinsTwo_118 (by decide) ?_
  exact r_iretP C hG hr rfl dX7_joinsTwo_119 h
def k7_join  (a0 : Int32) (a1 : Int32) (a2 : Int32) (g : G) : Option (Int32) :=
  if a0 = 4 then
    if a2 < a1 then
      some 0
    else
      some 1
  else
  if a0 = 5 then
    if a1 < a2 then
      some 0
    else
      some 1
  else
  if a0 = 42 then
    some (a1 * a2)
  else
  if a0 = 43 then
    some (a1 + a2)
  else
  if a0 = 45 then
    some (a1 - a2)
  else
  if a0 = 47 then
    if a2 = 0 then
      some 0
    else
      dv a1 a2 fun x10 =>
      some x10
  else
  if a0 = 60 then
    if a2 ≤ a1 then
      some 0
    else
      some 1
  else
  if a0 = 61 then
    if a1 = a2 then
      some 1
    else
      some 0
  else
  if a0 = 62 then
    if a1 ≤ a2 then
      some 0
    else
      some 1
  else
  if a0 = 150 then
    some (a1 &&& a2)
  else
  if a0 = 151 then
    some (a1 ||| a2)
  else
  if a0 = 152 then
    bd (if a2 < a1 then a2 else a1) fun x20 =>
    some x20
  else
  bd (if a1 < a2 then a2 else a1) fun x21 =>
  some x21
set_option maxRecDepth 100000 in
set_option maxHeartbeats 4000000 in
theorem m7_join (E : EV) (l : Launch) (a0 : Int32) (a1 : Int32) (a2 : Int32) (g : G) : ∀ u, k7_join a0 a1 a2 g = some u → MI E l yX7_join cX7_join 3 (some .int) 1 0 0 [.int a0, .int a1, .int a2] g (u, g) := by
  intro u h
  refine MG.of (by decide +kernel) (Nat.le_of_ble_eq_true rfl) ?_
  intro p e s m args below meth c C hr hnm ls hl hG
  have C : Cx p s m args meth c cX7_join 3 RX7 E := C
  have hx := C.1
  have hb := C.2.1
  have hl : lv_has ls 3 [(0, .int a0), (1, .int a1), (2, .int a2)] := hl
  unfold k7_join at h
  refine lv_iload_n hx hb dX7_join_0 rfl (lv_at hl 0 rfl) ?_
  by_cases c1 : a0 = 4
  · have h := (if_inv h).1 c1
    refine lv_lookup (off := 164) (tgt := 165) hx hb dX7_join_1 (by decide +kernel) (by rw [c1]; decide +kernel) (by decide) ?_
    refine lv_iload_n hx hb dX7_join_165 rfl (lv_at hl 1 rfl) ?_
    refine lv_iload_n hx hb dX7_join_166 rfl (lv_at hl 2 rfl) ?_
    refine lv_icmp_gt (tgt := 174) hx hb dX7_join_167 (by decide) (fun c2 => ?_) (fun c2 => ?_)
    · have h := (if_inv h).1 c2
      refine lv_iconst (v := 0) hx hb dX7_join_174 (by decide) ?_
      exact r_iretP C hG hr rfl dX7_join_175 h
    · have h := (if_inv h).2 c2
      refine lv_iconst (v := 1) hx hb dX7_join_170 (by decide) ?_
      refine lv_goto (tgt := 175) hx hb dX7_join_171 (by decide) ?_
      exact r_iretP C hG hr rfl dX7_join_175 h
  have h := (if_inv h).2 c1
  by_cases c3 : a0 = 5
  · have h := (if_inv h).1 c3
    refine lv_lookup (off := 175) (tgt := 176) hx hb dX7_join_1 (by decide +kernel) (by rw [c3]; decide +kernel) (by decide) ?_
    refine lv_iload_n hx hb dX7_join_176 rfl (lv_at hl 1 rfl) ?_
    refine lv_iload_n hx hb dX7_join_177 rfl (lv_at hl 2 rfl) ?_
    refine lv_icmp_lt (tgt := 185) hx hb dX7_join_178 (by decide) (fun c4 => ?_) (fun c4 => ?_)
    · have h := (if_inv h).1 c4
      refine lv_iconst (v := 0) hx hb dX7_join_185 (by decide) ?_
      exact r_iretP C hG hr rfl dX7_join_186 h
    · have h := (if_inv h).2 c4
      refine lv_iconst (v := 1) hx hb dX7_join_181 (by decide) ?_
      refine lv_goto (tgt := 186) hx hb dX7_join_182 (by decide) ?_
      exact r_iretP C hG hr rfl dX7_join_186 h
  have h := (if_inv h).2 c3
  by_cases c5 : a0 = 42
  · have h := (if_inv h).1 c5
    refine lv_lookup (off := 115) (tgt := 116) hx hb dX7_join_1 (by decide +kernel) (by rw [c5]; decide +kernel) (by decide) ?_
    refine lv_iload_n hx hb dX7_join_116 rfl (lv_at hl 1 rfl) ?_
    refine lv_iload_n hx hb dX7_join_117 rfl (lv_at hl 2 rfl) ?_
    refine lv_imul hx hb dX7_join_118 ?_
    exact r_iretP C hG hr rfl dX7_join_119 h
  have h := (if_inv h).2 c5
  by_cases c6 : a0 = 43
  · have h := (if_inv h).1 c6
    refine lv_lookup (off := 107) (tgt := 108) hx hb dX7_join_1 (by decide +kernel) (by rw [c6]; decide +kernel) (by decide) ?_
    refine lv_iload_n hx hb dX7_join_108 rfl (lv_at hl 1 rfl) ?_
    refine lv_iload_n hx hb dX7_join_109 rfl (lv_at hl 2 rfl) ?_
    refine lv_iadd hx hb dX7_join_110 ?_
    exact r_iretP C hG hr rfl dX7_join_111 h
  have h := (if_inv h).2 c6
  by_cases c7 : a0 = 45
  · have h := (if_inv h).1 c7
    refine lv_lookup (off := 111) (tgt := 112) hx hb dX7_join_1 (by decide +kernel) (by rw [c7]; decide +kernel) (by decide) ?_
    refine lv_iload_n hx hb dX7_join_112 rfl (lv_at hl 1 rfl) ?_
    refine lv_iload_n hx hb dX7_join_113 rfl (lv_at hl 2 rfl) ?_
    refine lv_isub hx hb dX7_join_114 ?_
    exact r_iretP C hG hr rfl dX7_join_115 h
  have h := (if_inv h).2 c7
  by_cases c8 : a0 = 47
  · have h := (if_inv h).1 c8
    refine lv_lookup (off := 119) (tgt := 120) hx hb dX7_join_1 (by decide +kernel) (by rw [c8]; decide +kernel) (by decide) ?_
    refine lv_iload_n hx hb dX7_join_120 rfl (lv_at hl 2 rfl) ?_
    refine lv_if_ne (tgt := 128) hx hb dX7_join_121 (by decide) (fun c9 => ?_) (fun c9 => ?_)
    · have h := (if_inv h).2 c9
      refine lv_iload_n hx hb dX7_join_128 rfl (lv_at hl 1 rfl) ?_
      refine lv_iload_n hx hb dX7_join_129 rfl (lv_at hl 2 rfl) ?_
      refine r_div C dX7_join_130 h (fun x10 h => ?_)
      exact r_iretP C hG hr rfl dX7_join_131 h
    · have h := (if_inv h).1 c9
      refine lv_iconst (v := 0) hx hb dX7_join_124 (by decide) ?_
      refine lv_goto (tgt := 131) hx hb dX7_join_125 (by decide) ?_
      exact r_iretP C hG hr rfl dX7_join_131 h
  have h := (if_inv h).2 c8
  by_cases c11 : a0 = 60
  · have h := (if_inv h).1 c11
    refine lv_lookup (off := 131) (tgt := 132) hx hb dX7_join_1 (by decide +kernel) (by rw [c11]; decide +kernel) (by decide) ?_
    refine lv_iload_n hx hb dX7_join_132 rfl (lv_at hl 1 rfl) ?_
    refine lv_iload_n hx hb dX7_join_133 rfl (lv_at hl 2 rfl) ?_
    refine lv_icmp_ge (tgt := 141) hx hb dX7_join_134 (by decide) (fun c12 => ?_) (fun c12 => ?_)
    · have h := (if_inv h).1 c12
      refine lv_iconst (v := 0) hx hb dX7_join_141 (by decide) ?_
      exact r_iretP C hG hr rfl dX7_join_142 h
    · have h := (if_inv h).2 c12
      refine lv_iconst (v := 1) hx hb dX7_join_137 (by decide) ?_
      refine lv_goto (tgt := 142) hx hb dX7_join_138 (by decide) ?_
      exact r_iretP C hG hr rfl dX7_join_142 h
  have h := (if_inv h).2 c11
  by_cases c13 : a0 = 61
  · have h := (if_inv h).1 c13
    refine lv_lookup (off := 153) (tgt := 154) hx hb dX7_join_1 (by decide +kernel) (by rw [c13]; decide +kernel) (by decide) ?_
    refine lv_iload_n hx hb dX7_join_154 rfl (lv_at hl 1 rfl) ?_
    refine lv_iload_n hx hb dX7_join_155 rfl (lv_at hl 2 rfl) ?_
    refine lv_icmp_ne (tgt := 163) hx hb dX7_join_156 (by decide) (fun c14 => ?_) (fun c14 => ?_)
    · have h := (if_inv h).2 c14
      refine lv_iconst (v := 0) hx hb dX7_join_163 (by decide) ?_
      exact r_iretP C hG hr rfl dX7_join_164 h
    · have h := (if_inv h).1 c14
      refine lv_iconst (v := 1) hx hb dX7_join_159 (by decide) ?_
      refine lv_goto (tgt := 164) hx hb dX7_join_160 (by decide) ?_
      exact r_iretP C hG hr rfl dX7_join_164 h
  have h := (if_inv h).2 c13
  by_cases c15 : a0 = 62
  · have h := (if_inv h).1 c15
    refine lv_lookup (off := 142) (tgt := 143) hx hb dX7_join_1 (by decide +kernel) (by rw [c15]; decide +kernel) (by decide) ?_
    refine lv_iload_n hx hb dX7_join_143 rfl (lv_at hl 1 rfl) ?_
    refine lv_iload_n hx hb dX7_join_144 rfl (lv_at hl 2 rfl) ?_
    refine lv_icmp_le (tgt := 152) hx hb dX7_join_145 (by decide) (fun c16 => ?_) (fun c16 => ?_)
    · have h := (if_inv h).1 c16
      refine lv_iconst (v := 0) hx hb dX7_join_152 (by decide) ?_
      exact r_iretP C hG hr rfl dX7_join_153 h
    · have h := (if_inv h).2 c16
      refine lv_iconst (v := 1) hx hb dX7_join_148 (by decide) ?_
      refine lv_goto (tgt := 153) hx hb dX7_join_149 (by decide) ?_
      exact r_iretP C hG hr rfl dX7_join_153 h
  have h := (if_inv h).2 c15
  by_cases c17 : a0 = 150
  · have h := (if_inv h).1 c17
    refine lv_lookup (off := 186) (tgt := 187) hx hb dX7_join_1 (by decide +kernel) (by rw [c17]; decide +kernel) (by decide) ?_
    refine lv_iload_n hx hb dX7_join_187 rfl (lv_at hl 1 rfl) ?_
    refine lv_iload_n hx hb dX7_join_188 rfl (lv_at hl 2 rfl) ?_
    refine lv_iand hx hb dX7_join_189 ?_
    exact r_iretP C hG hr rfl dX7_join_190 h
  have h := (if_inv h).2 c17
  by_cases c18 : a0 = 151
  · have h := (if_inv h).1 c18
    refine lv_lookup (off := 190) (tgt := 191) hx hb dX7_join_1 (by decide +kernel) (by rw [c18]; decide +kernel) (by decide) ?_
    refine lv_iload_n hx hb dX7_join_191 rfl (lv_at hl 1 rfl) ?_
    refine lv_iload_n hx hb dX7_join_192 rfl (lv_at hl 2 rfl) ?_
    refine lv_ior hx hb dX7_join_193 ?_
    exact r_iretP C hG hr rfl dX7_join_194 h
  have h := (if_inv h).2 c18
  by_cases c19 : a0 = 152
  · have h := (if_inv h).1 c19
    refine lv_lookup (off := 194) (tgt := 195) hx hb dX7_join_1 (by decide +kernel) (by rw [c19]; decide +kernel) (by decide) ?_
    refine lv_iload_n hx hb dX7_join_195 rfl (lv_at hl 1 rfl) ?_
    refine lv_iload_n hx hb dX7_join_196 rfl (lv_at hl 2 rfl) ?_
    refine r_min C hl.1 LX7_129 ⟨(Nat.le_of_ble_eq_true rfl), (Nat.le_of_ble_eq_true rfl), Nat.zero_le _, Nat.zero_le _⟩ dX7_join_197 ?_
    refine r_nm h (fun x20 h => ?_)
    exact r_iretP C hG hr rfl dX7_join_200 h
  have h := (if_inv h).2 c19
  refine lv_lookup (off := 200) (tgt := 201) hx hb dX7_join_1 (by decide +kernel) (lk_def _ _ _ (fa_c (nei c1 (by decide)) (fa_c (nei c3 (by decide)) (fa_c (nei c5 (by decide)) (fa_c (nei c6 (by decide)) (fa_c (nei c7 (by decide)) (fa_c (nei c8 (by decide)) (fa_c (nei c11 (by decide)) (fa_c (nei c13 (by decide)) (fa_c (nei c15 (by decide)) (fa_c (nei c17 (by decide)) (fa_c (nei c18 (by decide)) (fa_c (nei c19 (by decide)) fa_n))))))))))))) (by decide) ?_
  refine lv_iload_n hx hb dX7_join_201 rfl (lv_at hl 1 rfl) ?_
  refine lv_iload_n hx hb dX7_join_202 rfl (lv_at hl 2 rfl) ?_
  refine r_max C hl.1 LX7_134 ⟨(Nat.le_of_ble_eq_true rfl), (Nat.le_of_ble_eq_true rfl), Nat.zero_le _, Nat.zero_le _⟩ dX7_join_203 ?_
  refine r_nm h (fun x21 h => ?_)
  exact r_iretP C hG hr rfl dX7_join_206 h
def k7_valueOf (o : Nat) (a1 : Int32) (a2 : Int32) (g : G) : Option (Int32 × G) :=
  if a1 = 3 then
    some (a2, g)
  else
  if a1 = 7 then
    some (1, g)
  else
  if a1 = 140 then
    some ((g o 5), g)
  else
  if a1 = 141 then
    (k4_lastLight (o + 1) g).bind fun u5 =>
    some (u5.1, u5.2)
  else
  if a1 = 142 then
    some ((g (o + 9) 2), g)
  else
  if a1 = 147 then
    (k4_showsLight (o + 1) g).bind fun u8 =>
    if u8.1 = 0 then
      some (0, u8.2)
    else
      some (1, u8.2)
  else
  if a1 = 148 then
    (k3_hasJobFor (o + 9) a2 g).bind fun u11 =>
    if u11 = 0 then
      some (0, g)
    else
      some (1, g)
  else
  (k4_valueOf (o + 1) a1 a2 g).bind fun u13 =>
  some (u13.1, u13.2)
set_option maxRecDepth 100000 in
set_option maxHeartbeats 4000000 in
theorem m7_valueOf (E : EV) (l : Launch) (o : Nat) (hk : kd o = 7) (a1 : Int32) (a2 : Int32) (g : G) : ∀ u, k7_valueOf o a1 a2 g = some u → MI E l yX7_valueOf cX7_valueOf 3 (some .int) 3 0 0 [.ref (E.ad o), .int a1, .int a2] g u := by
  intro u h
  refine MG.of (by decide +kernel) (Nat.le_of_ble_eq_true rfl) ?_
  intro p e s m args below meth c C hr hnm ls hl hG
  have C : Cx p s m args meth c cX7_valueOf 3 RX7 E := C
  have hx := C.1
  have hb := C.2.1
  have hl : lv_has ls 3 [(0, .ref (E.ad o)), (1, .int a1), (2, .int a2)] := hl
  unfold k7_valueOf at h
  refine lv_iload_n hx hb dX7_valueOf_0 rfl (lv_at hl 1 rfl) ?_
  by_cases c1 : a1 = 3
  · have h := (if_inv h).1 c1
    refine lv_lookup (off := 67) (tgt := 68) hx hb dX7_valueOf_1 (by decide +kernel) (by rw [c1]; decide +kernel) (by decide) ?_
    refine lv_iload_n hx hb dX7_valueOf_68 rfl (lv_at hl 2 rfl) ?_
    exact r_iret C hG hr rfl dX7_valueOf_69 h
  have h := (if_inv h).2 c1
  by_cases c2 : a1 = 7
  · have h := (if_inv h).1 c2
    refine lv_lookup (off := 69) (tgt := 70) hx hb dX7_valueOf_1 (by decide +kernel) (by rw [c2]; decide +kernel) (by decide) ?_
    refine lv_iconst (v := 1) hx hb dX7_valueOf_70 (by decide) ?_
    exact r_iret C hG hr rfl dX7_valueOf_71 h
  have h := (if_inv h).2 c2
  by_cases c3 : a1 = 140
  · have h := (if_inv h).1 c3
    refine lv_lookup (off := 71) (tgt := 72) hx hb dX7_valueOf_1 (by decide +kernel) (by rw [c3]; decide +kernel) (by decide) ?_
    refine lv_aload_n hx hb dX7_valueOf_72 rfl (lv_at hl 0 rfl) ?_
    refine r_getI C hG FX7_39 hk rfl dX7_valueOf_73 ?_
    exact r_iret C hG hr rfl dX7_valueOf_76 h
  have h := (if_inv h).2 c3
  by_cases c4 : a1 = 141
  · have h := (if_inv h).1 c4
    refine lv_lookup (off := 76) (tgt := 77) hx hb dX7_valueOf_1 (by decide +kernel) (by rw [c4]; decide +kernel) (by decide) ?_
    refine lv_aload_n hx hb dX7_valueOf_77 rfl (lv_at hl 0 rfl) ?_
    refine r_getR (d := 1) C hG FX7_12 hk rfl (by decide) dX7_valueOf_78 ?_
    refine r_callVI C hl.1 hG [] [] (m4_lastLight E l (o + 1) (kR7_1 hk) g) LX7_115 (kR7_1 hk) KC4 rfl (rm_ok (by decide) (by decide)) (Nat.le_of_ble_eq_true rfl) ⟨Nat.le_refl _, Nat.le_refl _⟩ rfl dX7_valueOf_81 h (fun u5 H locs hG h => ?_)
    exact r_iret C hG hr rfl dX7_valueOf_84 h
  have h := (if_inv h).2 c4
  by_cases c6 : a1 = 142
  · have h := (if_inv h).1 c6
    refine lv_lookup (off := 84) (tgt := 85) hx hb dX7_valueOf_1 (by decide +kernel) (by rw [c6]; decide +kernel) (by decide) ?_
    refine lv_aload_n hx hb dX7_valueOf_85 rfl (lv_at hl 0 rfl) ?_
    refine r_getR (d := 9) C hG FX7_21 hk rfl (by decide) dX7_valueOf_86 ?_
    refine r_getI C hG FX7_118 (kR7_2 hk) rfl dX7_valueOf_89 ?_
    exact r_iret C hG hr rfl dX7_valueOf_92 h
  have h := (if_inv h).2 c6
  by_cases c7 : a1 = 147
  · have h := (if_inv h).1 c7
    refine lv_lookup (off := 92) (tgt := 93) hx hb dX7_valueOf_1 (by decide +kernel) (by rw [c7]; decide +kernel) (by decide) ?_
    refine lv_aload_n hx hb dX7_valueOf_93 rfl (lv_at hl 0 rfl) ?_
    refine r_getR (d := 1) C hG FX7_12 hk rfl (by decide) dX7_valueOf_94 ?_
    refine r_callVI C hl.1 hG [] [] (m4_showsLight E l (o + 1) (kR7_1 hk) g) LX7_121 (kR7_1 hk) KC4 rfl (rm_ok (by decide) (by decide)) (Nat.le_of_ble_eq_true rfl) ⟨Nat.le_refl _, Nat.le_refl _⟩ rfl dX7_valueOf_97 h (fun u8 H locs hG h => ?_)
    refine lv_if_eq (tgt := 107) hx hb dX7_valueOf_100 (by decide) (fun c9 => ?_) (fun c9 => ?_)
    · have h := (if_inv h).1 c9
      refine lv_iconst (v := 0) hx hb dX7_valueOf_107 (by decide) ?_
      exact r_iret C hG hr rfl dX7_valueOf_108 h
    · have h := (if_inv h).2 c9
      refine lv_iconst (v := 1) hx hb dX7_valueOf_103 (by decide) ?_
      refine lv_goto (tgt := 108) hx hb dX7_valueOf_104 (by decide) ?_
      exact r_iret C hG hr rfl dX7_valueOf_108 h
  have h := (if_inv h).2 c7
  by_cases c10 : a1 = 148
  · have h := (if_inv h).1 c10
    refine lv_lookup (off := 108) (tgt := 109) hx hb dX7_valueOf_1 (by decide +kernel) (by rw [c10]; decide +kernel) (by decide) ?_
    refine lv_aload_n hx hb dX7_valueOf_109 rfl (lv_at hl 0 rfl) ?_
    refine r_getR (d := 9) C hG FX7_21 hk rfl (by decide) dX7_valueOf_110 ?_
    refine lv_iload_n hx hb dX7_valueOf_113 rfl (lv_at hl 2 rfl) ?_
    refine r_callVIP C hl.1 hG [.int a2] [] (m3_hasJobFor E l (o + 9) (kR7_2 hk) a2 g) LX7_125 (kR7_2 hk) KC3 rfl (rm_ok (by decide) (by decide)) (Nat.le_of_ble_eq_true rfl) ⟨Nat.le_refl _, Nat.le_refl _⟩ rfl dX7_valueOf_114 h (fun u11 H locs hG h => ?_)
    refine lv_if_eq (tgt := 124) hx hb dX7_valueOf_117 (by decide) (fun c12 => ?_) (fun c12 => ?_)
    · have h := (if_inv h).1 c12
      refine lv_iconst (v := 0) hx hb dX7_valueOf_124 (by decide) ?_
      exact r_iret C hG hr rfl dX7_valueOf_125 h
    · have h := (if_inv h).2 c12
      refine lv_iconst (v := 1) hx hb dX7_valueOf_120 (by decide) ?_
      refine lv_goto (tgt := 125) hx hb dX7_valueOf_121 (by decide) ?_
      exact r_iret C hG hr rfl dX7_valueOf_125 h
  have h := (if_inv h).2 c10
  refine lv_lookup (off := 125) (tgt := 126) hx hb dX7_valueOf_1 (by decide +kernel) (lk_def _ _ _ (fa_c (nei c1 (by decide)) (fa_c (nei c2 (by decide)) (fa_c (nei c3 (by decide)) (fa_c (nei c4 (by decide)) (fa_c (nei c6 (by decide)) (fa_c (nei c7 (by decide)) (fa_c (nei c10 (by decide)) fa_n)))))))) (by decide) ?_
  refine lv_aload_n hx hb dX7_valueOf_126 rfl (lv_at hl 0 rfl) ?_
  refine r_getR (d := 1) C hG FX7_12 hk rfl (by decide) dX7_valueOf_127 ?_
  refine lv_iload_n hx hb dX7_valueOf_130 rfl (lv_at hl 1 rfl) ?_
  refine lv_iload_n hx hb dX7_valueOf_131 rfl (lv_at hl 2 rfl) ?_
  refine r_callVI C hl.1 hG [.int a1, .int a2] [] (m4_valueOf E l (o + 1) (kR7_1 hk) a1 a2 g) LX7_128 (kR7_1 hk) KC4 rfl (rm_ok (by decide) (by decide)) (Nat.le_of_ble_eq_true rfl) ⟨Nat.le_refl _, Nat.le_refl _⟩ rfl dX7_valueOf_132 h (fun u13 H locs hG h => ?_)
  exact r_iret C hG hr rfl dX7_valueOf_135 h
def k7_follow (o : Nat) (a1 : Int32) (a2 : Int32) (g : G) : Option (G) :=
  (k8_isOrder a1 g).bind fun u1 =>
  if u1 = 0 then
    if a1 = 6 then
      (k7_pop o g).bind fun u16 =>
      (k7_push o (-u16.1) u16.2).bind fun g17 =>
      some g17
    else
      if a1 = 149 then
        (k7_pop o g).bind fun u14 =>
        (k7_push o (1 - u14.1) u14.2).bind fun g15 =>
        some g15
      else
        (k7_joinsTwo a1 g).bind fun u5 =>
        if u5 = 0 then
          (k7_valueOf o a1 a2 g).bind fun u7 =>
          (k7_push o u7.1 u7.2).bind fun g8 =>
          some g8
        else
          (k7_pop o g).bind fun u9 =>
          bd u9.1 fun x10 =>
          (k7_pop o u9.2).bind fun u11 =>
          (k7_join a1 u11.1 x10 u11.2).bind fun u12 =>
          (k7_push o u12 u11.2).bind fun g13 =>
          some g13
  else
    (k7_carryOut o a1 a2 g).bind fun g18 =>
    some g18
set_option maxRecDepth 100000 in
set_option maxHeartbeats 4000000 in
theorem m7_follow (E : EV) (l : Launch) (o : Nat) (hk : kd o = 7) (a1 : Int32) (a2 : Int32) (g : G) : ∀ u, k7_follow o a1 a2 g = some u → MV E l yX7_follow cX7_follow 4 none 5 0 0 [.ref (E.ad o), .int a1, .int a2] g u := by
  intro u h
  refine MG.of (by decide +kernel) (Nat.le_of_ble_eq_true rfl) ?_
  intro p e s m args below meth c C hr hnm ls hl hG
  have C : Cx p s m args meth c cX7_follow 4 RX7 E := C
  have hx := C.1
  have hb := C.2.1
  have hl : lv_has ls 4 [(0, .ref (E.ad o)), (1, .int a1), (2, .int a2)] := hl
  unfold k7_follow at h
  refine lv_iload_n hx hb dX7_follow_0 rfl (lv_at hl 1 rfl) ?_
  refine r_callSIP C hl.1 hG [.int a1] [] (m8_isOrder E l a1 g) LX7_78 rfl (rm_ok (by decide) (by decide)) (Nat.le_of_ble_eq_true rfl) ⟨Nat.le_refl _, Nat.le_refl _⟩ rfl dX7_follow_1 h (fun u1 H locs hG h => ?_)
  refine lv_if_eq (tgt := 16) hx hb dX7_follow_4 (by decide) (fun c2 => ?_) (fun c2 => ?_)
  · have h := (if_inv h).1 c2
    refine lv_iload_n hx hb dX7_follow_16 rfl (lv_at hl 1 rfl) ?_
    refine lv_bipush (v := 6) hx hb dX7_follow_17 (by decide) ?_
    refine lv_icmp_ne (tgt := 34) hx hb dX7_follow_19 (by decide) (fun c3 => ?_) (fun c3 => ?_)
    · have h := (if_inv h).2 c3
      refine lv_iload_n hx hb dX7_follow_34 rfl (lv_at hl 1 rfl) ?_
      refine lv_sipush (v := 149) hx hb dX7_follow_35 (by decide) ?_
      refine lv_icmp_ne (tgt := 54) hx hb dX7_follow_38 (by decide) (fun c4 => ?_) (fun c4 => ?_)
      · have h := (if_inv h).2 c4
        refine lv_iload_n hx hb dX7_follow_54 rfl (lv_at hl 1 rfl) ?_
        refine r_callSIP C hl.1 hG [.int a1] [] (m7_joinsTwo E l a1 g) LX7_92 rfl (rm_ok (by decide) (by decide)) (Nat.le_of_ble_eq_true rfl) ⟨Nat.le_refl _, Nat.le_refl _⟩ rfl dX7_follow_55 h (fun u5 H locs hG h => ?_)
        refine lv_if_eq (tgt := 82) hx hb dX7_follow_58 (by decide) (fun c6 => ?_) (fun c6 => ?_)
        · have h := (if_inv h).1 c6
          refine lv_aload_n hx hb dX7_follow_82 rfl (lv_at hl 0 rfl) ?_
          refine lv_aload_n hx hb dX7_follow_83 rfl (lv_at hl 0 rfl) ?_
          refine lv_iload_n hx hb dX7_follow_84 rfl (lv_at hl 1 rfl) ?_
          refine lv_iload_n hx hb dX7_follow_85 rfl (lv_at hl 2 rfl) ?_
          refine r_callVI C hl.1 hG [.int a1, .int a2] [.ref (E.ad o)] (m7_valueOf E l o hk a1 a2 g) LX7_99 hk KC7 rfl (rm_ok (by decide) (by decide)) (Nat.le_of_ble_eq_true rfl) ⟨Nat.le_refl _, Nat.le_refl _⟩ rfl dX7_follow_86 h (fun u7 H locs hG h => ?_)
          refine r_callVV C hl.1 hG [.int u7.1] [] (m7_push E l o hk u7.1 u7.2) LX7_89 hk KC7 rfl (rm_ok (by decide) (by decide)) (Nat.le_of_ble_eq_true rfl) ⟨Nat.le_refl _, Nat.le_refl _⟩ rfl dX7_follow_89 h (fun g8 H locs hG h => ?_)
          exact r_vret C hG hr dX7_follow_92 h
        · have h := (if_inv h).2 c6
          refine lv_aload_n hx hb dX7_follow_61 rfl (lv_at hl 0 rfl) ?_
          refine r_callVI C hl.1 hG [] [] (m7_pop E l o hk g) LX7_85 hk KC7 rfl (rm_ok (by decide) (by decide)) (Nat.le_of_ble_eq_true rfl) ⟨Nat.le_refl _, Nat.le_refl _⟩ rfl dX7_follow_62 h (fun u9 H locs hG h => ?_)
          refine r_nm h (fun x10 h => ?_)
          refine lv_istore_n (lv' := [(3, .int x10), (0, .ref (E.ad o)), (1, .int a1), (2, .int a2)]) hx hb dX7_follow_65 rfl hl (by decide) rfl (fun ls hl => ?_)
          refine lv_aload_n hx hb dX7_follow_66 rfl (lv_at hl 1 rfl) ?_
          refine lv_iload_n hx hb dX7_follow_67 rfl (lv_at hl 2 rfl) ?_
          refine lv_aload_n hx hb dX7_follow_68 rfl (lv_at hl 1 rfl) ?_
          refine r_callVI C hl.1 hG [] [.int a1, .ref (E.ad o)] (m7_pop E l o hk u9.2) LX7_85 hk KC7 rfl (rm_ok (by decide) (by decide)) (Nat.le_of_ble_eq_true rfl) ⟨Nat.le_refl _, Nat.le_refl _⟩ rfl dX7_follow_69 h (fun u11 H locs hG h => ?_)
          refine lv_iload_n hx hb dX7_follow_72 rfl (lv_at hl 0 rfl) ?_
          refine r_callSIP C hl.1 hG [.int a1, .int u11.1, .int x10] [.ref (E.ad o)] (m7_join E l a1 u11.1 x10 u11.2) LX7_95 rfl (rm_ok (by decide) (by decide)) (Nat.le_of_ble_eq_true rfl) ⟨Nat.le_refl _, Nat.le_refl _⟩ rfl dX7_follow_73 h (fun u12 H locs hG h => ?_)
          refine r_callVV C hl.1 hG [.int u12] [] (m7_push E l o hk u12 u11.2) LX7_89 hk KC7 rfl (rm_ok (by decide) (by decide)) (Nat.le_of_ble_eq_true rfl) ⟨Nat.le_refl _, Nat.le_refl _⟩ rfl dX7_follow_76 h (fun g13 H locs hG h => ?_)
          refine lv_goto (tgt := 92) hx hb dX7_follow_79 (by decide) ?_
          exact r_vret C hG hr dX7_follow_92 h
      · have h := (if_inv h).1 c4
        refine lv_aload_n hx hb dX7_follow_41 rfl (lv_at hl 0 rfl) ?_
        refine lv_iconst (v := 1) hx hb dX7_follow_42 (by decide) ?_
        refine lv_aload_n hx hb dX7_follow_43 rfl (lv_at hl 0 rfl) ?_
        refine r_callVI C hl.1 hG [] [.int 1, .ref (E.ad o)] (m7_pop E l o hk g) LX7_85 hk KC7 rfl (rm_ok (by decide) (by decide)) (Nat.le_of_ble_eq_true rfl) ⟨Nat.le_refl _, Nat.le_refl _⟩ rfl dX7_follow_44 h (fun u14 H locs hG h => ?_)
        refine lv_isub hx hb dX7_follow_47 ?_
        refine r_callVV C hl.1 hG [.int (1 - u14.1)] [] (m7_push E l o hk (1 - u14.1) u14.2) LX7_89 hk KC7 rfl (rm_ok (by decide) (by decide)) (Nat.le_of_ble_eq_true rfl) ⟨Nat.le_refl _, Nat.le_refl _⟩ rfl dX7_follow_48 h (fun g15 H locs hG h => ?_)
        refine lv_goto (tgt := 92) hx hb dX7_follow_51 (by decide) ?_
        exact r_vret C hG hr dX7_follow_92 h
    · have h := (if_inv h).1 c3
      refine lv_aload_n hx hb dX7_follow_22 rfl (lv_at hl 0 rfl) ?_
      refine lv_aload_n hx hb dX7_follow_23 rfl (lv_at hl 0 rfl) ?_
      refine r_callVI C hl.1 hG [] [.ref (E.ad o)] (m7_pop E l o hk g) LX7_85 hk KC7 rfl (rm_ok (by decide) (by decide)) (Nat.le_of_ble_eq_true rfl) ⟨Nat.le_refl _, Nat.le_refl _⟩ rfl dX7_follow_24 h (fun u16 H locs hG h => ?_)
      refine lv_ineg hx hb dX7_follow_27 ?_
      refine r_callVV C hl.1 hG [.int (-u16.1)] [] (m7_push E l o hk (-u16.1) u16.2) LX7_89 hk KC7 rfl (rm_ok (by decide) (by decide)) (Nat.le_of_ble_eq_true rfl) ⟨Nat.le_refl _, Nat.le_refl _⟩ rfl dX7_follow_28 h (fun g17 H locs hG h => ?_)
      refine lv_goto (tgt := 92) hx hb dX7_follow_31 (by decide) ?_
      exact r_vret C hG hr dX7_follow_92 h
  · have h := (if_inv h).2 c2
    refine lv_aload_n hx hb dX7_follow_7 rfl (lv_at hl 0 rfl) ?_
    refine lv_iload_n hx hb dX7_follow_8 rfl (lv_at hl 1 rfl) ?_
    refine lv_iload_n hx hb dX7_follow_9 rfl (lv_at hl 2 rfl) ?_
    refine r_callVV C hl.1 hG [.int a1, .int a2] [] (m7_carryOut E l o hk a1 a2 g) LX7_82 hk KC7 rfl (rm_ok (by decide) (by decide)) (Nat.le_of_ble_eq_true rfl) ⟨Nat.le_refl _, Nat.le_refl _⟩ rfl dX7_follow_10 h (fun g18 H locs hG h => ?_)
    refine lv_goto (tgt := 92) hx hb dX7_follow_13 (by decide) ?_
    exact r_vret C hG hr dX7_follow_92 h
def k7_minutesFor (o : Nat) (a1 : Int32) (a2 : Int32) (g : G) : Option (Int32 × G) :=
  if a1 = 0 then
    (k4_valueOf (o + 1) 129 a2 g).bind fun u2 =>
    dv (100 - u2.1) 10 fun x3 =>
    some ((x3 + 1), u2.2)
  else
  if a1 = 1 then
    (k4_valueOf (o + 1) 130 a2 g).bind fun u5 =>
    bd (if 0 ≤ u5.1 then u5.1 else 0 - u5.1) fun x6 =>
    dv x6 5 fun x7 =>
    some ((x7 + 1), u5.2)
  else
  some (20, g)
set_option maxRecDepth 100000 in
set_option maxHeartbeats 4000000 in
theorem m7_minutesFor (E : EV) (l : Launch) (o : Nat) (hk : kd o = 7) (a1 : Int32) (a2 : Int32) (g : G) : ∀ u, k7_minutesFor o a1 a2 g = some u → MI E l yX7_minutesFor cX7_minutesFor 3 (some .int) 3 0 0 [.ref (E.ad o), .int a1, .int a2] g u := by
  intro u h
  refine MG.of (by decide +kernel) (Nat.le_of_ble_eq_true rfl) ?_
  intro p e s m args below meth c C hr hnm ls hl hG
  have C : Cx p s m args meth c cX7_minutesFor 3 RX7 E := C
  have hx := C.1
  have hb := C.2.1
  have hl : lv_has ls 3 [(0, .ref (E.ad o)), (1, .int a1), (2, .int a2)] := hl
  unfold k7_minutesFor at h
  refine lv_iload_n hx hb dX7_minutesFor_0 rfl (lv_at hl 1 rfl) ?_
  by_cases c1 : a1 = 0
  · have h := (if_inv h).1 c1
    refine lv_lookup (off := 27) (tgt := 28) hx hb dX7_minutesFor_1 (by decide +kernel) (by rw [c1]; decide +kernel) (by decide) ?_
    refine lv_bipush (v := 100) hx hb dX7_minutesFor_28 (by decide) ?_
    refine lv_aload_n hx hb dX7_minutesFor_30 rfl (lv_at hl 0 rfl) ?_
    refine r_getR (d := 1) C hG FX7_12 hk rfl (by decide) dX7_minutesFor_31 ?_
    refine lv_sipush (v := 129) hx hb dX7_minutesFor_34 (by decide) ?_
    refine lv_iload_n hx hb dX7_minutesFor_37 rfl (lv_at hl 2 rfl) ?_
    refine r_callVI C hl.1 hG [.int 129, .int a2] [.int 100] (m4_valueOf E l (o + 1) (kR7_1 hk) 129 a2 g) LX7_128 (kR7_1 hk) KC4 rfl (rm_ok (by decide) (by decide)) (Nat.le_of_ble_eq_true rfl) ⟨Nat.le_refl _, Nat.le_refl _⟩ rfl dX7_minutesFor_38 h (fun u2 H locs hG h => ?_)
    refine lv_isub hx hb dX7_minutesFor_41 ?_
    refine lv_bipush (v := 10) hx hb dX7_minutesFor_42 (by decide) ?_
    refine r_div C dX7_minutesFor_44 h (fun x3 h => ?_)
    refine lv_iconst (v := 1) hx hb dX7_minutesFor_45 (by decide) ?_
    refine lv_iadd hx hb dX7_minutesFor_46 ?_
    exact r_iret C hG hr rfl dX7_minutesFor_47 h
  have h := (if_inv h).2 c1
  by_cases c4 : a1 = 1
  · have h := (if_inv h).1 c4
    refine lv_lookup (off := 47) (tgt := 48) hx hb dX7_minutesFor_1 (by decide +kernel) (by rw [c4]; decide +kernel) (by decide) ?_
    refine lv_aload_n hx hb dX7_minutesFor_48 rfl (lv_at hl 0 rfl) ?_
    refine r_getR (d := 1) C hG FX7_12 hk rfl (by decide) dX7_minutesFor_49 ?_
    refine lv_sipush (v := 130) hx hb dX7_minutesFor_52 (by decide) ?_
    refine lv_iload_n hx hb dX7_minutesFor_55 rfl (lv_at hl 2 rfl) ?_
    refine r_callVI C hl.1 hG [.int 130, .int a2] [] (m4_valueOf E l (o + 1) (kR7_1 hk) 130 a2 g) LX7_128 (kR7_1 hk) KC4 rfl (rm_ok (by decide) (by decide)) (Nat.le_of_ble_eq_true rfl) ⟨Nat.le_refl _, Nat.le_refl _⟩ rfl dX7_minutesFor_56 h (fun u5 H locs hG h => ?_)
    refine r_abs C hl.1 LX7_159 ⟨(Nat.le_of_ble_eq_true rfl), (Nat.le_of_ble_eq_true rfl), Nat.zero_le _, Nat.zero_le _⟩ dX7_minutesFor_59 ?_
    refine r_nm h (fun x6 h => ?_)
    refine lv_iconst (v := 5) hx hb dX7_minutesFor_62 (by decide) ?_
    refine r_div C dX7_minutesFor_63 h (fun x7 h => ?_)
    refine lv_iconst (v := 1) hx hb dX7_minutesFor_64 (by decide) ?_
    refine lv_iadd hx hb dX7_minutesFor_65 ?_
    exact r_iret C hG hr rfl dX7_minutesFor_66 h
  have h := (if_inv h).2 c4
  refine lv_lookup (off := 66) (tgt := 67) hx hb dX7_minutesFor_1 (by decide +kernel) (lk_def _ _ _ (fa_c (nei c1 (by decide)) (fa_c (nei c4 (by decide)) fa_n))) (by decide) ?_
  refine lv_bipush (v := 20) hx hb dX7_minutesFor_67 (by decide) ?_
  exact r_iret C hG hr rfl dX7_minutesFor_69 h
def k7_dropJob (o : Nat) (a1 : Int32) (g : G) : Option (G) :=
  (k3_remove (o + 9) a1 g).bind fun g1 =>
  if a1 = 0 then
    (k4_cover (o + 1) (-1) g1).bind fun g3 =>
    some g3
  else
    some g1
set_option maxRecDepth 100000 in
set_option maxHeartbeats 4000000 in
theorem m7_dropJob (E : EV) (l : Launch) (o : Nat) (hk : kd o = 7) (a1 : Int32) (g : G) : ∀ u, k7_dropJob o a1 g = some u → MV E l yX7_dropJob cX7_dropJob 2 none 1 0 0 [.ref (E.ad o), .int a1] g u := by
  intro u h
  refine MG.of (by decide +kernel) (Nat.le_of_ble_eq_true rfl) ?_
  intro p e s m args below meth c C hr hnm ls hl hG
  have C : Cx p s m args meth c cX7_dropJob 2 RX7 E := C
  have hx := C.1
  have hb := C.2.1
  have hl : lv_has ls 2 [(0, .ref (E.ad o)), (1, .int a1)] := hl
  unfold k7_dropJob at h
  refine lv_aload_n hx hb dX7_dropJob_0 rfl (lv_at hl 0 rfl) ?_
  refine r_getR (d := 9) C hG FX7_21 hk rfl (by decide) dX7_dropJob_1 ?_
  refine lv_iload_n hx hb dX7_dropJob_4 rfl (lv_at hl 1 rfl) ?_
  refine r_callVV C hl.1 hG [.int a1] [] (m3_remove E l (o + 9) (kR7_2 hk) a1 g) LX7_71 (kR7_2 hk) KC3 rfl (rm_ok (by decide) (by decide)) (Nat.le_of_ble_eq_true rfl) ⟨Nat.le_refl _, Nat.le_refl _⟩ rfl dX7_dropJob_5 h (fun g1 H locs hG h => ?_)
  refine lv_iload_n hx hb dX7_dropJob_8 rfl (lv_at hl 1 rfl) ?_
  refine lv_if_ne (tgt := 20) hx hb dX7_dropJob_9 (by decide) (fun c2 => ?_) (fun c2 => ?_)
  · have h := (if_inv h).2 c2
    exact r_vret C hG hr dX7_dropJob_20 h
  · have h := (if_inv h).1 c2
    refine lv_aload_n hx hb dX7_dropJob_12 rfl (lv_at hl 0 rfl) ?_
    refine r_getR (d := 1) C hG FX7_12 hk rfl (by decide) dX7_dropJob_13 ?_
    refine lv_iconst (v := (-1)) hx hb dX7_dropJob_16 (by decide) ?_
    refine r_callVV C hl.1 hG [.int (-1)] [] (m4_cover E l (o + 1) (kR7_1 hk) (-1) g1) LX7_75 (kR7_1 hk) KC4 rfl (rm_ok (by decide) (by decide)) (Nat.le_of_ble_eq_true rfl) ⟨Nat.le_refl _, Nat.le_refl _⟩ rfl dX7_dropJob_17 h (fun g3 H locs hG h => ?_)
    exact r_vret C hG hr dX7_dropJob_20 h
def k7_finish (o : Nat) (a1 : Int32) (a2 : Int32) (g : G) : Option (G) :=
  if a1 = 0 then
    (k4_clean (o + 1) a2 g).bind fun g2 =>
    some g2
  else
  if a1 = 1 then
    (k4_turn (o + 1) a2 0 g).bind fun g4 =>
    some g4
  else
  (k4_replace (o + 1) a2 g).bind fun g5 =>
  some g5
set_option maxRecDepth 100000 in
set_option maxHeartbeats 4000000 in
theorem m7_finish (E : EV) (l : Launch) (o : Nat) (hk : kd o = 7) (a1 : Int32) (a2 : Int32) (g : G) : ∀ u, k7_finish o a1 a2 g = some u → MV E l yX7_finish cX7_finish 3 none 3 0 0 [.ref (E.ad o), .int a1, .int a2] g u := by
  intro u h
  refine MG.of (by decide +kernel) (Nat.le_of_ble_eq_true rfl) ?_
  intro p e s m args below meth c C hr hnm ls hl hG
  have C : Cx p s m args meth c cX7_finish 3 RX7 E := C
  have hx := C.1
  have hb := C.2.1
  have hl : lv_has ls 3 [(0, .ref (E.ad o)), (1, .int a1), (2, .int a2)] := hl
  unfold k7_finish at h
  refine lv_iload_n hx hb dX7_finish_0 rfl (lv_at hl 1 rfl) ?_
  by_cases c1 : a1 = 0
  · have h := (if_inv h).1 c1
    refine lv_lookup (off := 27) (tgt := 28) hx hb dX7_finish_1 (by decide +kernel) (by rw [c1]; decide +kernel) (by decide) ?_
    refine lv_aload_n hx hb dX7_finish_28 rfl (lv_at hl 0 rfl) ?_
    refine r_getR (d := 1) C hG FX7_12 hk rfl (by decide) dX7_finish_29 ?_
    refine lv_iload_n hx hb dX7_finish_32 rfl (lv_at hl 2 rfl) ?_
    refine r_callVV C hl.1 hG [.int a2] [] (m4_clean E l (o + 1) (kR7_1 hk) a2 g) LX7_162 (kR7_1 hk) KC4 rfl (rm_ok (by decide) (by decide)) (Nat.le_of_ble_eq_true rfl) ⟨Nat.le_refl _, Nat.le_refl _⟩ rfl dX7_finish_33 h (fun g2 H locs hG h => ?_)
    refine lv_goto (tgt := 59) hx hb dX7_finish_36 (by decide) ?_
    exact r_vret C hG hr dX7_finish_59 h
  have h := (if_inv h).2 c1
  by_cases c3 : a1 = 1
  · have h := (if_inv h).1 c3
    refine lv_lookup (off := 38) (tgt := 39) hx hb dX7_finish_1 (by decide +kernel) (by rw [c3]; decide +kernel) (by decide) ?_
    refine lv_aload_n hx hb dX7_finish_39 rfl (lv_at hl 0 rfl) ?_
    refine r_getR (d := 1) C hG FX7_12 hk rfl (by decide) dX7_finish_40 ?_
    refine lv_iload_n hx hb dX7_finish_43 rfl (lv_at hl 2 rfl) ?_
    refine lv_iconst (v := 0) hx hb dX7_finish_44 (by decide) ?_
    refine r_callVV C hl.1 hG [.int a2, .int 0] [] (m4_turn E l (o + 1) (kR7_1 hk) a2 0 g) LX7_165 (kR7_1 hk) KC4 rfl (rm_ok (by decide) (by decide)) (Nat.le_of_ble_eq_true rfl) ⟨Nat.le_refl _, Nat.le_refl _⟩ rfl dX7_finish_45 h (fun g4 H locs hG h => ?_)
    refine lv_goto (tgt := 59) hx hb dX7_finish_48 (by decide) ?_
    exact r_vret C hG hr dX7_finish_59 h
  have h := (if_inv h).2 c3
  refine lv_lookup (off := 50) (tgt := 51) hx hb dX7_finish_1 (by decide +kernel) (lk_def _ _ _ (fa_c (nei c1 (by decide)) (fa_c (nei c3 (by decide)) fa_n))) (by decide) ?_
  refine lv_aload_n hx hb dX7_finish_51 rfl (lv_at hl 0 rfl) ?_
  refine r_getR (d := 1) C hG FX7_12 hk rfl (by decide) dX7_finish_52 ?_
  refine lv_iload_n hx hb dX7_finish_55 rfl (lv_at hl 2 rfl) ?_
  refine r_callVV C hl.1 hG [.int a2] [] (m4_replace E l (o + 1) (kR7_1 hk) a2 g) LX7_168 (kR7_1 hk) KC4 rfl (rm_ok (by decide) (by decide)) (Nat.le_of_ble_eq_true rfl) ⟨Nat.le_refl _, Nat.le_refl _⟩ rfl dX7_finish_56 h (fun g5 H locs hG h => ?_)
  exact r_vret C hG hr dX7_finish_59 h
def k7_work_60 (o : Nat) (v1 : Int32) (v2 : Int32) (g : G) : Option (G) :=
      bd (up g (o + 9) 3 ((g (o + 9) 3) - 1)) fun g1 =>
      if (g1 (o + 9) 3) = 0 then
        (k7_dropJob o 0 g1).bind fun g3 =>
        bd (up g3 (o + 9) 4 ((g3 (o + 9) 4) + 1)) fun g4 =>
        (k7_finish o v1 v2 g4).bind fun g5 =>
        some g5
      else
        some g1
def k7_work (o : Nat) (g : G) : Option (G) :=
  if (g (o + 9) 2) = 0 then
    some g
  else
    (k3_kindIn (o + 9) 0 g).bind fun u7 =>
    (k3_mirrorIn (o + 9) 0 g).bind fun u8 =>
    if (g (o + 9) 3) = 0 then
      (k7_minutesFor o u7 u8 g).bind fun u10 =>
      bd (up u10.2 (o + 9) 3 u10.1) fun g11 =>
      (k4_cover (o + 1) u8 g11).bind fun g12 =>
      k7_work_60 o u7 u8 g12
    else
      k7_work_60 o u7 u8 g
set_option maxRecDepth 100000 in
set_option maxHeartbeats 4000000 in
theorem m7_work (E : EV) (l : Launch) (o : Nat) (hk : kd o = 7) (g : G) : ∀ u, k7_work o g = some u → MV E l yX7_work cX7_work 3 none 4 0 0 [.ref (E.ad o)] g u := by
  intro u h
  refine MG.of (by decide +kernel) (Nat.le_of_ble_eq_true rfl) ?_
  intro p e s m args below meth c C hr hnm ls hl hG
  have C : Cx p s m args meth c cX7_work 3 RX7 E := C
  have hx := C.1
  have hb := C.2.1
  have hl : lv_has ls 3 [(0, .ref (E.ad o))] := hl
  unfold k7_work at h
  have j60 : ∀ (v1 : Int32) (v2 : Int32) (g : G) (H : Heap) (locs : List Loc) (ls : Array Slot), Gd E s H locs g [] → lv_has ls 3 [(0, .ref (E.ad o)), (1, .int v1), (2, .int v2)] → k7_work_60 o v1 v2 g = some u → W p l e (rmD 4 0 0) s m args below meth c H locs 0 0 (MQ below (QV E s.heap.size u) args s 0 0 (AA E s.heap.size)) (F0 m 60 ls []) := by
    intro v1 v2 g H locs ls hG hl h
    unfold k7_work_60 at h
    refine lv_aload_n hx hb dX7_work_60 rfl (lv_at hl 0 rfl) ?_
    refine r_getR (d := 9) C hG FX7_21 hk rfl (by decide) dX7_work_61 ?_
    refine lv_dup hx hb dX7_work_64 rfl ?_
    refine r_getI C hG FX7_144 (kR7_2 hk) rfl dX7_work_65 ?_
    refine lv_iconst (v := 1) hx hb dX7_work_68 (by decide) ?_
    refine lv_isub hx hb dX7_work_69 ?_
    refine r_putI C hG FX7_144 (kR7_2 hk) rfl dX7_work_70 h (fun H locs g1 hG h => ?_)
    refine lv_aload_n hx hb dX7_work_73 rfl (lv_at hl 0 rfl) ?_
    refine r_getR (d := 9) C hG FX7_21 hk rfl (by decide) dX7_work_74 ?_
    refine r_getI C hG FX7_144 (kR7_2 hk) rfl dX7_work_77 ?_
    refine lv_if_ne (tgt := 107) hx hb dX7_work_80 (by decide) (fun c2 => ?_) (fun c2 => ?_)
    · have h := (if_inv h).2 c2
      exact r_vret C hG hr dX7_work_107 h
    · have h := (if_inv h).1 c2
      refine lv_aload_n hx hb dX7_work_83 rfl (lv_at hl 0 rfl) ?_
      refine lv_iconst (v := 0) hx hb dX7_work_84 (by decide) ?_
      refine r_callVV C hl.1 hG [.int 0] [] (m7_dropJob E l o hk 0 g1) LX7_150 hk KC7 rfl (rm_ok (by decide) (by decide)) (Nat.le_of_ble_eq_true rfl) ⟨Nat.le_refl _, Nat.le_refl _⟩ rfl dX7_work_85 h (fun g3 H locs hG h => ?_)
      refine lv_aload_n hx hb dX7_work_88 rfl (lv_at hl 0 rfl) ?_
      refine r_getR (d := 9) C hG FX7_21 hk rfl (by decide) dX7_work_89 ?_
      refine lv_dup hx hb dX7_work_92 rfl ?_
      refine r_getI C hG FX7_153 (kR7_2 hk) rfl dX7_work_93 ?_
      refine lv_iconst (v := 1) hx hb dX7_work_96 (by decide) ?_
      refine lv_iadd hx hb dX7_work_97 ?_
      refine r_putI C hG FX7_153 (kR7_2 hk) rfl dX7_work_98 h (fun H locs g4 hG h => ?_)
      refine lv_aload_n hx hb dX7_work_101 rfl (lv_at hl 0 rfl) ?_
      refine lv_iload_n hx hb dX7_work_102 rfl (lv_at hl 1 rfl) ?_
      refine lv_iload_n hx hb dX7_work_103 rfl (lv_at hl 2 rfl) ?_
      refine r_callVV C hl.1 hG [.int v1, .int v2] [] (m7_finish E l o hk v1 v2 g4) LX7_156 hk KC7 rfl (rm_ok (by decide) (by decide)) (Nat.le_of_ble_eq_true rfl) ⟨Nat.le_refl _, Nat.le_refl _⟩ rfl dX7_work_104 h (fun g5 H locs hG h => ?_)
      exact r_vret C hG hr dX7_work_107 h
  refine lv_aload_n hx hb dX7_work_0 rfl (lv_at hl 0 rfl) ?_
  refine r_getR (d := 9) C hG FX7_21 hk rfl (by decide) dX7_work_1 ?_
  refine r_getI C hG FX7_118 (kR7_2 hk) rfl dX7_work_4 ?_
  refine lv_if_ne (tgt := 11) hx hb dX7_work_7 (by decide) (fun c6 => ?_) (fun c6 => ?_)
  · have h := (if_inv h).2 c6
    refine lv_aload_n hx hb dX7_work_11 rfl (lv_at hl 0 rfl) ?_
    refine r_getR (d := 9) C hG FX7_21 hk rfl (by decide) dX7_work_12 ?_
    refine lv_iconst (v := 0) hx hb dX7_work_15 (by decide) ?_
    refine r_callVIP C hl.1 hG [.int 0] [] (m3_kindIn E l (o + 9) (kR7_2 hk) 0 g) LX7_137 (kR7_2 hk) KC3 rfl (rm_ok (by decide) (by decide)) (Nat.le_of_ble_eq_true rfl) ⟨Nat.le_refl _, Nat.le_refl _⟩ rfl dX7_work_16 h (fun u7 H locs hG h => ?_)
    refine lv_istore_n (lv' := [(1, .int u7), (0, .ref (E.ad o))]) hx hb dX7_work_19 rfl hl (by decide) rfl (fun ls hl => ?_)
    refine lv_aload_n hx hb dX7_work_20 rfl (lv_at hl 1 rfl) ?_
    refine r_getR (d := 9) C hG FX7_21 hk rfl (by decide) dX7_work_21 ?_
    refine lv_iconst (v := 0) hx hb dX7_work_24 (by decide) ?_
    refine r_callVIP C hl.1 hG [.int 0] [] (m3_mirrorIn E l (o + 9) (kR7_2 hk) 0 g) LX7_141 (kR7_2 hk) KC3 rfl (rm_ok (by decide) (by decide)) (Nat.le_of_ble_eq_true rfl) ⟨Nat.le_refl _, Nat.le_refl _⟩ rfl dX7_work_25 h (fun u8 H locs hG h => ?_)
    refine lv_istore_n (lv' := [(2, .int u8), (1, .int u7), (0, .ref (E.ad o))]) hx hb dX7_work_28 rfl hl (by decide) rfl (fun ls hl => ?_)
    refine lv_aload_n hx hb dX7_work_29 rfl (lv_at hl 2 rfl) ?_
    refine r_getR (d := 9) C hG FX7_21 hk rfl (by decide) dX7_work_30 ?_
    refine r_getI C hG FX7_144 (kR7_2 hk) rfl dX7_work_33 ?_
    refine lv_if_ne (tgt := 60) hx hb dX7_work_36 (by decide) (fun c9 => ?_) (fun c9 => ?_)
    · have h := (if_inv h).2 c9
      exact j60 u7 u8 g _ _ _ hG (lv_sub hl [2, 1, 0] rfl) h
    · have h := (if_inv h).1 c9
      refine lv_aload_n hx hb dX7_work_39 rfl (lv_at hl 2 rfl) ?_
      refine r_getR (d := 9) C hG FX7_21 hk rfl (by decide) dX7_work_40 ?_
      refine lv_aload_n hx hb dX7_work_43 rfl (lv_at hl 2 rfl) ?_
      refine lv_iload_n hx hb dX7_work_44 rfl (lv_at hl 1 rfl) ?_
      refine lv_iload_n hx hb dX7_work_45 rfl (lv_at hl 0 rfl) ?_
      refine r_callVI C hl.1 hG [.int u7, .int u8] [.ref (E.ad (o + 9))] (m7_minutesFor E l o hk u7 u8 g) LX7_147 hk KC7 rfl (rm_ok (by decide) (by decide)) (Nat.le_of_ble_eq_true rfl) ⟨Nat.le_refl _, Nat.le_refl _⟩ rfl dX7_work_46 h (fun u10 H locs hG h => ?_)
      refine r_putI C hG FX7_144 (kR7_2 hk) rfl dX7_work_49 h (fun H locs g11 hG h => ?_)
      refine lv_aload_n hx hb dX7_work_52 rfl (lv_at hl 2 rfl) ?_
      refine r_getR (d := 1) C hG FX7_12 hk rfl (by decide) dX7_work_53 ?_
      refine lv_iload_n hx hb dX7_work_56 rfl (lv_at hl 0 rfl) ?_
      refine r_callVV C hl.1 hG [.int u8] [] (m4_cover E l (o + 1) (kR7_1 hk) u8 g11) LX7_75 (kR7_1 hk) KC4 rfl (rm_ok (by decide) (by decide)) (Nat.le_of_ble_eq_true rfl) ⟨Nat.le_refl _, Nat.le_refl _⟩ rfl dX7_work_57 h (fun g12 H locs hG h => ?_)
      exact j60 u7 u8 g12 _ _ _ hG (lv_sub hl [2, 1, 0] rfl) h
  · have h := (if_inv h).1 c6
    exact r_vret C hG hr dX7_work_10 h
def k7_pass_60 (o : Nat) (K2 : Int32 → Int32 → G → Option (G)) (v1 : Int32) (v2 : Int32) (g : G) : Option (G) :=
      (k7_work o g).bind fun g1 =>
      bd (up g1 o 5 ((g1 o 5) + 1)) fun g2 =>
      bd (v2 + 1) fun x3 =>
      K2 v1 x3 g2
def k7_pass_14 (o : Nat) (K2 : Int32 → Int32 → G → Option (G)) : Nat → Int32 → Int32 → Int32 → G → Option (G)
  | 0, _, _, _, _ => none
  | f + 1, v1, v2, v3, g =>
        if (g 16 8) ≤ v3 then
          k7_pass_60 o K2 v1 v2 g
        else
          if 400 ≤ v3 then
            k7_pass_60 o K2 v1 v2 g
          else
            ld g 19 400 v3 fun x6 =>
            ld g 20 400 v3 fun x7 =>
            (k7_follow o x6 x7 g).bind fun g8 =>
            bd (v3 + 1) fun x9 =>
            k7_pass_14 o K2 f v1 v2 x9 g8
def k7_pass_2 (o : Nat) : Nat → Int32 → Int32 → G → Option (G)
  | 0, _, _, _ => none
  | f + 1, v1, v2, g =>
        if v1 ≤ v2 then
          some g
        else
          bd (up g o 4 0) fun g11 =>
          k7_pass_14 o (k7_pass_2 o f) FU v1 v2 0 g11
def k7_pass (o : Nat) (a1 : Int32) (g : G) : Option (G) :=
  k7_pass_2 o FU a1 0 g
set_option maxRecDepth 100000 in
set_option maxHeartbeats 4000000 in
theorem m7_pass (E : EV) (l : Launch) (o : Nat) (hk : kd o = 7) (a1 : Int32) (g : G) : ∀ u, k7_pass o a1 g = some u → MV E l yX7_pass cX7_pass 4 none 6 0 0 [.ref (E.ad o), .int a1] g u := by
  intro u h
  refine MG.of (by decide +kernel) (Nat.le_of_ble_eq_true rfl) ?_
  intro p e s m args below meth c C hr hnm ls hl hG
  have C : Cx p s m args meth c cX7_pass 4 RX7 E := C
  have hx := C.1
  have hb := C.2.1
  have hl : lv_has ls 4 [(0, .ref (E.ad o)), (1, .int a1)] := hl
  unfold k7_pass at h
  have j60 : ∀ (K2 : Int32 → Int32 → G → Option (G)), (∀ (v1 : Int32) (v2 : Int32) (g : G) (H : Heap) (locs : List Loc) (ls : Array Slot), Gd E s H locs g [] → lv_has ls 4 [(0, .ref (E.ad o)), (1, .int v1), (2, .int v2)] → K2 v1 v2 g = some u → W p l e (rmD 6 0 0) s m args below meth c H locs 0 0 (MQ below (QV E s.heap.size u) args s 0 0 (AA E s.heap.size)) (F0 m 2 ls [])) → ∀ (v1 : Int32) (v2 : Int32) (g : G) (H : Heap) (locs : List Loc) (ls : Array Slot), Gd E s H locs g [] → lv_has ls 4 [(0, .ref (E.ad o)), (1, .int v1), (2, .int v2)] → k7_pass_60 o K2 v1 v2 g = some u → W p l e (rmD 6 0 0) s m args below meth c H locs 0 0 (MQ below (QV E s.heap.size u) args s 0 0 (AA E s.heap.size)) (F0 m 60 ls []) := by
    intro K2 hK2 v1 v2 g H locs ls hG hl h
    unfold k7_pass_60 at h
    refine lv_aload_n hx hb dX7_pass_60 rfl (lv_at hl 0 rfl) ?_
    refine r_callVV C hl.1 hG [] [] (m7_work E l o hk g) LX7_68 hk KC7 rfl (rm_ok (by decide) (by decide)) (Nat.le_of_ble_eq_true rfl) ⟨Nat.le_refl _, Nat.le_refl _⟩ rfl dX7_pass_61 h (fun g1 H locs hG h => ?_)
    refine lv_aload_n hx hb dX7_pass_64 rfl (lv_at hl 0 rfl) ?_
    refine lv_dup hx hb dX7_pass_65 rfl ?_
    refine r_getI C hG FX7_39 hk rfl dX7_pass_66 ?_
    refine lv_iconst (v := 1) hx hb dX7_pass_69 (by decide) ?_
    refine lv_iadd hx hb dX7_pass_70 ?_
    refine r_putI C hG FX7_39 hk rfl dX7_pass_71 h (fun H locs g2 hG h => ?_)
    refine r_iinc (w := 1) (lv' := fun x3 => [(2, .int x3), (0, .ref (E.ad o)), (1, .int v1)]) C dX7_pass_74 hl (k := 2) rfl (by decide) (by decide) (fun _ => rfl) h (fun x3 ls hl h => ?_)
    refine lv_goto (tgt := 2) hx hb dX7_pass_77 (by decide) ?_
    exact hK2 v1 x3 g2 _ _ _ hG (lv_sub hl [1, 2, 0] rfl) h
  have j14 : ∀ (K2 : Int32 → Int32 → G → Option (G)), (∀ (v1 : Int32) (v2 : Int32) (g : G) (H : Heap) (locs : List Loc) (ls : Array Slot), Gd E s H locs g [] → lv_has ls 4 [(0, .ref (E.ad o)), (1, .int v1), (2, .int v2)] → K2 v1 v2 g = some u → W p l e (rmD 6 0 0) s m args below meth c H locs 0 0 (MQ below (QV E s.heap.size u) args s 0 0 (AA E s.heap.size)) (F0 m 2 ls [])) → ∀ f : Nat, ∀ (v1 : Int32) (v2 : Int32) (v3 : Int32) (g : G) (H : Heap) (locs : List Loc) (ls : Array Slot), Gd E s H locs g [] → lv_has ls 4 [(0, .ref (E.ad o)), (1, .int v1), (2, .int v2), (3, .int v3)] → k7_pass_14 o K2 f v1 v2 v3 g = some u → W p l e (rmD 6 0 0) s m args below meth c H locs 0 0 (MQ below (QV E s.heap.size u) args s 0 0 (AA E s.heap.size)) (F0 m 14 ls []) := by
    intro K2 hK2 f
    induction f with
    | zero =>
      intro v1 v2 v3 g H locs ls hG hl h
      unfold k7_pass_14 at h
      cases h
    | succ f ih =>
      intro v1 v2 v3 g H locs ls hG hl h
      unfold k7_pass_14 at h
      refine lv_iload_n hx hb dX7_pass_14 rfl (lv_at hl 3 rfl) ?_
      refine lv_aload_n hx hb dX7_pass_15 rfl (lv_at hl 0 rfl) ?_
      refine r_getA (j := 16) C hG FX7_29 hk rfl dX7_pass_16 ?_
      refine r_getI C hG FX7_53 rfl rfl dX7_pass_19 ?_
      refine lv_icmp_ge (tgt := 60) hx hb dX7_pass_22 (by decide) (fun c4 => ?_) (fun c4 => ?_)
      · have h := (if_inv h).1 c4
        exact j60 K2 hK2 v1 v2 g _ _ _ hG (lv_sub hl [0, 1, 2] rfl) h
      · have h := (if_inv h).2 c4
        refine lv_iload_n hx hb dX7_pass_25 rfl (lv_at hl 3 rfl) ?_
        refine lv_sipush (v := 400) hx hb dX7_pass_26 (by decide) ?_
        refine lv_icmp_ge (tgt := 60) hx hb dX7_pass_29 (by decide) (fun c5 => ?_) (fun c5 => ?_)
        · have h := (if_inv h).1 c5
          exact j60 K2 hK2 v1 v2 g _ _ _ hG (lv_sub hl [0, 1, 2] rfl) h
        · have h := (if_inv h).2 c5
          refine lv_aload_n hx hb dX7_pass_32 rfl (lv_at hl 0 rfl) ?_
          refine lv_aload_n hx hb dX7_pass_33 rfl (lv_at hl 0 rfl) ?_
          refine r_getA (j := 16) C hG FX7_29 hk rfl dX7_pass_34 ?_
          refine r_getR (d := 3) C hG FX7_58 rfl rfl (by decide) dX7_pass_37 ?_
          refine lv_iload_n hx hb dX7_pass_40 rfl (lv_at hl 3 rfl) ?_
          refine r_ild C hG (N := 400) rfl (by decide) dX7_pass_41 h (fun x6 h => ?_)
          refine lv_aload_n hx hb dX7_pass_42 rfl (lv_at hl 0 rfl) ?_
          refine r_getA (j := 16) C hG FX7_29 hk rfl dX7_pass_43 ?_
          refine r_getR (d := 4) C hG FX7_61 rfl rfl (by decide) dX7_pass_46 ?_
          refine lv_iload_n hx hb dX7_pass_49 rfl (lv_at hl 3 rfl) ?_
          refine r_ild C hG (N := 400) rfl (by decide) dX7_pass_50 h (fun x7 h => ?_)
          refine r_callVV C hl.1 hG [.int x6, .int x7] [] (m7_follow E l o hk x6 x7 g) LX7_64 hk KC7 rfl (rm_ok (by decide) (by decide)) (Nat.le_of_ble_eq_true rfl) ⟨Nat.le_refl _, Nat.le_refl _⟩ rfl dX7_pass_51 h (fun g8 H locs hG h => ?_)
          refine r_iinc (w := 1) (lv' := fun x9 => [(3, .int x9), (0, .ref (E.ad o)), (1, .int v1), (2, .int v2)]) C dX7_pass_54 hl (k := 3) rfl (by decide) (by decide) (fun _ => rfl) h (fun x9 ls hl h => ?_)
          refine lv_goto (tgt := 14) hx hb dX7_pass_57 (by decide) ?_
          exact ih v1 v2 x9 g8 _ _ _ hG (lv_sub hl [1, 2, 3, 0] rfl) h
  have j2 : ∀ f : Nat, ∀ (v1 : Int32) (v2 : Int32) (g : G) (H : Heap) (locs : List Loc) (ls : Array Slot), Gd E s H locs g [] → lv_has ls 4 [(0, .ref (E.ad o)), (1, .int v1), (2, .int v2)] → k7_pass_2 o f v1 v2 g = some u → W p l e (rmD 6 0 0) s m args below meth c H locs 0 0 (MQ below (QV E s.heap.size u) args s 0 0 (AA E s.heap.size)) (F0 m 2 ls []) := by
    intro f
    induction f with
    | zero =>
      intro v1 v2 g H locs ls hG hl h
      unfold k7_pass_2 at h
      cases h
    | succ f ih =>
      intro v1 v2 g H locs ls hG hl h
      unfold k7_pass_2 at h
      refine lv_iload_n hx hb dX7_pass_2 rfl (lv_at hl 2 rfl) ?_
      refine lv_iload_n hx hb dX7_pass_3 rfl (lv_at hl 1 rfl) ?_
      refine lv_icmp_ge (tgt := 80) hx hb dX7_pass_4 (by decide) (fun c10 => ?_) (fun c10 => ?_)
      · have h := (if_inv h).1 c10
        exact r_vret C hG hr dX7_pass_80 h
      · have h := (if_inv h).2 c10
        refine lv_aload_n hx hb dX7_pass_7 rfl (lv_at hl 0 rfl) ?_
        refine lv_iconst (v := 0) hx hb dX7_pass_8 (by decide) ?_
        refine r_putI C hG FX7_50 hk rfl dX7_pass_9 h (fun H locs g11 hG h => ?_)
        refine lv_iconst (v := 0) hx hb dX7_pass_12 (by decide) ?_
        refine lv_istore_n (lv' := [(3, .int 0), (0, .ref (E.ad o)), (1, .int v1), (2, .int v2)]) hx hb dX7_pass_13 rfl hl (by decide) rfl (fun ls hl => ?_)
        exact j14 (k7_pass_2 o f) ih FU v1 v2 0 g11 _ _ _ hG (lv_sub hl [1, 2, 3, 0] rfl) h
  refine lv_iconst (v := 0) hx hb dX7_pass_0 (by decide) ?_
  refine lv_istore_n (lv' := [(2, .int 0), (0, .ref (E.ad o)), (1, .int a1)]) hx hb dX7_pass_1 rfl hl (by decide) rfl (fun ls hl => ?_)
  exact j2 FU a1 0 g _ _ _ hG (lv_sub hl [1, 2, 0] rfl) h
