def k11_isWide  (a1 : Int32) (g : G) : Option (Int32) :=
  (k11_isIn a1 (-(g 54 1)) (g 54 1) g).bind fun u1 =>
  zrP u1
set_option maxRecDepth 100000 in
set_option maxHeartbeats 4000000 in
theorem m11_isWide (E : EV) (l : Launch) (a1 : Int32) (g : G) : ∀ u, k11_isWide a1 g = some u → MI E l yX11_isWide cX11_isWide 2 (some .boolean) 1 0 0 [.ref (E.ad 47), .int a1] g (u, g) := by
  intro u h
  refine MG.of (by decide +kernel) (Nat.le_of_ble_eq_true rfl) ?_
  intro p e s m args below meth c C hr hnm ls hl hG
  have C : Cx p s m args meth c cX11_isWide 2 RX11 E := C
  have hx := C.1
  have hb := C.2.1
  have hl : lv_has ls 2 [(0, .ref (E.ad 47)), (1, .int a1)] := hl
  unfold k11_isWide at h
  refine lv_iload_n hx hb dX11_isWide_0 rfl (lv_at hl 1 rfl) ?_
  refine lv_aload_n hx hb dX11_isWide_1 rfl (lv_at hl 0 rfl) ?_
  refine r_getA (j := 54) C hG FX11_35 rfl rfl dX11_isWide_2 ?_
  refine r_getI C hG FX11_250 rfl rfl dX11_isWide_5 ?_
  refine lv_ineg hx hb dX11_isWide_8 ?_
  refine lv_aload_n hx hb dX11_isWide_9 rfl (lv_at hl 0 rfl) ?_
  refine r_getA (j := 54) C hG FX11_35 rfl rfl dX11_isWide_10 ?_
  refine r_getI C hG FX11_250 rfl rfl dX11_isWide_13 ?_
  refine r_callSIP C hl.1 hG [.int a1, .int (-(g 54 1)), .int (g 54 1)] [] (m11_isIn E l a1 (-(g 54 1)) (g 54 1) g) LX11_67 rfl (rm_ok (by decide) (by decide)) (Nat.le_of_ble_eq_true rfl) ⟨Nat.le_refl _, Nat.le_refl _⟩ rfl dX11_isWide_16 h (fun u1 H locs hG h => ?_)
  exact r_zretP C hG hr dX11_isWide_19 h
def k11_shine_71 (o1 : Nat) (K9 : Int32 → Int32 → Int32 → G → Option (G)) (v3 : Int32) (v4 : Int32) (v5 : Int32) (t0 : Int32) (g : G) : Option (G) :=
      sto g 94 10 v5 t0 fun g1 =>
      ld g1 (o1 + 3) 10 v5 fun x2 =>
      bd (v3 + (2 * x2)) fun x3 =>
      sto g1 95 10 v5 x3 fun g4 =>
      bd (v4 + 1) fun x5 =>
      K9 t0 x3 x5 g4
def k11_shine_9 (o1 : Nat) : Nat → Int32 → Int32 → Int32 → G → Option (G)
  | 0, _, _, _, _ => none
  | f + 1, v2, v3, v4, g =>
        if (g 54 0) ≤ v4 then
          bd (up g 47 22 v2) fun g7 =>
          bd (up g7 47 23 v3) fun g8 =>
          some g8
        else
          ld g (o1 + 4) 10 v4 fun x9 =>
          sto g 93 10 x9 v2 fun g10 =>
          (k11_isWide v3 g10).bind fun u11 =>
          if u11 = 0 then
            k11_shine_71 o1 (k11_shine_9 o1 f) v3 v4 x9 0 g10
          else
            (k9_isCovered o1 x9 g10).bind fun u13 =>
            if u13 = 0 then
              ld g10 (o1 + 1) 10 x9 fun x15 =>
              dv (v2 * x15) 100 fun x16 =>
              k11_shine_71 o1 (k11_shine_9 o1 f) v3 v4 x9 x16 g10
            else
              k11_shine_71 o1 (k11_shine_9 o1 f) v3 v4 x9 0 g10
def k11_shine (o1 : Nat) (g : G) : Option (G) :=
  k11_shine_9 o1 FU 10000 0 0 g
set_option maxRecDepth 100000 in
set_option maxHeartbeats 4000000 in
theorem m11_shine (E : EV) (l : Launch) (o1 : Nat) (hk1 : kd o1 = 9) (g : G) : ∀ u, k11_shine o1 g = some u → MV E l yX11_shine cX11_shine 6 none 2 0 0 [.ref (E.ad 47), .ref (E.ad o1)] g u := by
  intro u h
  refine MG.of (by decide +kernel) (Nat.le_of_ble_eq_true rfl) ?_
  intro p e s m args below meth c C hr hnm ls hl hG
  have C : Cx p s m args meth c cX11_shine 6 RX11 E := C
  have hx := C.1
  have hb := C.2.1
  have hl : lv_has ls 6 [(0, .ref (E.ad 47)), (1, .ref (E.ad o1))] := hl
  unfold k11_shine at h
  have j71 : ∀ (K9 : Int32 → Int32 → Int32 → G → Option (G)), (∀ (v2 : Int32) (v3 : Int32) (v4 : Int32) (g : G) (H : Heap) (locs : List Loc) (ls : Array Slot), Gd E s H locs g [] → lv_has ls 6 [(0, .ref (E.ad 47)), (1, .ref (E.ad o1)), (2, .int v2), (3, .int v3), (4, .int v4)] → K9 v2 v3 v4 g = some u → W p l e (rmD 2 0 0) s m args below meth c H locs 0 0 (MQ below (QV E s.heap.size u) args s 0 0 (AA E s.heap.size)) (F0 m 9 ls [])) → ∀ (v3 : Int32) (v4 : Int32) (v5 : Int32) (t0 : Int32) (g : G) (H : Heap) (locs : List Loc) (ls : Array Slot), Gd E s H locs g [] → lv_has ls 6 [(0, .ref (E.ad 47)), (1, .ref (E.ad o1)), (3, .int v3), (4, .int v4), (5, .int v5)] → k11_shine_71 o1 K9 v3 v4 v5 t0 g = some u → W p l e (rmD 2 0 0) s m args below meth c H locs 0 0 (MQ below (QV E s.heap.size u) args s 0 0 (AA E s.heap.size)) (F0 m 71 ls [.int t0]) := by
    intro K9 hK9 v3 v4 v5 t0 g H locs ls hG hl h
    unfold k11_shine_71 at h
    refine lv_istore_n (lv' := [(2, .int t0), (0, .ref (E.ad 47)), (1, .ref (E.ad o1)), (3, .int v3), (4, .int v4), (5, .int v5)]) hx hb dX11_shine_71 rfl hl (by decide) rfl (fun ls hl => ?_)
    refine lv_aload_n hx hb dX11_shine_72 rfl (lv_at hl 1 rfl) ?_
    refine r_getA (j := 94) C hG FX11_58 rfl rfl dX11_shine_73 ?_
    refine lv_iload hx hb dX11_shine_76 (lv_at hl 5 rfl) ?_
    refine lv_iload_n hx hb dX11_shine_78 rfl (lv_at hl 0 rfl) ?_
    refine r_ist C hG (N := 10) rfl (by decide) dX11_shine_79 h (fun H locs g1 hG h => ?_)
    refine lv_iload_n hx hb dX11_shine_80 rfl (lv_at hl 3 rfl) ?_
    refine lv_iconst (v := 2) hx hb dX11_shine_81 (by decide) ?_
    refine lv_aload_n hx hb dX11_shine_82 rfl (lv_at hl 2 rfl) ?_
    refine r_getR (d := 3) C hG FX11_293 hk1 rfl (by decide) dX11_shine_83 ?_
    refine lv_iload hx hb dX11_shine_86 (lv_at hl 5 rfl) ?_
    refine r_ild C hG (N := 10) (kR9_2 hk1) (by decide) dX11_shine_88 h (fun x2 h => ?_)
    refine lv_imul hx hb dX11_shine_89 ?_
    refine lv_iadd hx hb dX11_shine_90 ?_
    refine r_nm h (fun x3 h => ?_)
    refine lv_istore_n (lv' := [(3, .int x3), (2, .int t0), (0, .ref (E.ad 47)), (1, .ref (E.ad o1)), (4, .int v4), (5, .int v5)]) hx hb dX11_shine_91 rfl hl (by decide) rfl (fun ls hl => ?_)
    refine lv_aload_n hx hb dX11_shine_92 rfl (lv_at hl 2 rfl) ?_
    refine r_getA (j := 95) C hG FX11_61 rfl rfl dX11_shine_93 ?_
    refine lv_iload hx hb dX11_shine_96 (lv_at hl 5 rfl) ?_
    refine lv_iload_n hx hb dX11_shine_98 rfl (lv_at hl 0 rfl) ?_
    refine r_ist C hG (N := 10) rfl (by decide) dX11_shine_99 h (fun H locs g4 hG h => ?_)
    refine r_iinc (w := 1) (lv' := fun x5 => [(4, .int x5), (3, .int x3), (2, .int t0), (0, .ref (E.ad 47)), (1, .ref (E.ad o1)), (5, .int v5)]) C dX11_shine_100 hl (k := 4) rfl (by decide) (by decide) (fun _ => rfl) h (fun x5 ls hl h => ?_)
    refine lv_goto (tgt := 9) hx hb dX11_shine_103 (by decide) ?_
    exact hK9 t0 x3 x5 g4 _ _ _ hG (lv_sub hl [3, 4, 2, 1, 0] rfl) h
  have j9 : ∀ f : Nat, ∀ (v2 : Int32) (v3 : Int32) (v4 : Int32) (g : G) (H : Heap) (locs : List Loc) (ls : Array Slot), Gd E s H locs g [] → lv_has ls 6 [(0, .ref (E.ad 47)), (1, .ref (E.ad o1)), (2, .int v2), (3, .int v3), (4, .int v4)] → k11_shine_9 o1 f v2 v3 v4 g = some u → W p l e (rmD 2 0 0) s m args below meth c H locs 0 0 (MQ below (QV E s.heap.size u) args s 0 0 (AA E s.heap.size)) (F0 m 9 ls []) := by
    intro f
    induction f with
    | zero =>
      intro v2 v3 v4 g H locs ls hG hl h
      unfold k11_shine_9 at h
      cases h
    | succ f ih =>
      intro v2 v3 v4 g H locs ls hG hl h
      unfold k11_shine_9 at h
      refine lv_iload hx hb dX11_shine_9 (lv_at hl 4 rfl) ?_
      refine lv_aload_n hx hb dX11_shine_11 rfl (lv_at hl 0 rfl) ?_
      refine r_getA (j := 54) C hG FX11_35 rfl rfl dX11_shine_12 ?_
      refine r_getI C hG FX11_149 rfl rfl dX11_shine_15 ?_
      refine lv_icmp_ge (tgt := 106) hx hb dX11_shine_18 (by decide) (fun c6 => ?_) (fun c6 => ?_)
      · have h := (if_inv h).1 c6
        refine lv_aload_n hx hb dX11_shine_106 rfl (lv_at hl 0 rfl) ?_
        refine lv_iload_n hx hb dX11_shine_107 rfl (lv_at hl 2 rfl) ?_
        refine r_putI C hG FX11_294 rfl rfl dX11_shine_108 h (fun H locs g7 hG h => ?_)
        refine lv_aload_n hx hb dX11_shine_111 rfl (lv_at hl 0 rfl) ?_
        refine lv_iload_n hx hb dX11_shine_112 rfl (lv_at hl 3 rfl) ?_
        refine r_putI C hG FX11_297 rfl rfl dX11_shine_113 h (fun H locs g8 hG h => ?_)
        exact r_vret C hG hr dX11_shine_116 h
      · have h := (if_inv h).2 c6
        refine lv_aload_n hx hb dX11_shine_21 rfl (lv_at hl 1 rfl) ?_
        refine r_getR (d := 4) C hG FX11_283 hk1 rfl (by decide) dX11_shine_22 ?_
        refine lv_iload hx hb dX11_shine_25 (lv_at hl 4 rfl) ?_
        refine r_ild C hG (N := 10) (kR9_3 hk1) (by decide) dX11_shine_27 h (fun x9 h => ?_)
        refine lv_istore (lv' := [(5, .int x9), (0, .ref (E.ad 47)), (1, .ref (E.ad o1)), (2, .int v2), (3, .int v3), (4, .int v4)]) hx hb dX11_shine_28 hl (by decide) rfl (fun ls hl => ?_)
        refine lv_aload_n hx hb dX11_shine_30 rfl (lv_at hl 1 rfl) ?_
        refine r_getA (j := 93) C hG FX11_55 rfl rfl dX11_shine_31 ?_
        refine lv_iload hx hb dX11_shine_34 (lv_at hl 0 rfl) ?_
        refine lv_iload_n hx hb dX11_shine_36 rfl (lv_at hl 3 rfl) ?_
        refine r_ist C hG (N := 10) rfl (by decide) dX11_shine_37 h (fun H locs g10 hG h => ?_)
        refine lv_aload_n hx hb dX11_shine_38 rfl (lv_at hl 1 rfl) ?_
        refine lv_iload_n hx hb dX11_shine_39 rfl (lv_at hl 4 rfl) ?_
        refine r_callVIP C hl.1 hG [.int v3] [] (m11_isWide E l v3 g10) LX11_286 rfl KC11 rfl (rm_ok (by decide) (by decide)) (Nat.le_of_ble_eq_true rfl) ⟨Nat.le_refl _, Nat.le_refl _⟩ rfl dX11_shine_40 h (fun u11 H locs hG h => ?_)
        refine lv_if_eq (tgt := 55) hx hb dX11_shine_43 (by decide) (fun c12 => ?_) (fun c12 => ?_)
        · have h := (if_inv h).1 c12
          refine lv_iconst (v := 0) hx hb dX11_shine_55 (by decide) ?_
          refine lv_goto (tgt := 71) hx hb dX11_shine_56 (by decide) ?_
          exact j71 (k11_shine_9 o1 f) ih v3 v4 x9 0 g10 _ _ _ hG (lv_sub hl [1, 2, 4, 5, 0] rfl) h
        · have h := (if_inv h).2 c12
          refine lv_aload_n hx hb dX11_shine_46 rfl (lv_at hl 2 rfl) ?_
          refine lv_iload hx hb dX11_shine_47 (lv_at hl 0 rfl) ?_
          refine r_callVIP C hl.1 hG [.int x9] [] (m9_isCovered E l o1 hk1 x9 g10) LX11_289 hk1 KC9 rfl (rm_ok (by decide) (by decide)) (Nat.le_of_ble_eq_true rfl) ⟨Nat.le_refl _, Nat.le_refl _⟩ rfl dX11_shine_49 h (fun u13 H locs hG h => ?_)
          refine lv_if_eq (tgt := 59) hx hb dX11_shine_52 (by decide) (fun c14 => ?_) (fun c14 => ?_)
          · have h := (if_inv h).1 c14
            refine lv_iload_n hx hb dX11_shine_59 rfl (lv_at hl 3 rfl) ?_
            refine lv_aload_n hx hb dX11_shine_60 rfl (lv_at hl 2 rfl) ?_
            refine r_getR (d := 1) C hG FX11_292 hk1 rfl (by decide) dX11_shine_61 ?_
            refine lv_iload hx hb dX11_shine_64 (lv_at hl 0 rfl) ?_
            refine r_ild C hG (N := 10) (kR9_0 hk1) (by decide) dX11_shine_66 h (fun x15 h => ?_)
            refine lv_imul hx hb dX11_shine_67 ?_
            refine lv_bipush (v := 100) hx hb dX11_shine_68 (by decide) ?_
            refine r_div C dX11_shine_70 h (fun x16 h => ?_)
            exact j71 (k11_shine_9 o1 f) ih v3 v4 x9 x16 g10 _ _ _ hG (lv_sub hl [1, 2, 4, 5, 0] rfl) h
          · have h := (if_inv h).2 c14
            refine lv_iconst (v := 0) hx hb dX11_shine_55 (by decide) ?_
            refine lv_goto (tgt := 71) hx hb dX11_shine_56 (by decide) ?_
            exact j71 (k11_shine_9 o1 f) ih v3 v4 x9 0 g10 _ _ _ hG (lv_sub hl [1, 2, 4, 5, 0] rfl) h
  refine lv_sipush (v := 10000) hx hb dX11_shine_0 (by decide) ?_
  refine lv_istore_n (lv' := [(2, .int 10000), (0, .ref (E.ad 47)), (1, .ref (E.ad o1))]) hx hb dX11_shine_3 rfl hl (by decide) rfl (fun ls hl => ?_)
  refine lv_iconst (v := 0) hx hb dX11_shine_4 (by decide) ?_
  refine lv_istore_n (lv' := [(3, .int 0), (2, .int 10000), (0, .ref (E.ad 47)), (1, .ref (E.ad o1))]) hx hb dX11_shine_5 rfl hl (by decide) rfl (fun ls hl => ?_)
  refine lv_iconst (v := 0) hx hb dX11_shine_6 (by decide) ?_
  refine lv_istore (lv' := [(4, .int 0), (3, .int 0), (2, .int 10000), (0, .ref (E.ad 47)), (1, .ref (E.ad o1))]) hx hb dX11_shine_7 hl (by decide) rfl (fun ls hl => ?_)
  exact j9 FU 10000 0 0 g _ _ _ hG (lv_sub hl [3, 4, 2, 1, 0] rfl) h
def k11_light (o1 : Nat) (g : G) : Option (Int32 × G) :=
  (k11_shine o1 g).bind fun g1 =>
  some ((g1 47 22), g1)
set_option maxRecDepth 100000 in
set_option maxHeartbeats 4000000 in
theorem m11_light (E : EV) (l : Launch) (o1 : Nat) (hk1 : kd o1 = 9) (g : G) : ∀ u, k11_light o1 g = some u → MI E l yX11_light cX11_light 2 (some .int) 3 0 0 [.ref (E.ad 47), .ref (E.ad o1)] g u := by
  intro u h
  refine MG.of (by decide +kernel) (Nat.le_of_ble_eq_true rfl) ?_
  intro p e s m args below meth c C hr hnm ls hl hG
  have C : Cx p s m args meth c cX11_light 2 RX11 E := C
  have hx := C.1
  have hb := C.2.1
  have hl : lv_has ls 2 [(0, .ref (E.ad 47)), (1, .ref (E.ad o1))] := hl
  unfold k11_light at h
  refine lv_aload_n hx hb dX11_light_0 rfl (lv_at hl 0 rfl) ?_
  refine lv_aload_n hx hb dX11_light_1 rfl (lv_at hl 1 rfl) ?_
  refine r_callVV C hl.1 hG [.ref (E.ad o1)] [] (m11_shine E l o1 hk1 g) LX11_300 rfl KC11 rfl (rm_ok (by decide) (by decide)) (Nat.le_of_ble_eq_true rfl) ⟨Nat.le_refl _, Nat.le_refl _⟩ rfl dX11_light_2 h (fun g1 H locs hG h => ?_)
  refine lv_aload_n hx hb dX11_light_5 rfl (lv_at hl 0 rfl) ?_
  refine r_getI C hG FX11_294 rfl rfl dX11_light_6 ?_
  exact r_iret C hG hr rfl dX11_light_9 h
def k11_seen (o1 : Nat) (g : G) : Option (Int32 × G) :=
  (k11_light o1 g).bind fun u1 =>
  if u1.1 < (u1.2 54 2) then
    some (0, u1.2)
  else
    (k11_isWide (u1.2 47 23) u1.2).bind fun u3 =>
    if u3 = 0 then
      some (0, u1.2)
    else
      some (1, u1.2)
set_option maxRecDepth 100000 in
set_option maxHeartbeats 4000000 in
theorem m11_seen (E : EV) (l : Launch) (o1 : Nat) (hk1 : kd o1 = 9) (g : G) : ∀ u, k11_seen o1 g = some u → MI E l yX11_seen cX11_seen 2 (some .boolean) 4 0 0 [.ref (E.ad 47), .ref (E.ad o1)] g u := by
  intro u h
  refine MG.of (by decide +kernel) (Nat.le_of_ble_eq_true rfl) ?_
  intro p e s m args below meth c C hr hnm ls hl hG
  have C : Cx p s m args meth c cX11_seen 2 RX11 E := C
  have hx := C.1
  have hb := C.2.1
  have hl : lv_has ls 2 [(0, .ref (E.ad 47)), (1, .ref (E.ad o1))] := hl
  unfold k11_seen at h
  refine lv_aload_n hx hb dX11_seen_0 rfl (lv_at hl 0 rfl) ?_
  refine lv_aload_n hx hb dX11_seen_1 rfl (lv_at hl 1 rfl) ?_
  refine r_callVI C hl.1 hG [.ref (E.ad o1)] [] (m11_light E l o1 hk1 g) LX11_304 rfl KC11 rfl (rm_ok (by decide) (by decide)) (Nat.le_of_ble_eq_true rfl) ⟨Nat.le_refl _, Nat.le_refl _⟩ rfl dX11_seen_2 h (fun u1 H locs hG h => ?_)
  refine lv_aload_n hx hb dX11_seen_5 rfl (lv_at hl 0 rfl) ?_
  refine r_getA (j := 54) C hG FX11_35 rfl rfl dX11_seen_6 ?_
  refine r_getI C hG FX11_253 rfl rfl dX11_seen_9 ?_
  refine lv_icmp_lt (tgt := 30) hx hb dX11_seen_12 (by decide) (fun c2 => ?_) (fun c2 => ?_)
  · have h := (if_inv h).1 c2
    refine lv_iconst (v := 0) hx hb dX11_seen_30 (by decide) ?_
    exact r_iret C hG hr rfl dX11_seen_31 h
  · have h := (if_inv h).2 c2
    refine lv_aload_n hx hb dX11_seen_15 rfl (lv_at hl 0 rfl) ?_
    refine lv_aload_n hx hb dX11_seen_16 rfl (lv_at hl 0 rfl) ?_
    refine r_getI C hG FX11_297 rfl rfl dX11_seen_17 ?_
    refine r_callVIP C hl.1 hG [.int (u1.2 47 23)] [] (m11_isWide E l (u1.2 47 23) u1.2) LX11_286 rfl KC11 rfl (rm_ok (by decide) (by decide)) (Nat.le_of_ble_eq_true rfl) ⟨Nat.le_refl _, Nat.le_refl _⟩ rfl dX11_seen_20 h (fun u3 H locs hG h => ?_)
    refine lv_if_eq (tgt := 30) hx hb dX11_seen_23 (by decide) (fun c4 => ?_) (fun c4 => ?_)
    · have h := (if_inv h).1 c4
      refine lv_iconst (v := 0) hx hb dX11_seen_30 (by decide) ?_
      exact r_iret C hG hr rfl dX11_seen_31 h
    · have h := (if_inv h).2 c4
      refine lv_iconst (v := 1) hx hb dX11_seen_26 (by decide) ?_
      refine lv_goto (tgt := 31) hx hb dX11_seen_27 (by decide) ?_
      exact r_iret C hG hr rfl dX11_seen_31 h
def k11_joined_208  (g : G) (v1 : Int32) (v2 : Int32) : Option (Int32) :=
      if v1 < v2 then
        some 0
      else
        some 1
def k11_joined  (a0 : Int32) (a1 : Int32) (a2 : Int32) (g : G) : Option (Int32) :=
  if a0 = 22 then
    some (a1 &&& a2)
  else
  if a0 = 23 then
    some (a1 ||| a2)
  else
  if a0 = 24 then
    bd (if a2 < a1 then a2 else a1) fun x5 =>
    some x5
  else
  if a0 = 25 then
    bd (if a1 < a2 then a2 else a1) fun x7 =>
    some x7
  else
  if a0 = 26 then
    k11_joined_208 g a1 a2
  else
  if a0 = 27 then
    k11_joined_208 g a1 a2
  else
  if a0 = 28 then
    k11_joined_208 g a1 a2
  else
  if a0 = 29 then
    k11_joined_208 g a1 a2
  else
  if a0 = 30 then
    k11_joined_208 g a1 a2
  else
  if a0 = 31 then
    k11_joined_208 g a1 a2
  else
  if a0 = 32 then
    k11_joined_208 g a1 a2
  else
  if a0 = 33 then
    k11_joined_208 g a1 a2
  else
  if a0 = 34 then
    k11_joined_208 g a1 a2
  else
  if a0 = 35 then
    k11_joined_208 g a1 a2
  else
  if a0 = 36 then
    k11_joined_208 g a1 a2
  else
  if a0 = 37 then
    k11_joined_208 g a1 a2
  else
  if a0 = 38 then
    k11_joined_208 g a1 a2
  else
  if a0 = 39 then
    k11_joined_208 g a1 a2
  else
  if a0 = 40 then
    some (a1 + a2)
  else
  if a0 = 41 then
    some (a1 - a2)
  else
  if a0 = 42 then
    some (a1 * a2)
  else
  if a0 = 43 then
    if a2 = 0 then
      some 0
    else
      dv a1 a2 fun x27 =>
      some x27
  else
  if a0 = 44 then
    if a2 ≤ a1 then
      some 0
    else
      some 1
  else
  if a0 = 45 then
    if a1 ≤ a2 then
      some 0
    else
      some 1
  else
  if a0 = 46 then
    if a1 = a2 then
      some 1
    else
      some 0
  else
  if a0 = 47 then
    if a2 < a1 then
      some 0
    else
      some 1
  else
  k11_joined_208 g a1 a2
set_option maxRecDepth 100000 in
set_option maxHeartbeats 4000000 in
theorem m11_joined (E : EV) (l : Launch) (a0 : Int32) (a1 : Int32) (a2 : Int32) (g : G) : ∀ u, k11_joined a0 a1 a2 g = some u → MI E l yX11_joined cX11_joined 3 (some .int) 1 0 0 [.int a0, .int a1, .int a2] g (u, g) := by
  intro u h
  refine MG.of (by decide +kernel) (Nat.le_of_ble_eq_true rfl) ?_
  intro p e s m args below meth c C hr hnm ls hl hG
  have C : Cx p s m args meth c cX11_joined 3 RX11 E := C
  have hx := C.1
  have hb := C.2.1
  have hl : lv_has ls 3 [(0, .int a0), (1, .int a1), (2, .int a2)] := hl
  unfold k11_joined at h
  have j208 : ∀ (v1 : Int32) (v2 : Int32) (H : Heap) (locs : List Loc) (ls : Array Slot), Gd E s H locs g [] → lv_has ls 3 [(1, .int v1), (2, .int v2)] → k11_joined_208 g v1 v2 = some u → W p l e (rmD 1 0 0) s m args below meth c H locs 0 0 (MQ below (QI E s.heap.size u g) args s 0 0 (AA E s.heap.size)) (F0 m 208 ls []) := by
    intro v1 v2 H locs ls hG hl h
    unfold k11_joined_208 at h
    refine lv_iload_n hx hb dX11_joined_208 rfl (lv_at hl 0 rfl) ?_
    refine lv_iload_n hx hb dX11_joined_209 rfl (lv_at hl 1 rfl) ?_
    refine lv_icmp_lt (tgt := 217) hx hb dX11_joined_210 (by decide) (fun c1 => ?_) (fun c1 => ?_)
    · have h := (if_inv h).1 c1
      refine lv_iconst (v := 0) hx hb dX11_joined_217 (by decide) ?_
      exact r_iretP C hG hr rfl dX11_joined_218 h
    · have h := (if_inv h).2 c1
      refine lv_iconst (v := 1) hx hb dX11_joined_213 (by decide) ?_
      refine lv_goto (tgt := 218) hx hb dX11_joined_214 (by decide) ?_
      exact r_iretP C hG hr rfl dX11_joined_218 h
  refine lv_iload_n hx hb dX11_joined_0 rfl (lv_at hl 0 rfl) ?_
  by_cases c2 : a0 = 22
  · have h := (if_inv h).1 c2
    refine lv_tableIn (off := 155) (tgt := 156) hx hb dX11_joined_1 (by rw [c2]; decide +kernel) (by rw [c2]; decide +kernel) (by rw [c2]; decide +kernel) (by decide) ?_
    refine lv_iload_n hx hb dX11_joined_156 rfl (lv_at hl 1 rfl) ?_
    refine lv_iload_n hx hb dX11_joined_157 rfl (lv_at hl 2 rfl) ?_
    refine lv_iand hx hb dX11_joined_158 ?_
    exact r_iretP C hG hr rfl dX11_joined_159 h
  have h := (if_inv h).2 c2
  by_cases c3 : a0 = 23
  · have h := (if_inv h).1 c3
    refine lv_tableIn (off := 159) (tgt := 160) hx hb dX11_joined_1 (by rw [c3]; decide +kernel) (by rw [c3]; decide +kernel) (by rw [c3]; decide +kernel) (by decide) ?_
    refine lv_iload_n hx hb dX11_joined_160 rfl (lv_at hl 1 rfl) ?_
    refine lv_iload_n hx hb dX11_joined_161 rfl (lv_at hl 2 rfl) ?_
    refine lv_ior hx hb dX11_joined_162 ?_
    exact r_iretP C hG hr rfl dX11_joined_163 h
  have h := (if_inv h).2 c3
  by_cases c4 : a0 = 24
  · have h := (if_inv h).1 c4
    refine lv_tableIn (off := 143) (tgt := 144) hx hb dX11_joined_1 (by rw [c4]; decide +kernel) (by rw [c4]; decide +kernel) (by rw [c4]; decide +kernel) (by decide) ?_
    refine lv_iload_n hx hb dX11_joined_144 rfl (lv_at hl 1 rfl) ?_
    refine lv_iload_n hx hb dX11_joined_145 rfl (lv_at hl 2 rfl) ?_
    refine r_min C hl.1 LX11_217 ⟨(Nat.le_of_ble_eq_true rfl), (Nat.le_of_ble_eq_true rfl), Nat.zero_le _, Nat.zero_le _⟩ dX11_joined_146 ?_
    refine r_nm h (fun x5 h => ?_)
    exact r_iretP C hG hr rfl dX11_joined_149 h
  have h := (if_inv h).2 c4
  by_cases c6 : a0 = 25
  · have h := (if_inv h).1 c6
    refine lv_tableIn (off := 149) (tgt := 150) hx hb dX11_joined_1 (by rw [c6]; decide +kernel) (by rw [c6]; decide +kernel) (by rw [c6]; decide +kernel) (by decide) ?_
    refine lv_iload_n hx hb dX11_joined_150 rfl (lv_at hl 1 rfl) ?_
    refine lv_iload_n hx hb dX11_joined_151 rfl (lv_at hl 2 rfl) ?_
    refine r_max C hl.1 LX11_166 ⟨(Nat.le_of_ble_eq_true rfl), (Nat.le_of_ble_eq_true rfl), Nat.zero_le _, Nat.zero_le _⟩ dX11_joined_152 ?_
    refine r_nm h (fun x7 h => ?_)
    exact r_iretP C hG hr rfl dX11_joined_155 h
  have h := (if_inv h).2 c6
  by_cases c8 : a0 = 26
  · have h := (if_inv h).1 c8
    refine lv_tableIn (off := 207) (tgt := 208) hx hb dX11_joined_1 (by rw [c8]; decide +kernel) (by rw [c8]; decide +kernel) (by rw [c8]; decide +kernel) (by decide) ?_
    exact j208 a1 a2 _ _ _ hG (lv_sub hl [1, 2] rfl) h
  have h := (if_inv h).2 c8
  by_cases c9 : a0 = 27
  · have h := (if_inv h).1 c9
    refine lv_tableIn (off := 207) (tgt := 208) hx hb dX11_joined_1 (by rw [c9]; decide +kernel) (by rw [c9]; decide +kernel) (by rw [c9]; decide +kernel) (by decide) ?_
    exact j208 a1 a2 _ _ _ hG (lv_sub hl [1, 2] rfl) h
  have h := (if_inv h).2 c9
  by_cases c10 : a0 = 28
  · have h := (if_inv h).1 c10
    refine lv_tableIn (off := 207) (tgt := 208) hx hb dX11_joined_1 (by rw [c10]; decide +kernel) (by rw [c10]; decide +kernel) (by rw [c10]; decide +kernel) (by decide) ?_
    exact j208 a1 a2 _ _ _ hG (lv_sub hl [1, 2] rfl) h
  have h := (if_inv h).2 c10
  by_cases c11 : a0 = 29
  · have h := (if_inv h).1 c11
    refine lv_tableIn (off := 207) (tgt := 208) hx hb dX11_joined_1 (by rw [c11]; decide +kernel) (by rw [c11]; decide +kernel) (by rw [c11]; decide +kernel) (by decide) ?_
    exact j208 a1 a2 _ _ _ hG (lv_sub hl [1, 2] rfl) h
  have h := (if_inv h).2 c11
  by_cases c12 : a0 = 30
  · have h := (if_inv h).1 c12
    refine lv_tableIn (off := 207) (tgt := 208) hx hb dX11_joined_1 (by rw [c12]; decide +kernel) (by rw [c12]; decide +kernel) (by rw [c12]; decide +kernel) (by decide) ?_
    exact j208 a1 a2 _ _ _ hG (lv_sub hl [1, 2] rfl) h
  have h := (if_inv h).2 c12
  by_cases c13 : a0 = 31
  · have h := (if_inv h).1 c13
    refine lv_tableIn (off := 207) (tgt := 208) hx hb dX11_joined_1 (by rw [c13]; decide +kernel) (by rw [c13]; decide +kernel) (by rw [c13]; decide +kernel) (by decide) ?_
    exact j208 a1 a2 _ _ _ hG (lv_sub hl [1, 2] rfl) h
  have h := (if_inv h).2 c13
  by_cases c14 : a0 = 32
  · have h := (if_inv h).1 c14
    refine lv_tableIn (off := 207) (tgt := 208) hx hb dX11_joined_1 (by rw [c14]; decide +kernel) (by rw [c14]; decide +kernel) (by rw [c14]; decide +kernel) (by decide) ?_
    exact j208 a1 a2 _ _ _ hG (lv_sub hl [1, 2] rfl) h
  have h := (if_inv h).2 c14
  by_cases c15 : a0 = 33
  · have h := (if_inv h).1 c15
    refine lv_tableIn (off := 207) (tgt := 208) hx hb dX11_joined_1 (by rw [c15]; decide +kernel) (by rw [c15]; decide +kernel) (by rw [c15]; decide +kernel) (by decide) ?_
    exact j208 a1 a2 _ _ _ hG (lv_sub hl [1, 2] rfl) h
  have h := (if_inv h).2 c15
  by_cases c16 : a0 = 34
  · have h := (if_inv h).1 c16
    refine lv_tableIn (off := 207) (tgt := 208) hx hb dX11_joined_1 (by rw [c16]; decide +kernel) (by rw [c16]; decide +kernel) (by rw [c16]; decide +kernel) (by decide) ?_
    exact j208 a1 a2 _ _ _ hG (lv_sub hl [1, 2] rfl) h
  have h := (if_inv h).2 c16
  by_cases c17 : a0 = 35
  · have h := (if_inv h).1 c17
    refine lv_tableIn (off := 207) (tgt := 208) hx hb dX11_joined_1 (by rw [c17]; decide +kernel) (by rw [c17]; decide +kernel) (by rw [c17]; decide +kernel) (by decide) ?_
    exact j208 a1 a2 _ _ _ hG (lv_sub hl [1, 2] rfl) h
  have h := (if_inv h).2 c17
  by_cases c18 : a0 = 36
  · have h := (if_inv h).1 c18
    refine lv_tableIn (off := 207) (tgt := 208) hx hb dX11_joined_1 (by rw [c18]; decide +kernel) (by rw [c18]; decide +kernel) (by rw [c18]; decide +kernel) (by decide) ?_
    exact j208 a1 a2 _ _ _ hG (lv_sub hl [1, 2] rfl) h
  have h := (if_inv h).2 c18
  by_cases c19 : a0 = 37
  · have h := (if_inv h).1 c19
    refine lv_tableIn (off := 207) (tgt := 208) hx hb dX11_joined_1 (by rw [c19]; decide +kernel) (by rw [c19]; decide +kernel) (by rw [c19]; decide +kernel) (by decide) ?_
    exact j208 a1 a2 _ _ _ hG (lv_sub hl [1, 2] rfl) h
  have h := (if_inv h).2 c19
  by_cases c20 : a0 = 38
  · have h := (if_inv h).1 c20
    refine lv_tableIn (off := 207) (tgt := 208) hx hb dX11_joined_1 (by rw [c20]; decide +kernel) (by rw [c20]; decide +kernel) (by rw [c20]; decide +kernel) (by decide) ?_
    exact j208 a1 a2 _ _ _ hG (lv_sub hl [1, 2] rfl) h
  have h := (if_inv h).2 c20
  by_cases c21 : a0 = 39
  · have h := (if_inv h).1 c21
    refine lv_tableIn (off := 207) (tgt := 208) hx hb dX11_joined_1 (by rw [c21]; decide +kernel) (by rw [c21]; decide +kernel) (by rw [c21]; decide +kernel) (by decide) ?_
    exact j208 a1 a2 _ _ _ hG (lv_sub hl [1, 2] rfl) h
  have h := (if_inv h).2 c21
  by_cases c22 : a0 = 40
  · have h := (if_inv h).1 c22
    refine lv_tableIn (off := 119) (tgt := 120) hx hb dX11_joined_1 (by rw [c22]; decide +kernel) (by rw [c22]; decide +kernel) (by rw [c22]; decide +kernel) (by decide) ?_
    refine lv_iload_n hx hb dX11_joined_120 rfl (lv_at hl 1 rfl) ?_
    refine lv_iload_n hx hb dX11_joined_121 rfl (lv_at hl 2 rfl) ?_
    refine lv_iadd hx hb dX11_joined_122 ?_
    exact r_iretP C hG hr rfl dX11_joined_123 h
  have h := (if_inv h).2 c22
  by_cases c23 : a0 = 41
  · have h := (if_inv h).1 c23
    refine lv_tableIn (off := 123) (tgt := 124) hx hb dX11_joined_1 (by rw [c23]; decide +kernel) (by rw [c23]; decide +kernel) (by rw [c23]; decide +kernel) (by decide) ?_
    refine lv_iload_n hx hb dX11_joined_124 rfl (lv_at hl 1 rfl) ?_
    refine lv_iload_n hx hb dX11_joined_125 rfl (lv_at hl 2 rfl) ?_
    refine lv_isub hx hb dX11_joined_126 ?_
    exact r_iretP C hG hr rfl dX11_joined_127 h
  have h := (if_inv h).2 c23
  by_cases c24 : a0 = 42
  · have h := (if_inv h).1 c24
    refine lv_tableIn (off := 127) (tgt := 128) hx hb dX11_joined_1 (by rw [c24]; decide +kernel) (by rw [c24]; decide +kernel) (by rw [c24]; decide +kernel) (by decide) ?_
    refine lv_iload_n hx hb dX11_joined_128 rfl (lv_at hl 1 rfl) ?_
    refine lv_iload_n hx hb dX11_joined_129 rfl (lv_at hl 2 rfl) ?_
    refine lv_imul hx hb dX11_joined_130 ?_
    exact r_iretP C hG hr rfl dX11_joined_131 h
  have h := (if_inv h).2 c24
  by_cases c25 : a0 = 43
  · have h := (if_inv h).1 c25
    refine lv_tableIn (off := 131) (tgt := 132) hx hb dX11_joined_1 (by rw [c25]; decide +kernel) (by rw [c25]; decide +kernel) (by rw [c25]; decide +kernel) (by decide) ?_
    refine lv_iload_n hx hb dX11_joined_132 rfl (lv_at hl 2 rfl) ?_
    refine lv_if_ne (tgt := 140) hx hb dX11_joined_133 (by decide) (fun c26 => ?_) (fun c26 => ?_)
    · have h := (if_inv h).2 c26
      refine lv_iload_n hx hb dX11_joined_140 rfl (lv_at hl 1 rfl) ?_
      refine lv_iload_n hx hb dX11_joined_141 rfl (lv_at hl 2 rfl) ?_
      refine r_div C dX11_joined_142 h (fun x27 h => ?_)
      exact r_iretP C hG hr rfl dX11_joined_143 h
    · have h := (if_inv h).1 c26
      refine lv_iconst (v := 0) hx hb dX11_joined_136 (by decide) ?_
      refine lv_goto (tgt := 143) hx hb dX11_joined_137 (by decide) ?_
      exact r_iretP C hG hr rfl dX11_joined_143 h
  have h := (if_inv h).2 c25
  by_cases c28 : a0 = 44
  · have h := (if_inv h).1 c28
    refine lv_tableIn (off := 163) (tgt := 164) hx hb dX11_joined_1 (by rw [c28]; decide +kernel) (by rw [c28]; decide +kernel) (by rw [c28]; decide +kernel) (by decide) ?_
    refine lv_iload_n hx hb dX11_joined_164 rfl (lv_at hl 1 rfl) ?_
    refine lv_iload_n hx hb dX11_joined_165 rfl (lv_at hl 2 rfl) ?_
    refine lv_icmp_ge (tgt := 173) hx hb dX11_joined_166 (by decide) (fun c29 => ?_) (fun c29 => ?_)
    · have h := (if_inv h).1 c29
      refine lv_iconst (v := 0) hx hb dX11_joined_173 (by decide) ?_
      exact r_iretP C hG hr rfl dX11_joined_174 h
    · have h := (if_inv h).2 c29
      refine lv_iconst (v := 1) hx hb dX11_joined_169 (by decide) ?_
      refine lv_goto (tgt := 174) hx hb dX11_joined_170 (by decide) ?_
      exact r_iretP C hG hr rfl dX11_joined_174 h
  have h := (if_inv h).2 c28
  by_cases c30 : a0 = 45
  · have h := (if_inv h).1 c30
    refine lv_tableIn (off := 174) (tgt := 175) hx hb dX11_joined_1 (by rw [c30]; decide +kernel) (by rw [c30]; decide +kernel) (by rw [c30]; decide +kernel) (by decide) ?_
    refine lv_iload_n hx hb dX11_joined_175 rfl (lv_at hl 1 rfl) ?_
    refine lv_iload_n hx hb dX11_joined_176 rfl (lv_at hl 2 rfl) ?_
    refine lv_icmp_le (tgt := 184) hx hb dX11_joined_177 (by decide) (fun c31 => ?_) (fun c31 => ?_)
    · have h := (if_inv h).1 c31
      refine lv_iconst (v := 0) hx hb dX11_joined_184 (by decide) ?_
      exact r_iretP C hG hr rfl dX11_joined_185 h
    · have h := (if_inv h).2 c31
      refine lv_iconst (v := 1) hx hb dX11_joined_180 (by decide) ?_
      refine lv_goto (tgt := 185) hx hb dX11_joined_181 (by decide) ?_
      exact r_iretP C hG hr rfl dX11_joined_185 h
  have h := (if_inv h).2 c30
  by_cases c32 : a0 = 46
  · have h := (if_inv h).1 c32
    refine lv_tableIn (off := 185) (tgt := 186) hx hb dX11_joined_1 (by rw [c32]; decide +kernel) (by rw [c32]; decide +kernel) (by rw [c32]; decide +kernel) (by decide) ?_
    refine lv_iload_n hx hb dX11_joined_186 rfl (lv_at hl 1 rfl) ?_
    refine lv_iload_n hx hb dX11_joined_187 rfl (lv_at hl 2 rfl) ?_
    refine lv_icmp_ne (tgt := 195) hx hb dX11_joined_188 (by decide) (fun c33 => ?_) (fun c33 => ?_)
    · have h := (if_inv h).2 c33
      refine lv_iconst (v := 0) hx hb dX11_joined_195 (by decide) ?_
      exact r_iretP C hG hr rfl dX11_joined_196 h
    · have h := (if_inv h).1 c33
      refine lv_iconst (v := 1) hx hb dX11_joined_191 (by decide) ?_
      refine lv_goto (tgt := 196) hx hb dX11_joined_192 (by decide) ?_
      exact r_iretP C hG hr rfl dX11_joined_196 h
  have h := (if_inv h).2 c32
  by_cases c34 : a0 = 47
  · have h := (if_inv h).1 c34
    refine lv_tableIn (off := 196) (tgt := 197) hx hb dX11_joined_1 (by rw [c34]; decide +kernel) (by rw [c34]; decide +kernel) (by rw [c34]; decide +kernel) (by decide) ?_
    refine lv_iload_n hx hb dX11_joined_197 rfl (lv_at hl 1 rfl) ?_
    refine lv_iload_n hx hb dX11_joined_198 rfl (lv_at hl 2 rfl) ?_
    refine lv_icmp_gt (tgt := 206) hx hb dX11_joined_199 (by decide) (fun c35 => ?_) (fun c35 => ?_)
    · have h := (if_inv h).1 c35
      refine lv_iconst (v := 0) hx hb dX11_joined_206 (by decide) ?_
      exact r_iretP C hG hr rfl dX11_joined_207 h
    · have h := (if_inv h).2 c35
      refine lv_iconst (v := 1) hx hb dX11_joined_202 (by decide) ?_
      refine lv_goto (tgt := 207) hx hb dX11_joined_203 (by decide) ?_
      exact r_iretP C hG hr rfl dX11_joined_207 h
  have h := (if_inv h).2 c34
  refine lv_tableOut (tgt := 208) hx hb dX11_joined_1 (tab_out 26 (by decide) (lt_s (lt_s (lt_s (lt_s (lt_s (lt_s (lt_s (lt_s (lt_s (lt_s (lt_s (lt_s (lt_s (lt_s (lt_s (lt_s (lt_s (lt_s (lt_s (lt_s (lt_s (lt_s (lt_s (lt_s (lt_s (lt_s lt_0 (nei c2 (by decide))) (nei c3 (by decide))) (nei c4 (by decide))) (nei c6 (by decide))) (nei c8 (by decide))) (nei c9 (by decide))) (nei c10 (by decide))) (nei c11 (by decide))) (nei c12 (by decide))) (nei c13 (by decide))) (nei c14 (by decide))) (nei c15 (by decide))) (nei c16 (by decide))) (nei c17 (by decide))) (nei c18 (by decide))) (nei c19 (by decide))) (nei c20 (by decide))) (nei c21 (by decide))) (nei c22 (by decide))) (nei c23 (by decide))) (nei c24 (by decide))) (nei c25 (by decide))) (nei c28 (by decide))) (nei c30 (by decide))) (nei c32 (by decide))) (nei c34 (by decide)))) (by decide) ?_
  exact j208 a1 a2 _ _ _ hG (lv_sub hl [1, 2] rfl) h
def k11_reckon (o1 : Nat) (a2 : Int32) (a3 : Int32) (a4 : Int32) (g : G) : Option (Int32 × G) :=
  if a2 = 1 then
    ld g (o1 + 1) 10 a3 fun x2 =>
    some (x2, g)
  else
  if a2 = 2 then
    ld g (o1 + 3) 10 a3 fun x4 =>
    some (x4, g)
  else
  if a2 = 12 then
    some ((g o1 8), g)
  else
  if a2 = 13 then
    (k11_light o1 g).bind fun u7 =>
    some (u7.1, u7.2)
  else
  if a2 = 14 then
    some ((g o1 6), g)
  else
  if a2 = 15 then
    (k11_shine o1 g).bind fun g10 =>
    ld g10 93 10 a3 fun x11 =>
    ld g10 94 10 a3 fun x12 =>
    some ((x11 - x12), g10)
  else
  if a2 = 16 then
    (k11_shine o1 g).bind fun g14 =>
    ld g14 95 10 a3 fun x15 =>
    some (x15, g14)
  else
  if a2 = 17 then
    ld g (o1 + 2) 10 a3 fun x17 =>
    some (x17, g)
  else
  if a2 = 19 then
    (k11_seen o1 g).bind fun u19 =>
    if u19.1 = 0 then
      some (0, u19.2)
    else
      some (1, u19.2)
  else
  if a2 = 20 then
    (k9_find o1 0 a3 g).bind fun u22 =>
    if u22 = (-1) then
      (k9_find o1 1 a3 g).bind fun u24 =>
      if u24 = (-1) then
        (k9_find o1 2 a3 g).bind fun u26 =>
        if u26 = (-1) then
          some (0, g)
        else
          some (1, g)
      else
        some (1, g)
    else
      some (1, g)
  else
  if a2 = 21 then
    ld g 78 800 a3 fun x29 =>
    some ((1 - x29), g)
  else
  if a2 = 31 then
    some (a3, g)
  else
  if a2 = 60 then
    ld g 78 800 a3 fun x32 =>
    some ((-x32), g)
  else
  ld g 78 800 a3 fun x33 =>
  ld g 78 800 a4 fun x34 =>
  (k11_joined a2 x33 x34 g).bind fun u35 =>
  some (u35, g)
set_option maxRecDepth 100000 in
set_option maxHeartbeats 4000000 in
theorem m11_reckon (E : EV) (l : Launch) (o1 : Nat) (hk1 : kd o1 = 9) (a2 : Int32) (a3 : Int32) (a4 : Int32) (g : G) : ∀ u, k11_reckon o1 a2 a3 a4 g = some u → MI E l yX11_reckon cX11_reckon 5 (some .int) 5 0 0 [.ref (E.ad 47), .ref (E.ad o1), .int a2, .int a3, .int a4] g u := by
  intro u h
  refine MG.of (by decide +kernel) (Nat.le_of_ble_eq_true rfl) ?_
  intro p e s m args below meth c C hr hnm ls hl hG
  have C : Cx p s m args meth c cX11_reckon 5 RX11 E := C
  have hx := C.1
  have hb := C.2.1
  have hl : lv_has ls 5 [(0, .ref (E.ad 47)), (1, .ref (E.ad o1)), (2, .int a2), (3, .int a3), (4, .int a4)] := hl
  unfold k11_reckon at h
  refine lv_iload_n hx hb dX11_reckon_0 rfl (lv_at hl 2 rfl) ?_
  by_cases c1 : a2 = 1
  · have h := (if_inv h).1 c1
    refine lv_lookup (off := 140) (tgt := 141) hx hb dX11_reckon_1 (by decide +kernel) (by rw [c1]; decide +kernel) (by decide) ?_
    refine lv_aload_n hx hb dX11_reckon_141 rfl (lv_at hl 1 rfl) ?_
    refine r_getR (d := 1) C hG FX11_292 hk1 rfl (by decide) dX11_reckon_142 ?_
    refine lv_iload_n hx hb dX11_reckon_145 rfl (lv_at hl 3 rfl) ?_
    refine r_ild C hG (N := 10) (kR9_0 hk1) (by decide) dX11_reckon_146 h (fun x2 h => ?_)
    exact r_iret C hG hr rfl dX11_reckon_147 h
  have h := (if_inv h).2 c1
  by_cases c3 : a2 = 2
  · have h := (if_inv h).1 c3
    refine lv_lookup (off := 133) (tgt := 134) hx hb dX11_reckon_1 (by decide +kernel) (by rw [c3]; decide +kernel) (by decide) ?_
    refine lv_aload_n hx hb dX11_reckon_134 rfl (lv_at hl 1 rfl) ?_
    refine r_getR (d := 3) C hG FX11_293 hk1 rfl (by decide) dX11_reckon_135 ?_
    refine lv_iload_n hx hb dX11_reckon_138 rfl (lv_at hl 3 rfl) ?_
    refine r_ild C hG (N := 10) (kR9_2 hk1) (by decide) dX11_reckon_139 h (fun x4 h => ?_)
    exact r_iret C hG hr rfl dX11_reckon_140 h
  have h := (if_inv h).2 c3
  by_cases c5 : a2 = 12
  · have h := (if_inv h).1 c5
    refine lv_lookup (off := 117) (tgt := 118) hx hb dX11_reckon_1 (by decide +kernel) (by rw [c5]; decide +kernel) (by decide) ?_
    refine lv_aload_n hx hb dX11_reckon_118 rfl (lv_at hl 1 rfl) ?_
    refine r_getI C hG FX11_308 hk1 rfl dX11_reckon_119 ?_
    exact r_iret C hG hr rfl dX11_reckon_122 h
  have h := (if_inv h).2 c5
  by_cases c6 : a2 = 13
  · have h := (if_inv h).1 c6
    refine lv_lookup (off := 122) (tgt := 123) hx hb dX11_reckon_1 (by decide +kernel) (by rw [c6]; decide +kernel) (by decide) ?_
    refine lv_aload_n hx hb dX11_reckon_123 rfl (lv_at hl 0 rfl) ?_
    refine lv_aload_n hx hb dX11_reckon_124 rfl (lv_at hl 1 rfl) ?_
    refine r_callVI C hl.1 hG [.ref (E.ad o1)] [] (m11_light E l o1 hk1 g) LX11_304 rfl KC11 rfl (rm_ok (by decide) (by decide)) (Nat.le_of_ble_eq_true rfl) ⟨Nat.le_refl _, Nat.le_refl _⟩ rfl dX11_reckon_125 h (fun u7 H locs hG h => ?_)
    exact r_iret C hG hr rfl dX11_reckon_128 h
  have h := (if_inv h).2 c6
  by_cases c8 : a2 = 14
  · have h := (if_inv h).1 c8
    refine lv_lookup (off := 128) (tgt := 129) hx hb dX11_reckon_1 (by decide +kernel) (by rw [c8]; decide +kernel) (by decide) ?_
    refine lv_aload_n hx hb dX11_reckon_129 rfl (lv_at hl 1 rfl) ?_
    refine r_getI C hG FX11_311 hk1 rfl dX11_reckon_130 ?_
    exact r_iret C hG hr rfl dX11_reckon_133 h
  have h := (if_inv h).2 c8
  by_cases c9 : a2 = 15
  · have h := (if_inv h).1 c9
    refine lv_lookup (off := 154) (tgt := 155) hx hb dX11_reckon_1 (by decide +kernel) (by rw [c9]; decide +kernel) (by decide) ?_
    refine lv_aload_n hx hb dX11_reckon_155 rfl (lv_at hl 0 rfl) ?_
    refine lv_aload_n hx hb dX11_reckon_156 rfl (lv_at hl 1 rfl) ?_
    refine r_callVV C hl.1 hG [.ref (E.ad o1)] [] (m11_shine E l o1 hk1 g) LX11_300 rfl KC11 rfl (rm_ok (by decide) (by decide)) (Nat.le_of_ble_eq_true rfl) ⟨Nat.le_refl _, Nat.le_refl _⟩ rfl dX11_reckon_157 h (fun g10 H locs hG h => ?_)
    refine lv_aload_n hx hb dX11_reckon_160 rfl (lv_at hl 0 rfl) ?_
    refine r_getA (j := 93) C hG FX11_55 rfl rfl dX11_reckon_161 ?_
    refine lv_iload_n hx hb dX11_reckon_164 rfl (lv_at hl 3 rfl) ?_
    refine r_ild C hG (N := 10) rfl (by decide) dX11_reckon_165 h (fun x11 h => ?_)
    refine lv_aload_n hx hb dX11_reckon_166 rfl (lv_at hl 0 rfl) ?_
    refine r_getA (j := 94) C hG FX11_58 rfl rfl dX11_reckon_167 ?_
    refine lv_iload_n hx hb dX11_reckon_170 rfl (lv_at hl 3 rfl) ?_
    refine r_ild C hG (N := 10) rfl (by decide) dX11_reckon_171 h (fun x12 h => ?_)
    refine lv_isub hx hb dX11_reckon_172 ?_
    exact r_iret C hG hr rfl dX11_reckon_173 h
  have h := (if_inv h).2 c9
  by_cases c13 : a2 = 16
  · have h := (if_inv h).1 c13
    refine lv_lookup (off := 173) (tgt := 174) hx hb dX11_reckon_1 (by decide +kernel) (by rw [c13]; decide +kernel) (by decide) ?_
    refine lv_aload_n hx hb dX11_reckon_174 rfl (lv_at hl 0 rfl) ?_
    refine lv_aload_n hx hb dX11_reckon_175 rfl (lv_at hl 1 rfl) ?_
    refine r_callVV C hl.1 hG [.ref (E.ad o1)] [] (m11_shine E l o1 hk1 g) LX11_300 rfl KC11 rfl (rm_ok (by decide) (by decide)) (Nat.le_of_ble_eq_true rfl) ⟨Nat.le_refl _, Nat.le_refl _⟩ rfl dX11_reckon_176 h (fun g14 H locs hG h => ?_)
    refine lv_aload_n hx hb dX11_reckon_179 rfl (lv_at hl 0 rfl) ?_
    refine r_getA (j := 95) C hG FX11_61 rfl rfl dX11_reckon_180 ?_
    refine lv_iload_n hx hb dX11_reckon_183 rfl (lv_at hl 3 rfl) ?_
    refine r_ild C hG (N := 10) rfl (by decide) dX11_reckon_184 h (fun x15 h => ?_)
    exact r_iret C hG hr rfl dX11_reckon_185 h
  have h := (if_inv h).2 c13
  by_cases c16 : a2 = 17
  · have h := (if_inv h).1 c16
    refine lv_lookup (off := 147) (tgt := 148) hx hb dX11_reckon_1 (by decide +kernel) (by rw [c16]; decide +kernel) (by decide) ?_
    refine lv_aload_n hx hb dX11_reckon_148 rfl (lv_at hl 1 rfl) ?_
    refine r_getR (d := 2) C hG FX11_314 hk1 rfl (by decide) dX11_reckon_149 ?_
    refine lv_iload_n hx hb dX11_reckon_152 rfl (lv_at hl 3 rfl) ?_
    refine r_ild C hG (N := 10) (kR9_1 hk1) (by decide) dX11_reckon_153 h (fun x17 h => ?_)
    exact r_iret C hG hr rfl dX11_reckon_154 h
  have h := (if_inv h).2 c16
  by_cases c18 : a2 = 19
  · have h := (if_inv h).1 c18
    refine lv_lookup (off := 185) (tgt := 186) hx hb dX11_reckon_1 (by decide +kernel) (by rw [c18]; decide +kernel) (by decide) ?_
    refine lv_aload_n hx hb dX11_reckon_186 rfl (lv_at hl 0 rfl) ?_
    refine lv_aload_n hx hb dX11_reckon_187 rfl (lv_at hl 1 rfl) ?_
    refine r_callVI C hl.1 hG [.ref (E.ad o1)] [] (m11_seen E l o1 hk1 g) LX11_317 rfl KC11 rfl (rm_ok (by decide) (by decide)) (Nat.le_of_ble_eq_true rfl) ⟨Nat.le_refl _, Nat.le_refl _⟩ rfl dX11_reckon_188 h (fun u19 H locs hG h => ?_)
    refine lv_if_eq (tgt := 198) hx hb dX11_reckon_191 (by decide) (fun c20 => ?_) (fun c20 => ?_)
    · have h := (if_inv h).1 c20
      refine lv_iconst (v := 0) hx hb dX11_reckon_198 (by decide) ?_
      exact r_iret C hG hr rfl dX11_reckon_199 h
    · have h := (if_inv h).2 c20
      refine lv_iconst (v := 1) hx hb dX11_reckon_194 (by decide) ?_
      refine lv_goto (tgt := 199) hx hb dX11_reckon_195 (by decide) ?_
      exact r_iret C hG hr rfl dX11_reckon_199 h
  have h := (if_inv h).2 c18
  by_cases c21 : a2 = 20
  · have h := (if_inv h).1 c21
    refine lv_lookup (off := 199) (tgt := 200) hx hb dX11_reckon_1 (by decide +kernel) (by rw [c21]; decide +kernel) (by decide) ?_
    refine lv_aload_n hx hb dX11_reckon_200 rfl (lv_at hl 1 rfl) ?_
    refine lv_iconst (v := 0) hx hb dX11_reckon_201 (by decide) ?_
    refine lv_iload_n hx hb dX11_reckon_202 rfl (lv_at hl 3 rfl) ?_
    refine r_callVIP C hl.1 hG [.int 0, .int a3] [] (m9_find E l o1 hk1 0 a3 g) LX11_321 hk1 KC9 rfl (rm_ok (by decide) (by decide)) (Nat.le_of_ble_eq_true rfl) ⟨Nat.le_refl _, Nat.le_refl _⟩ rfl dX11_reckon_203 h (fun u22 H locs hG h => ?_)
    refine lv_iconst (v := (-1)) hx hb dX11_reckon_206 (by decide) ?_
    refine lv_icmp_ne (tgt := 230) hx hb dX11_reckon_207 (by decide) (fun c23 => ?_) (fun c23 => ?_)
    · have h := (if_inv h).2 c23
      refine lv_iconst (v := 1) hx hb dX11_reckon_230 (by decide) ?_
      refine lv_goto (tgt := 235) hx hb dX11_reckon_231 (by decide) ?_
      exact r_iret C hG hr rfl dX11_reckon_235 h
    · have h := (if_inv h).1 c23
      refine lv_aload_n hx hb dX11_reckon_210 rfl (lv_at hl 1 rfl) ?_
      refine lv_iconst (v := 1) hx hb dX11_reckon_211 (by decide) ?_
      refine lv_iload_n hx hb dX11_reckon_212 rfl (lv_at hl 3 rfl) ?_
      refine r_callVIP C hl.1 hG [.int 1, .int a3] [] (m9_find E l o1 hk1 1 a3 g) LX11_321 hk1 KC9 rfl (rm_ok (by decide) (by decide)) (Nat.le_of_ble_eq_true rfl) ⟨Nat.le_refl _, Nat.le_refl _⟩ rfl dX11_reckon_213 h (fun u24 H locs hG h => ?_)
      refine lv_iconst (v := (-1)) hx hb dX11_reckon_216 (by decide) ?_
      refine lv_icmp_ne (tgt := 230) hx hb dX11_reckon_217 (by decide) (fun c25 => ?_) (fun c25 => ?_)
      · have h := (if_inv h).2 c25
        refine lv_iconst (v := 1) hx hb dX11_reckon_230 (by decide) ?_
        refine lv_goto (tgt := 235) hx hb dX11_reckon_231 (by decide) ?_
        exact r_iret C hG hr rfl dX11_reckon_235 h
      · have h := (if_inv h).1 c25
        refine lv_aload_n hx hb dX11_reckon_220 rfl (lv_at hl 1 rfl) ?_
        refine lv_iconst (v := 2) hx hb dX11_reckon_221 (by decide) ?_
        refine lv_iload_n hx hb dX11_reckon_222 rfl (lv_at hl 3 rfl) ?_
        refine r_callVIP C hl.1 hG [.int 2, .int a3] [] (m9_find E l o1 hk1 2 a3 g) LX11_321 hk1 KC9 rfl (rm_ok (by decide) (by decide)) (Nat.le_of_ble_eq_true rfl) ⟨Nat.le_refl _, Nat.le_refl _⟩ rfl dX11_reckon_223 h (fun u26 H locs hG h => ?_)
        refine lv_iconst (v := (-1)) hx hb dX11_reckon_226 (by decide) ?_
        refine lv_icmp_eq (tgt := 234) hx hb dX11_reckon_227 (by decide) (fun c27 => ?_) (fun c27 => ?_)
        · have h := (if_inv h).1 c27
          refine lv_iconst (v := 0) hx hb dX11_reckon_234 (by decide) ?_
          exact r_iret C hG hr rfl dX11_reckon_235 h
        · have h := (if_inv h).2 c27
          refine lv_iconst (v := 1) hx hb dX11_reckon_230 (by decide) ?_
          refine lv_goto (tgt := 235) hx hb dX11_reckon_231 (by decide) ?_
          exact r_iret C hG hr rfl dX11_reckon_235 h
  have h := (if_inv h).2 c21
  by_cases c28 : a2 = 21
  · have h := (if_inv h).1 c28
    refine lv_lookup (off := 243) (tgt := 244) hx hb dX11_reckon_1 (by decide +kernel) (by rw [c28]; decide +kernel) (by decide) ?_
    refine lv_iconst (v := 1) hx hb dX11_reckon_244 (by decide) ?_
    refine lv_aload_n hx hb dX11_reckon_245 rfl (lv_at hl 0 rfl) ?_
    refine r_getA (j := 78) C hG FX11_42 rfl rfl dX11_reckon_246 ?_
    refine lv_iload_n hx hb dX11_reckon_249 rfl (lv_at hl 3 rfl) ?_
    refine r_ild C hG (N := 800) rfl (by decide) dX11_reckon_250 h (fun x29 h => ?_)
    refine lv_isub hx hb dX11_reckon_251 ?_
    exact r_iret C hG hr rfl dX11_reckon_252 h
  have h := (if_inv h).2 c28
  by_cases c30 : a2 = 31
  · have h := (if_inv h).1 c30
    refine lv_lookup (off := 115) (tgt := 116) hx hb dX11_reckon_1 (by decide +kernel) (by rw [c30]; decide +kernel) (by decide) ?_
    refine lv_iload_n hx hb dX11_reckon_116 rfl (lv_at hl 3 rfl) ?_
    exact r_iret C hG hr rfl dX11_reckon_117 h
  have h := (if_inv h).2 c30
  by_cases c31 : a2 = 60
  · have h := (if_inv h).1 c31
    refine lv_lookup (off := 235) (tgt := 236) hx hb dX11_reckon_1 (by decide +kernel) (by rw [c31]; decide +kernel) (by decide) ?_
    refine lv_aload_n hx hb dX11_reckon_236 rfl (lv_at hl 0 rfl) ?_
    refine r_getA (j := 78) C hG FX11_42 rfl rfl dX11_reckon_237 ?_
    refine lv_iload_n hx hb dX11_reckon_240 rfl (lv_at hl 3 rfl) ?_
    refine r_ild C hG (N := 800) rfl (by decide) dX11_reckon_241 h (fun x32 h => ?_)
    refine lv_ineg hx hb dX11_reckon_242 ?_
    exact r_iret C hG hr rfl dX11_reckon_243 h
  have h := (if_inv h).2 c31
  refine lv_lookup (off := 252) (tgt := 253) hx hb dX11_reckon_1 (by decide +kernel) (lk_def _ _ _ (fa_c (nei c1 (by decide)) (fa_c (nei c3 (by decide)) (fa_c (nei c5 (by decide)) (fa_c (nei c6 (by decide)) (fa_c (nei c8 (by decide)) (fa_c (nei c9 (by decide)) (fa_c (nei c13 (by decide)) (fa_c (nei c16 (by decide)) (fa_c (nei c18 (by decide)) (fa_c (nei c21 (by decide)) (fa_c (nei c28 (by decide)) (fa_c (nei c30 (by decide)) (fa_c (nei c31 (by decide)) fa_n)))))))))))))) (by decide) ?_
  refine lv_iload_n hx hb dX11_reckon_253 rfl (lv_at hl 2 rfl) ?_
  refine lv_aload_n hx hb dX11_reckon_254 rfl (lv_at hl 0 rfl) ?_
  refine r_getA (j := 78) C hG FX11_42 rfl rfl dX11_reckon_255 ?_
  refine lv_iload_n hx hb dX11_reckon_258 rfl (lv_at hl 3 rfl) ?_
  refine r_ild C hG (N := 800) rfl (by decide) dX11_reckon_259 h (fun x33 h => ?_)
  refine lv_aload_n hx hb dX11_reckon_260 rfl (lv_at hl 0 rfl) ?_
  refine r_getA (j := 78) C hG FX11_42 rfl rfl dX11_reckon_261 ?_
  refine lv_iload hx hb dX11_reckon_264 (lv_at hl 4 rfl) ?_
  refine r_ild C hG (N := 800) rfl (by decide) dX11_reckon_266 h (fun x34 h => ?_)
  refine r_callSIP C hl.1 hG [.int a2, .int x33, .int x34] [] (m11_joined E l a2 x33 x34 g) LX11_324 rfl (rm_ok (by decide) (by decide)) (Nat.le_of_ble_eq_true rfl) ⟨Nat.le_refl _, Nat.le_refl _⟩ rfl dX11_reckon_267 h (fun u35 H locs hG h => ?_)
  exact r_iret C hG hr rfl dX11_reckon_270 h
def k11_held  (a0 : Int64) (a2 : Int32) (a3 : Int32) (g : G) : Option (Int32) :=
  bd (if a0 < a3.toInt64 then a0 else a3.toInt64) fun x1 =>
  bd (if x1 < a2.toInt64 then a2.toInt64 else x1) fun x2 =>
  some x2.toInt32
set_option maxRecDepth 100000 in
set_option maxHeartbeats 4000000 in
theorem m11_held (E : EV) (l : Launch) (a0 : Int64) (a2 : Int32) (a3 : Int32) (g : G) : ∀ u, k11_held a0 a2 a3 g = some u → MI E l yX11_held cX11_held 4 (some .int) 1 0 0 [.long a0, .int a2, .int a3] g (u, g) := by
  intro u h
  refine MG.of (by decide +kernel) (Nat.le_of_ble_eq_true rfl) ?_
  intro p e s m args below meth c C hr hnm ls hl hG
  have C : Cx p s m args meth c cX11_held 4 RX11 E := C
  have hx := C.1
  have hb := C.2.1
  have hl : lv_has ls 4 [(0, .long a0), (2, .int a2), (3, .int a3)] := hl
  unfold k11_held at h
  refine lv_iload_n hx hb dX11_held_0 rfl (lv_at hl 1 rfl) ?_
  refine lv_i2l hx hb dX11_held_1 rfl ?_
  refine lv_iload_n hx hb dX11_held_2 rfl (lv_at hl 2 rfl) ?_
  refine lv_i2l hx hb dX11_held_3 rfl ?_
  refine lv_lload_n hx hb dX11_held_4 rfl (lv_at hl 0 rfl) ?_
  refine r_minL C hl.1 LX11_327 ⟨(Nat.le_of_ble_eq_true rfl), (Nat.le_of_ble_eq_true rfl), Nat.zero_le _, Nat.zero_le _⟩ dX11_held_5 ?_
  refine r_nmL h (fun x1 h => ?_)
  refine r_maxL C hl.1 LX11_330 ⟨(Nat.le_of_ble_eq_true rfl), (Nat.le_of_ble_eq_true rfl), Nat.zero_le _, Nat.zero_le _⟩ dX11_held_8 ?_
  refine r_nmL h (fun x2 h => ?_)
  refine lv_l2i hx hb dX11_held_11 rfl ?_
  exact r_iretP C hG hr rfl dX11_held_12 h
def k11_carryOut_148 (o1 : Nat) (v2 : Int32) (v4 : Int32) (t0 : Int32) (g : G) : Option (G) :=
      ld g 57 17 v2 fun x1 =>
      if x1 = 3 then
        ld g (o1 + 3) 10 v4 fun x11 =>
        (k11_held (x11.toInt64 + t0.toInt64) (-90) 90 g).bind fun u12 =>
        sto g (o1 + 3) 10 v4 u12 fun g13 =>
        some g13
      else
        ld g 57 17 v2 fun x3 =>
        if x3 = 4 then
          ld g (o1 + 1) 10 v4 fun x7 =>
          ld g (o1 + 2) 10 v4 fun x8 =>
          (k11_held (x7.toInt64 - t0.toInt64) 0 x8 g).bind fun u9 =>
          sto g (o1 + 1) 10 v4 u9 fun g10 =>
          some g10
        else
          ld g 57 17 v2 fun x5 =>
          (k9_order o1 x5 v4 g).bind fun u6 =>
          some u6.2
def k11_carryOut_106 (o1 : Nat) (v2 : Int32) (g : G) : Option (G) :=
      ld g 58 17 v2 fun x14 =>
      ld g 61 17 v2 fun x15 =>
      if x15 = (-1) then
        k11_carryOut_148 o1 v2 x14 0 g
      else
        ld g 61 17 v2 fun x17 =>
        ld g 78 800 x17 fun x18 =>
        k11_carryOut_148 o1 v2 x14 x18 g
def k11_carryOut_13 (o1 : Nat) : Nat → Int32 → Int32 → G → Option (G)
  | 0, _, _, _ => none
  | f + 1, v2, v4, g =>
        ld g 60 17 v2 fun x19 =>
        if x19 ≤ v4 then
          ld g 62 17 v2 fun x21 =>
          if x21 = (-1) then
            k11_carryOut_106 o1 v2 g
          else
            ld g 62 17 v2 fun x23 =>
            ld g 78 800 x23 fun x24 =>
            if x24 = 0 then
              some g
            else
              k11_carryOut_106 o1 v2 g
        else
          ld g 63 800 v4 fun x26 =>
          ld g 64 800 v4 fun x27 =>
          ld g 65 800 v4 fun x28 =>
          (k11_reckon o1 x26 x27 x28 g).bind fun u29 =>
          sto u29.2 78 800 v4 u29.1 fun g30 =>
          bd (v4 + 1) fun x31 =>
          k11_carryOut_13 o1 f v2 x31 g30
def k11_carryOut (o1 : Nat) (a2 : Int32) (g : G) : Option (G) :=
  ld g 59 17 a2 fun x32 =>
  k11_carryOut_13 o1 FU a2 x32 g
set_option maxRecDepth 100000 in
set_option maxHeartbeats 4000000 in
theorem m11_carryOut (E : EV) (l : Launch) (o1 : Nat) (hk1 : kd o1 = 9) (a2 : Int32) (g : G) : ∀ u, k11_carryOut o1 a2 g = some u → MV E l yX11_carryOut cX11_carryOut 6 none 6 0 0 [.ref (E.ad 47), .ref (E.ad o1), .int a2] g u := by
  intro u h
  refine MG.of (by decide +kernel) (Nat.le_of_ble_eq_true rfl) ?_
  intro p e s m args below meth c C hr hnm ls hl hG
  have C : Cx p s m args meth c cX11_carryOut 6 RX11 E := C
  have hx := C.1
  have hb := C.2.1
  have hl : lv_has ls 6 [(0, .ref (E.ad 47)), (1, .ref (E.ad o1)), (2, .int a2)] := hl
  unfold k11_carryOut at h
  have j148 : ∀ (v2 : Int32) (v4 : Int32) (t0 : Int32) (g : G) (H : Heap) (locs : List Loc) (ls : Array Slot), Gd E s H locs g [] → lv_has ls 6 [(0, .ref (E.ad 47)), (1, .ref (E.ad o1)), (2, .int v2), (4, .int v4)] → k11_carryOut_148 o1 v2 v4 t0 g = some u → W p l e (rmD 6 0 0) s m args below meth c H locs 0 0 (MQ below (QV E s.heap.size u) args s 0 0 (AA E s.heap.size)) (F0 m 148 ls [.int t0]) := by
    intro v2 v4 t0 g H locs ls hG hl h
    unfold k11_carryOut_148 at h
    refine lv_istore (lv' := [(5, .int t0), (0, .ref (E.ad 47)), (1, .ref (E.ad o1)), (2, .int v2), (4, .int v4)]) hx hb dX11_carryOut_148 hl (by decide) rfl (fun ls hl => ?_)
    refine lv_aload_n hx hb dX11_carryOut_150 rfl (lv_at hl 1 rfl) ?_
    refine r_getA (j := 54) C hG FX11_35 rfl rfl dX11_carryOut_151 ?_
    refine r_getR (d := 3) C hG FX11_235 rfl rfl (by decide) dX11_carryOut_154 ?_
    refine lv_iload_n hx hb dX11_carryOut_157 rfl (lv_at hl 3 rfl) ?_
    refine r_ild C hG (N := 17) rfl (by decide) dX11_carryOut_158 h (fun x1 h => ?_)
    refine lv_iconst (v := 3) hx hb dX11_carryOut_159 (by decide) ?_
    refine lv_icmp_ne (tgt := 192) hx hb dX11_carryOut_160 (by decide) (fun c2 => ?_) (fun c2 => ?_)
    · have h := (if_inv h).2 c2
      refine lv_aload_n hx hb dX11_carryOut_192 rfl (lv_at hl 1 rfl) ?_
      refine r_getA (j := 54) C hG FX11_35 rfl rfl dX11_carryOut_193 ?_
      refine r_getR (d := 3) C hG FX11_235 rfl rfl (by decide) dX11_carryOut_196 ?_
      refine lv_iload_n hx hb dX11_carryOut_199 rfl (lv_at hl 3 rfl) ?_
      refine r_ild C hG (N := 17) rfl (by decide) dX11_carryOut_200 h (fun x3 h => ?_)
      refine lv_iconst (v := 4) hx hb dX11_carryOut_201 (by decide) ?_
      refine lv_icmp_ne (tgt := 238) hx hb dX11_carryOut_202 (by decide) (fun c4 => ?_) (fun c4 => ?_)
      · have h := (if_inv h).2 c4
        refine lv_aload_n hx hb dX11_carryOut_238 rfl (lv_at hl 2 rfl) ?_
        refine lv_aload_n hx hb dX11_carryOut_239 rfl (lv_at hl 1 rfl) ?_
        refine r_getA (j := 54) C hG FX11_35 rfl rfl dX11_carryOut_240 ?_
        refine r_getR (d := 3) C hG FX11_235 rfl rfl (by decide) dX11_carryOut_243 ?_
        refine lv_iload_n hx hb dX11_carryOut_246 rfl (lv_at hl 3 rfl) ?_
        refine r_ild C hG (N := 17) rfl (by decide) dX11_carryOut_247 h (fun x5 h => ?_)
        refine lv_iload hx hb dX11_carryOut_248 (lv_at hl 4 rfl) ?_
        refine r_callVI C hl.1 hG [.int x5, .int v4] [] (m9_order E l o1 hk1 x5 v4 g) LX11_340 hk1 KC9 rfl (rm_ok (by decide) (by decide)) (Nat.le_of_ble_eq_true rfl) ⟨Nat.le_refl _, Nat.le_refl _⟩ rfl dX11_carryOut_250 h (fun u6 H locs hG h => ?_)
        refine lv_pop hx hb dX11_carryOut_253 rfl ?_
        exact r_vret C hG hr dX11_carryOut_254 h
      · have h := (if_inv h).1 c4
        refine lv_aload_n hx hb dX11_carryOut_205 rfl (lv_at hl 2 rfl) ?_
        refine r_getR (d := 1) C hG FX11_292 hk1 rfl (by decide) dX11_carryOut_206 ?_
        refine lv_iload hx hb dX11_carryOut_209 (lv_at hl 4 rfl) ?_
        refine lv_aload_n hx hb dX11_carryOut_211 rfl (lv_at hl 2 rfl) ?_
        refine r_getR (d := 1) C hG FX11_292 hk1 rfl (by decide) dX11_carryOut_212 ?_
        refine lv_iload hx hb dX11_carryOut_215 (lv_at hl 4 rfl) ?_
        refine r_ild C hG (N := 10) (kR9_0 hk1) (by decide) dX11_carryOut_217 h (fun x7 h => ?_)
        refine lv_i2l hx hb dX11_carryOut_218 rfl ?_
        refine lv_iload hx hb dX11_carryOut_219 (lv_at hl 0 rfl) ?_
        refine lv_i2l hx hb dX11_carryOut_221 rfl ?_
        refine lv_lsub hx hb dX11_carryOut_222 ?_
        refine lv_iconst (v := 0) hx hb dX11_carryOut_223 (by decide) ?_
        refine lv_aload_n hx hb dX11_carryOut_224 rfl (lv_at hl 2 rfl) ?_
        refine r_getR (d := 2) C hG FX11_314 hk1 rfl (by decide) dX11_carryOut_225 ?_
        refine lv_iload hx hb dX11_carryOut_228 (lv_at hl 4 rfl) ?_
        refine r_ild C hG (N := 10) (kR9_1 hk1) (by decide) dX11_carryOut_230 h (fun x8 h => ?_)
        refine r_callSIP C hl.1 hG [.long (x7.toInt64 - t0.toInt64), .int 0, .int x8] [.int v4, .ref (E.ad (o1 + 1))] (m11_held E l (x7.toInt64 - t0.toInt64) 0 x8 g) LX11_336 rfl (rm_ok (by decide) (by decide)) (Nat.le_of_ble_eq_true rfl) ⟨Nat.le_refl _, Nat.le_refl _⟩ rfl dX11_carryOut_231 h (fun u9 H locs hG h => ?_)
        refine r_ist C hG (N := 10) (kR9_0 hk1) (by decide) dX11_carryOut_234 h (fun H locs g10 hG h => ?_)
        refine lv_goto (tgt := 254) hx hb dX11_carryOut_235 (by decide) ?_
        exact r_vret C hG hr dX11_carryOut_254 h
    · have h := (if_inv h).1 c2
      refine lv_aload_n hx hb dX11_carryOut_163 rfl (lv_at hl 2 rfl) ?_
      refine r_getR (d := 3) C hG FX11_293 hk1 rfl (by decide) dX11_carryOut_164 ?_
      refine lv_iload hx hb dX11_carryOut_167 (lv_at hl 4 rfl) ?_
      refine lv_aload_n hx hb dX11_carryOut_169 rfl (lv_at hl 2 rfl) ?_
      refine r_getR (d := 3) C hG FX11_293 hk1 rfl (by decide) dX11_carryOut_170 ?_
      refine lv_iload hx hb dX11_carryOut_173 (lv_at hl 4 rfl) ?_
      refine r_ild C hG (N := 10) (kR9_2 hk1) (by decide) dX11_carryOut_175 h (fun x11 h => ?_)
      refine lv_i2l hx hb dX11_carryOut_176 rfl ?_
      refine lv_iload hx hb dX11_carryOut_177 (lv_at hl 0 rfl) ?_
      refine lv_i2l hx hb dX11_carryOut_179 rfl ?_
      refine lv_ladd hx hb dX11_carryOut_180 ?_
      refine lv_bipush (v := (-90)) hx hb dX11_carryOut_181 (by decide) ?_
      refine lv_bipush (v := 90) hx hb dX11_carryOut_183 (by decide) ?_
      refine r_callSIP C hl.1 hG [.long (x11.toInt64 + t0.toInt64), .int (-90), .int 90] [.int v4, .ref (E.ad (o1 + 3))] (m11_held E l (x11.toInt64 + t0.toInt64) (-90) 90 g) LX11_336 rfl (rm_ok (by decide) (by decide)) (Nat.le_of_ble_eq_true rfl) ⟨Nat.le_refl _, Nat.le_refl _⟩ rfl dX11_carryOut_185 h (fun u12 H locs hG h => ?_)
      refine r_ist C hG (N := 10) (kR9_2 hk1) (by decide) dX11_carryOut_188 h (fun H locs g13 hG h => ?_)
      refine lv_goto (tgt := 254) hx hb dX11_carryOut_189 (by decide) ?_
      exact r_vret C hG hr dX11_carryOut_254 h
  have j106 : ∀ (v2 : Int32) (g : G) (H : Heap) (locs : List Loc) (ls : Array Slot), Gd E s H locs g [] → lv_has ls 6 [(0, .ref (E.ad 47)), (1, .ref (E.ad o1)), (2, .int v2)] → k11_carryOut_106 o1 v2 g = some u → W p l e (rmD 6 0 0) s m args below meth c H locs 0 0 (MQ below (QV E s.heap.size u) args s 0 0 (AA E s.heap.size)) (F0 m 106 ls []) := by
    intro v2 g H locs ls hG hl h
    unfold k11_carryOut_106 at h
    refine lv_aload_n hx hb dX11_carryOut_106 rfl (lv_at hl 0 rfl) ?_
    refine r_getA (j := 54) C hG FX11_35 rfl rfl dX11_carryOut_107 ?_
    refine r_getR (d := 4) C hG FX11_238 rfl rfl (by decide) dX11_carryOut_110 ?_
    refine lv_iload_n hx hb dX11_carryOut_113 rfl (lv_at hl 2 rfl) ?_
    refine r_ild C hG (N := 17) rfl (by decide) dX11_carryOut_114 h (fun x14 h => ?_)
    refine lv_istore (lv' := [(4, .int x14), (0, .ref (E.ad 47)), (1, .ref (E.ad o1)), (2, .int v2)]) hx hb dX11_carryOut_115 hl (by decide) rfl (fun ls hl => ?_)
    refine lv_aload_n hx hb dX11_carryOut_117 rfl (lv_at hl 1 rfl) ?_
    refine r_getA (j := 54) C hG FX11_35 rfl rfl dX11_carryOut_118 ?_
    refine r_getR (d := 7) C hG FX11_241 rfl rfl (by decide) dX11_carryOut_121 ?_
    refine lv_iload_n hx hb dX11_carryOut_124 rfl (lv_at hl 3 rfl) ?_
    refine r_ild C hG (N := 17) rfl (by decide) dX11_carryOut_125 h (fun x15 h => ?_)
    refine lv_iconst (v := (-1)) hx hb dX11_carryOut_126 (by decide) ?_
    refine lv_icmp_ne (tgt := 134) hx hb dX11_carryOut_127 (by decide) (fun c16 => ?_) (fun c16 => ?_)
    · have h := (if_inv h).2 c16
      refine lv_aload_n hx hb dX11_carryOut_134 rfl (lv_at hl 1 rfl) ?_
      refine r_getA (j := 78) C hG FX11_42 rfl rfl dX11_carryOut_135 ?_
      refine lv_aload_n hx hb dX11_carryOut_138 rfl (lv_at hl 1 rfl) ?_
      refine r_getA (j := 54) C hG FX11_35 rfl rfl dX11_carryOut_139 ?_
      refine r_getR (d := 7) C hG FX11_241 rfl rfl (by decide) dX11_carryOut_142 ?_
      refine lv_iload_n hx hb dX11_carryOut_145 rfl (lv_at hl 3 rfl) ?_
      refine r_ild C hG (N := 17) rfl (by decide) dX11_carryOut_146 h (fun x17 h => ?_)
      refine r_ild C hG (N := 800) rfl (by decide) dX11_carryOut_147 h (fun x18 h => ?_)
      exact j148 v2 x14 x18 g _ _ _ hG (lv_sub hl [1, 2, 3, 0] rfl) h
    · have h := (if_inv h).1 c16
      refine lv_iconst (v := 0) hx hb dX11_carryOut_130 (by decide) ?_
      refine lv_goto (tgt := 148) hx hb dX11_carryOut_131 (by decide) ?_
      exact j148 v2 x14 0 g _ _ _ hG (lv_sub hl [1, 2, 3, 0] rfl) h
  have j13 : ∀ f : Nat, ∀ (v2 : Int32) (v4 : Int32) (g : G) (H : Heap) (locs : List Loc) (ls : Array Slot), Gd E s H locs g [] → lv_has ls 6 [(0, .ref (E.ad 47)), (1, .ref (E.ad o1)), (2, .int v2), (4, .int v4)] → k11_carryOut_13 o1 f v2 v4 g = some u → W p l e (rmD 6 0 0) s m args below meth c H locs 0 0 (MQ below (QV E s.heap.size u) args s 0 0 (AA E s.heap.size)) (F0 m 13 ls []) := by
    intro f
    induction f with
    | zero =>
      intro v2 v4 g H locs ls hG hl h
      unfold k11_carryOut_13 at h
      cases h
    | succ f ih =>
      intro v2 v4 g H locs ls hG hl h
      unfold k11_carryOut_13 at h
      refine lv_iload hx hb dX11_carryOut_13 (lv_at hl 3 rfl) ?_
      refine lv_aload_n hx hb dX11_carryOut_15 rfl (lv_at hl 0 rfl) ?_
      refine r_getA (j := 54) C hG FX11_35 rfl rfl dX11_carryOut_16 ?_
      refine r_getR (d := 6) C hG FX11_245 rfl rfl (by decide) dX11_carryOut_19 ?_
      refine lv_iload_n hx hb dX11_carryOut_22 rfl (lv_at hl 2 rfl) ?_
      refine r_ild C hG (N := 17) rfl (by decide) dX11_carryOut_23 h (fun x19 h => ?_)
      refine lv_icmp_ge (tgt := 75) hx hb dX11_carryOut_24 (by decide) (fun c20 => ?_) (fun c20 => ?_)
      · have h := (if_inv h).1 c20
        refine lv_aload_n hx hb dX11_carryOut_75 rfl (lv_at hl 0 rfl) ?_
        refine r_getA (j := 54) C hG FX11_35 rfl rfl dX11_carryOut_76 ?_
        refine r_getR (d := 8) C hG FX11_243 rfl rfl (by decide) dX11_carryOut_79 ?_
        refine lv_iload_n hx hb dX11_carryOut_82 rfl (lv_at hl 2 rfl) ?_
        refine r_ild C hG (N := 17) rfl (by decide) dX11_carryOut_83 h (fun x21 h => ?_)
        refine lv_iconst (v := (-1)) hx hb dX11_carryOut_84 (by decide) ?_
        refine lv_icmp_eq (tgt := 106) hx hb dX11_carryOut_85 (by decide) (fun c22 => ?_) (fun c22 => ?_)
        · have h := (if_inv h).1 c22
          exact j106 v2 g _ _ _ hG (lv_sub hl [0, 1, 2] rfl) h
        · have h := (if_inv h).2 c22
          refine lv_aload_n hx hb dX11_carryOut_88 rfl (lv_at hl 0 rfl) ?_
          refine r_getA (j := 78) C hG FX11_42 rfl rfl dX11_carryOut_89 ?_
          refine lv_aload_n hx hb dX11_carryOut_92 rfl (lv_at hl 0 rfl) ?_
          refine r_getA (j := 54) C hG FX11_35 rfl rfl dX11_carryOut_93 ?_
          refine r_getR (d := 8) C hG FX11_243 rfl rfl (by decide) dX11_carryOut_96 ?_
          refine lv_iload_n hx hb dX11_carryOut_99 rfl (lv_at hl 2 rfl) ?_
          refine r_ild C hG (N := 17) rfl (by decide) dX11_carryOut_100 h (fun x23 h => ?_)
          refine r_ild C hG (N := 800) rfl (by decide) dX11_carryOut_101 h (fun x24 h => ?_)
          refine lv_if_ne (tgt := 106) hx hb dX11_carryOut_102 (by decide) (fun c25 => ?_) (fun c25 => ?_)
          · have h := (if_inv h).2 c25
            exact j106 v2 g _ _ _ hG (lv_sub hl [0, 1, 2] rfl) h
          · have h := (if_inv h).1 c25
            exact r_vret C hG hr dX11_carryOut_105 h
      · have h := (if_inv h).2 c20
        refine lv_aload_n hx hb dX11_carryOut_27 rfl (lv_at hl 0 rfl) ?_
        refine r_getA (j := 78) C hG FX11_42 rfl rfl dX11_carryOut_28 ?_
        refine lv_iload hx hb dX11_carryOut_31 (lv_at hl 3 rfl) ?_
        refine lv_aload_n hx hb dX11_carryOut_33 rfl (lv_at hl 0 rfl) ?_
        refine lv_aload_n hx hb dX11_carryOut_34 rfl (lv_at hl 1 rfl) ?_
        refine lv_aload_n hx hb dX11_carryOut_35 rfl (lv_at hl 0 rfl) ?_
        refine r_getA (j := 54) C hG FX11_35 rfl rfl dX11_carryOut_36 ?_
        refine r_getR (d := 9) C hG FX11_140 rfl rfl (by decide) dX11_carryOut_39 ?_
        refine lv_iload hx hb dX11_carryOut_42 (lv_at hl 3 rfl) ?_
        refine r_ild C hG (N := 800) rfl (by decide) dX11_carryOut_44 h (fun x26 h => ?_)
        refine lv_aload_n hx hb dX11_carryOut_45 rfl (lv_at hl 0 rfl) ?_
        refine r_getA (j := 54) C hG FX11_35 rfl rfl dX11_carryOut_46 ?_
        refine r_getR (d := 10) C hG FX11_143 rfl rfl (by decide) dX11_carryOut_49 ?_
        refine lv_iload hx hb dX11_carryOut_52 (lv_at hl 3 rfl) ?_
        refine r_ild C hG (N := 800) rfl (by decide) dX11_carryOut_54 h (fun x27 h => ?_)
        refine lv_aload_n hx hb dX11_carryOut_55 rfl (lv_at hl 0 rfl) ?_
        refine r_getA (j := 54) C hG FX11_35 rfl rfl dX11_carryOut_56 ?_
        refine r_getR (d := 11) C hG FX11_146 rfl rfl (by decide) dX11_carryOut_59 ?_
        refine lv_iload hx hb dX11_carryOut_62 (lv_at hl 3 rfl) ?_
        refine r_ild C hG (N := 800) rfl (by decide) dX11_carryOut_64 h (fun x28 h => ?_)
        refine r_callVI C hl.1 hG [.ref (E.ad o1), .int x26, .int x27, .int x28] [.int v4, .ref (E.ad 78)] (m11_reckon E l o1 hk1 x26 x27 x28 g) LX11_332 rfl KC11 rfl (rm_ok (by decide) (by decide)) (Nat.le_of_ble_eq_true rfl) ⟨Nat.le_refl _, Nat.le_refl _⟩ rfl dX11_carryOut_65 h (fun u29 H locs hG h => ?_)
        refine r_ist C hG (N := 800) rfl (by decide) dX11_carryOut_68 h (fun H locs g30 hG h => ?_)
        refine r_iinc (w := 1) (lv' := fun x31 => [(4, .int x31), (0, .ref (E.ad 47)), (1, .ref (E.ad o1)), (2, .int v2)]) C dX11_carryOut_69 hl (k := 3) rfl (by decide) (by decide) (fun _ => rfl) h (fun x31 ls hl h => ?_)
        refine lv_goto (tgt := 13) hx hb dX11_carryOut_72 (by decide) ?_
        exact ih v2 x31 g30 _ _ _ hG (lv_sub hl [1, 2, 3, 0] rfl) h
  refine lv_aload_n hx hb dX11_carryOut_0 rfl (lv_at hl 0 rfl) ?_
  refine r_getA (j := 54) C hG FX11_35 rfl rfl dX11_carryOut_1 ?_
  refine r_getR (d := 5) C hG FX11_232 rfl rfl (by decide) dX11_carryOut_4 ?_
  refine lv_iload_n hx hb dX11_carryOut_7 rfl (lv_at hl 2 rfl) ?_
  refine r_ild C hG (N := 17) rfl (by decide) dX11_carryOut_8 h (fun x32 h => ?_)
  refine lv_istore_n (lv' := [(3, .int x32), (0, .ref (E.ad 47)), (1, .ref (E.ad o1)), (2, .int a2)]) hx hb dX11_carryOut_9 rfl hl (by decide) rfl (fun ls hl => ?_)
  refine lv_iload_n hx hb dX11_carryOut_10 rfl (lv_at hl 0 rfl) ?_
  refine lv_istore (lv' := [(4, .int x32), (3, .int x32), (0, .ref (E.ad 47)), (1, .ref (E.ad o1)), (2, .int a2)]) hx hb dX11_carryOut_11 hl (by decide) rfl (fun ls hl => ?_)
  exact j13 FU a2 x32 g _ _ _ hG (lv_sub hl [2, 3, 4, 0] rfl) h
def k11_pass_2 (o1 : Nat) : Nat → Int32 → G → Option (Int32 × G)
  | 0, _, _ => none
  | f + 1, v2, g =>
        if (g 54 5) ≤ v2 then
          (k9_works o1 g).bind fun u2 =>
          bd u2.1 fun x3 =>
          bd (up u2.2 o1 8 ((u2.2 o1 8) + 1)) fun g4 =>
          zr x3 g4
        else
          (k11_carryOut o1 v2 g).bind fun g5 =>
          bd (v2 + 1) fun x6 =>
          k11_pass_2 o1 f x6 g5
def k11_pass (o1 : Nat) (g : G) : Option (Int32 × G) :=
  k11_pass_2 o1 FU 0 g
set_option maxRecDepth 100000 in
set_option maxHeartbeats 4000000 in
theorem m11_pass (E : EV) (l : Launch) (o1 : Nat) (hk1 : kd o1 = 9) (g : G) : ∀ u, k11_pass o1 g = some u → MI E l yX11_pass cX11_pass 3 (some .boolean) 7 0 0 [.ref (E.ad 47), .ref (E.ad o1)] g u := by
  intro u h
  refine MG.of (by decide +kernel) (Nat.le_of_ble_eq_true rfl) ?_
  intro p e s m args below meth c C hr hnm ls hl hG
  have C : Cx p s m args meth c cX11_pass 3 RX11 E := C
  have hx := C.1
  have hb := C.2.1
  have hl : lv_has ls 3 [(0, .ref (E.ad 47)), (1, .ref (E.ad o1))] := hl
  unfold k11_pass at h
  have j2 : ∀ f : Nat, ∀ (v2 : Int32) (g : G) (H : Heap) (locs : List Loc) (ls : Array Slot), Gd E s H locs g [] → lv_has ls 3 [(0, .ref (E.ad 47)), (1, .ref (E.ad o1)), (2, .int v2)] → k11_pass_2 o1 f v2 g = some u → W p l e (rmD 7 0 0) s m args below meth c H locs 0 0 (MQ below (QI E s.heap.size u.1 u.2) args s 0 0 (AA E s.heap.size)) (F0 m 2 ls []) := by
    intro f
    induction f with
    | zero =>
      intro v2 g H locs ls hG hl h
      unfold k11_pass_2 at h
      cases h
    | succ f ih =>
      intro v2 g H locs ls hG hl h
      unfold k11_pass_2 at h
      refine lv_iload_n hx hb dX11_pass_2 rfl (lv_at hl 2 rfl) ?_
      refine lv_aload_n hx hb dX11_pass_3 rfl (lv_at hl 0 rfl) ?_
      refine r_getA (j := 54) C hG FX11_35 rfl rfl dX11_pass_4 ?_
      refine r_getI C hG FX11_229 rfl rfl dX11_pass_7 ?_
      refine lv_icmp_ge (tgt := 25) hx hb dX11_pass_10 (by decide) (fun c1 => ?_) (fun c1 => ?_)
      · have h := (if_inv h).1 c1
        refine lv_aload_n hx hb dX11_pass_25 rfl (lv_at hl 1 rfl) ?_
        refine r_callVI C hl.1 hG [] [] (m9_works E l o1 hk1 g) LX11_346 hk1 KC9 rfl (rm_ok (by decide) (by decide)) (Nat.le_of_ble_eq_true rfl) ⟨Nat.le_refl _, Nat.le_refl _⟩ rfl dX11_pass_26 h (fun u2 H locs hG h => ?_)
        refine r_nm h (fun x3 h => ?_)
        refine lv_istore_n (lv' := [(2, .int x3), (0, .ref (E.ad 47)), (1, .ref (E.ad o1))]) hx hb dX11_pass_29 rfl hl (by decide) rfl (fun ls hl => ?_)
        refine lv_aload_n hx hb dX11_pass_30 rfl (lv_at hl 2 rfl) ?_
        refine lv_dup hx hb dX11_pass_31 rfl ?_
        refine r_getI C hG FX11_308 hk1 rfl dX11_pass_32 ?_
        refine lv_iconst (v := 1) hx hb dX11_pass_35 (by decide) ?_
        refine lv_iadd hx hb dX11_pass_36 ?_
        refine r_putI C hG FX11_308 hk1 rfl dX11_pass_37 h (fun H locs g4 hG h => ?_)
        refine lv_iload_n hx hb dX11_pass_40 rfl (lv_at hl 0 rfl) ?_
        exact r_zret C hG hr dX11_pass_41 h
      · have h := (if_inv h).2 c1
        refine lv_aload_n hx hb dX11_pass_13 rfl (lv_at hl 0 rfl) ?_
        refine lv_aload_n hx hb dX11_pass_14 rfl (lv_at hl 1 rfl) ?_
        refine lv_iload_n hx hb dX11_pass_15 rfl (lv_at hl 2 rfl) ?_
        refine r_callVV C hl.1 hG [.ref (E.ad o1), .int v2] [] (m11_carryOut E l o1 hk1 v2 g) LX11_342 rfl KC11 rfl (rm_ok (by decide) (by decide)) (Nat.le_of_ble_eq_true rfl) ⟨Nat.le_refl _, Nat.le_refl _⟩ rfl dX11_pass_16 h (fun g5 H locs hG h => ?_)
        refine r_iinc (w := 1) (lv' := fun x6 => [(2, .int x6), (0, .ref (E.ad 47)), (1, .ref (E.ad o1))]) C dX11_pass_19 hl (k := 2) rfl (by decide) (by decide) (fun _ => rfl) h (fun x6 ls hl h => ?_)
        refine lv_goto (tgt := 2) hx hb dX11_pass_22 (by decide) ?_
        exact ih x6 g5 _ _ _ hG (lv_sub hl [1, 2, 0] rfl) h
  refine lv_iconst (v := 0) hx hb dX11_pass_0 (by decide) ?_
  refine lv_istore_n (lv' := [(2, .int 0), (0, .ref (E.ad 47)), (1, .ref (E.ad o1))]) hx hb dX11_pass_1 rfl hl (by decide) rfl (fun ls hl => ?_)
  exact j2 FU 0 g _ _ _ hG (lv_sub hl [1, 2, 0] rfl) h
