def k11_feed_81  (K63 : (Nat → Int32) → Int32 → Int32 → G → Option (Int32 × G)) : Nat → (Nat → Int32) → Int32 → Int32 → Int32 → Int32 → G → Option (Int32 × G)
  | 0, _, _, _, _, _, _ => none
  | f + 1, wa, v8, v9, v10, v11, g =>
        if v11 < 0 then
          bd (v9 + 1) fun x2 =>
          K63 wa v8 x2 g
        else
          sto g 48 2000 (g 47 2) ((v10 >>> (v11 &&& 31)) &&& 255) fun g3 =>
          bd (up g3 47 2 ((g3 47 2) + 1)) fun g4 =>
          bd (v11 + (-8)) fun x5 =>
          k11_feed_81 K63 f wa v8 v9 v10 x5 g4
def k11_feed_63  : Nat → (Nat → Int32) → Int32 → Int32 → G → Option (Int32 × G)
  | 0, _, _, _, _ => none
  | f + 1, wa, v8, v9, g =>
        if v8 ≤ v9 then
          some ((g 47 2), g)
        else
          tld wa 5 v9 fun x7 =>
          k11_feed_81 (k11_feed_63 f) FU wa v8 v9 x7 24 g
def k11_feed  (a1 : Int32) (a2 : Int32) (a3 : Int32) (a4 : Int32) (a5 : Int32) (g : G) : Option (Int32 × G) :=
  bd (up g 47 0 0) fun g8 =>
  if ((g8 47 2) + 20) ≤ 2000 then
    tsto (fun _ => 0) 5 0 a1 fun w11 =>
    tsto w11 5 1 a2 fun w12 =>
    tsto w12 5 2 a3 fun w13 =>
    tsto w13 5 3 a4 fun w14 =>
    tsto w14 5 4 a5 fun w15 =>
    k11_feed_63 FU w15 5 0 g8
  else
    (k11_no 1 g8).bind fun u16 =>
    some (u16.1, u16.2)
set_option maxRecDepth 100000 in
set_option maxHeartbeats 4000000 in
theorem m11_feed (E : EV) (l : Launch) (a1 : Int32) (a2 : Int32) (a3 : Int32) (a4 : Int32) (a5 : Int32) (g : G) : ∀ u, k11_feed a1 a2 a3 a4 a5 g = some u → MI E l yX11_feed cX11_feed 12 (some .int) 1 1 5 [.ref (E.ad 47), .int a1, .int a2, .int a3, .int a4, .int a5] g u := by
  intro u h
  refine MG.of (by decide +kernel) (Nat.le_of_ble_eq_true rfl) ?_
  intro p e s m args below meth c C hr hnm ls hl hG
  have C : Cx p s m args meth c cX11_feed 12 RX11 E := C
  have hx := C.1
  have hb := C.2.1
  have hl : lv_has ls 12 [(0, .ref (E.ad 47)), (1, .int a1), (2, .int a2), (3, .int a3), (4, .int a4), (5, .int a5)] := hl
  unfold k11_feed at h
  have j81 : ∀ (K63 : (Nat → Int32) → Int32 → Int32 → G → Option (Int32 × G)), (∀ (wa : (Nat → Int32)) (v8 : Int32) (v9 : Int32) (g : G) (qa : Nat) (H : Heap) (locs : List Loc) (ls : Array Slot), Gd E s H locs g [tA E qa 5 wa] → lv_has ls 12 [(0, .ref (E.ad 47)), (7, .ref qa), (8, .int v8), (9, .int v9)] → K63 wa v8 v9 g = some u → W p l e (rmD 1 1 5) s m args below meth c H locs 1 5 (MQ below (QI E s.heap.size u.1 u.2) args s 1 5 (AA E s.heap.size)) (F0 m 63 ls [])) → ∀ f : Nat, ∀ (wa : (Nat → Int32)) (v8 : Int32) (v9 : Int32) (v10 : Int32) (v11 : Int32) (g : G) (qa : Nat) (H : Heap) (locs : List Loc) (ls : Array Slot), Gd E s H locs g [tA E qa 5 wa] → lv_has ls 12 [(0, .ref (E.ad 47)), (7, .ref qa), (8, .int v8), (9, .int v9), (10, .int v10), (11, .int v11)] → k11_feed_81 K63 f wa v8 v9 v10 v11 g = some u → W p l e (rmD 1 1 5) s m args below meth c H locs 1 5 (MQ below (QI E s.heap.size u.1 u.2) args s 1 5 (AA E s.heap.size)) (F0 m 81 ls []) := by
    intro K63 hK63 f
    induction f with
    | zero =>
      intro wa v8 v9 v10 v11 g qa H locs ls hG hl h
      unfold k11_feed_81 at h
      cases h
    | succ f ih =>
      intro wa v8 v9 v10 v11 g qa H locs ls hG hl h
      unfold k11_feed_81 at h
      refine lv_iload hx hb dX11_feed_81 (lv_at hl 5 rfl) ?_
      refine lv_if_lt (tgt := 120) hx hb dX11_feed_83 (by decide) (fun c1 => ?_) (fun c1 => ?_)
      · have h := (if_inv h).1 c1
        refine r_iinc (w := 1) (lv' := fun x2 => [(9, .int x2), (0, .ref (E.ad 47)), (7, .ref qa), (8, .int v8), (10, .int v10), (11, .int v11)]) C dX11_feed_120 hl (k := 3) rfl (by decide) (by decide) (fun _ => rfl) h (fun x2 ls hl h => ?_)
        refine lv_goto (tgt := 63) hx hb dX11_feed_123 (by decide) ?_
        exact hK63 wa v8 x2 g qa _ _ _ hG (lv_sub hl [1, 2, 3, 0] rfl) h
      · have h := (if_inv h).2 c1
        refine lv_aload_n hx hb dX11_feed_86 rfl (lv_at hl 0 rfl) ?_
        refine r_getA (j := 48) C hG FX11_9 rfl rfl dX11_feed_87 ?_
        refine lv_aload_n hx hb dX11_feed_90 rfl (lv_at hl 0 rfl) ?_
        refine r_getI C hG FX11_71 rfl rfl dX11_feed_91 ?_
        refine lv_iload hx hb dX11_feed_94 (lv_at hl 4 rfl) ?_
        refine lv_iload hx hb dX11_feed_96 (lv_at hl 5 rfl) ?_
        refine lv_ishr hx hb dX11_feed_98 ?_
        refine lv_sipush (v := 255) hx hb dX11_feed_99 (by decide) ?_
        refine lv_iand hx hb dX11_feed_102 ?_
        refine r_ist C hG (N := 2000) rfl (by decide) dX11_feed_103 h (fun H locs g3 hG h => ?_)
        refine lv_aload_n hx hb dX11_feed_104 rfl (lv_at hl 0 rfl) ?_
        refine lv_dup hx hb dX11_feed_105 rfl ?_
        refine r_getI C hG FX11_71 rfl rfl dX11_feed_106 ?_
        refine lv_iconst (v := 1) hx hb dX11_feed_109 (by decide) ?_
        refine lv_iadd hx hb dX11_feed_110 ?_
        refine r_putI C hG FX11_71 rfl rfl dX11_feed_111 h (fun H locs g4 hG h => ?_)
        refine r_iinc (w := (-8)) (lv' := fun x5 => [(11, .int x5), (0, .ref (E.ad 47)), (7, .ref qa), (8, .int v8), (9, .int v9), (10, .int v10)]) C dX11_feed_114 hl (k := 5) rfl (by decide) (by decide) (fun _ => rfl) h (fun x5 ls hl h => ?_)
        refine lv_goto (tgt := 81) hx hb dX11_feed_117 (by decide) ?_
        exact ih wa v8 v9 v10 x5 g4 qa _ _ _ hG (lv_sub hl [1, 2, 3, 4, 5, 0] rfl) h
  have j63 : ∀ f : Nat, ∀ (wa : (Nat → Int32)) (v8 : Int32) (v9 : Int32) (g : G) (qa : Nat) (H : Heap) (locs : List Loc) (ls : Array Slot), Gd E s H locs g [tA E qa 5 wa] → lv_has ls 12 [(0, .ref (E.ad 47)), (7, .ref qa), (8, .int v8), (9, .int v9)] → k11_feed_63 f wa v8 v9 g = some u → W p l e (rmD 1 1 5) s m args below meth c H locs 1 5 (MQ below (QI E s.heap.size u.1 u.2) args s 1 5 (AA E s.heap.size)) (F0 m 63 ls []) := by
    intro f
    induction f with
    | zero =>
      intro wa v8 v9 g qa H locs ls hG hl h
      unfold k11_feed_63 at h
      cases h
    | succ f ih =>
      intro wa v8 v9 g qa H locs ls hG hl h
      unfold k11_feed_63 at h
      refine lv_iload hx hb dX11_feed_63 (lv_at hl 3 rfl) ?_
      refine lv_iload hx hb dX11_feed_65 (lv_at hl 2 rfl) ?_
      refine lv_icmp_ge (tgt := 126) hx hb dX11_feed_67 (by decide) (fun c6 => ?_) (fun c6 => ?_)
      · have h := (if_inv h).1 c6
        refine lv_aload_n hx hb dX11_feed_126 rfl (lv_at hl 0 rfl) ?_
        refine r_getI C hG FX11_71 rfl rfl dX11_feed_127 ?_
        have hG := Gd_drop hG
        refine W.widen (k := 1) (n := 5) (by omega) (by omega) ?_
        exact r_iret C hG hr rfl dX11_feed_130 h
      · have h := (if_inv h).2 c6
        refine lv_aload hx hb dX11_feed_70 (lv_at hl 1 rfl) ?_
        refine lv_iload hx hb dX11_feed_72 (lv_at hl 3 rfl) ?_
        refine r_tld C hG dX11_feed_74 h (fun x7 h => ?_)
        refine lv_istore (lv' := [(10, .int x7), (0, .ref (E.ad 47)), (7, .ref qa), (8, .int v8), (9, .int v9)]) hx hb dX11_feed_75 hl (by decide) rfl (fun ls hl => ?_)
        refine lv_bipush (v := 24) hx hb dX11_feed_77 (by decide) ?_
        refine lv_istore (lv' := [(11, .int 24), (10, .int x7), (0, .ref (E.ad 47)), (7, .ref qa), (8, .int v8), (9, .int v9)]) hx hb dX11_feed_79 hl (by decide) rfl (fun ls hl => ?_)
        exact j81 (k11_feed_63 f) ih FU wa v8 v9 x7 24 g qa _ _ _ hG (lv_sub hl [2, 3, 4, 5, 1, 0] rfl) h
  refine lv_aload_n hx hb dX11_feed_0 rfl (lv_at hl 0 rfl) ?_
  refine lv_iconst (v := 0) hx hb dX11_feed_1 (by decide) ?_
  refine r_putI C hG FX11_64 rfl rfl dX11_feed_2 h (fun H locs g8 hG h => ?_)
  refine lv_aload_n hx hb dX11_feed_5 rfl (lv_at hl 0 rfl) ?_
  refine r_getI C hG FX11_71 rfl rfl dX11_feed_6 ?_
  refine lv_bipush (v := 20) hx hb dX11_feed_9 (by decide) ?_
  refine lv_iadd hx hb dX11_feed_11 ?_
  refine lv_sipush (v := 2000) hx hb dX11_feed_12 (by decide) ?_
  refine lv_icmp_le (tgt := 24) hx hb dX11_feed_15 (by decide) (fun c9 => ?_) (fun c9 => ?_)
  · have h := (if_inv h).1 c9
    refine lv_iconst (v := 5) hx hb dX11_feed_24 (by decide) ?_
    refine r_newI C hG 5 LAI (by decide) (by decide) (by show _ ≤ 1; omega) (by show _ ≤ 5; omega) dX11_feed_25 (fun q10 H hG => ?_)
    refine lv_dup hx hb dX11_feed_27 rfl ?_
    refine lv_iconst (v := 0) hx hb dX11_feed_28 (by decide) ?_
    refine lv_iload_n hx hb dX11_feed_29 rfl (lv_at hl 1 rfl) ?_
    refine r_tst C hG dX11_feed_30 h (fun w11 H locs hG h => ?_)
    refine lv_dup hx hb dX11_feed_31 rfl ?_
    refine lv_iconst (v := 1) hx hb dX11_feed_32 (by decide) ?_
    refine lv_iload_n hx hb dX11_feed_33 rfl (lv_at hl 2 rfl) ?_
    refine r_tst C hG dX11_feed_34 h (fun w12 H locs hG h => ?_)
    refine lv_dup hx hb dX11_feed_35 rfl ?_
    refine lv_iconst (v := 2) hx hb dX11_feed_36 (by decide) ?_
    refine lv_iload_n hx hb dX11_feed_37 rfl (lv_at hl 3 rfl) ?_
    refine r_tst C hG dX11_feed_38 h (fun w13 H locs hG h => ?_)
    refine lv_dup hx hb dX11_feed_39 rfl ?_
    refine lv_iconst (v := 3) hx hb dX11_feed_40 (by decide) ?_
    refine lv_iload hx hb dX11_feed_41 (lv_at hl 4 rfl) ?_
    refine r_tst C hG dX11_feed_43 h (fun w14 H locs hG h => ?_)
    refine lv_dup hx hb dX11_feed_44 rfl ?_
    refine lv_iconst (v := 4) hx hb dX11_feed_45 (by decide) ?_
    refine lv_iload hx hb dX11_feed_46 (lv_at hl 5 rfl) ?_
    refine r_tst C hG dX11_feed_48 h (fun w15 H locs hG h => ?_)
    refine lv_astore (lv' := [(6, .ref q10), (0, .ref (E.ad 47)), (1, .int a1), (2, .int a2), (3, .int a3), (4, .int a4), (5, .int a5)]) hx hb dX11_feed_49 hl (by decide) rfl (fun ls hl => ?_)
    refine lv_aload hx hb dX11_feed_51 (lv_at hl 0 rfl) ?_
    refine lv_astore (lv' := [(7, .ref q10), (6, .ref q10), (0, .ref (E.ad 47)), (1, .int a1), (2, .int a2), (3, .int a3), (4, .int a4), (5, .int a5)]) hx hb dX11_feed_53 hl (by decide) rfl (fun ls hl => ?_)
    refine lv_aload hx hb dX11_feed_55 (lv_at hl 0 rfl) ?_
    refine r_tln (v := 5) C hG rfl dX11_feed_57 ?_
    refine lv_istore (lv' := [(8, .int 5), (7, .ref q10), (6, .ref q10), (0, .ref (E.ad 47)), (1, .int a1), (2, .int a2), (3, .int a3), (4, .int a4), (5, .int a5)]) hx hb dX11_feed_58 hl (by decide) rfl (fun ls hl => ?_)
    refine lv_iconst (v := 0) hx hb dX11_feed_60 (by decide) ?_
    refine lv_istore (lv' := [(9, .int 0), (8, .int 5), (7, .ref q10), (6, .ref q10), (0, .ref (E.ad 47)), (1, .int a1), (2, .int a2), (3, .int a3), (4, .int a4), (5, .int a5)]) hx hb dX11_feed_61 hl (by decide) rfl (fun ls hl => ?_)
    exact j63 FU w15 5 0 g8 q10 _ _ _ hG (lv_sub hl [4, 2, 1, 0] rfl) h
  · have h := (if_inv h).2 c9
    refine lv_aload_n hx hb dX11_feed_18 rfl (lv_at hl 0 rfl) ?_
    refine lv_iconst (v := 1) hx hb dX11_feed_19 (by decide) ?_
    refine r_callVI C hl.1 hG [.int 1] [] (m11_no E l 1 g8) LX11_262 rfl KC11 rfl (rm_ok (by decide) (by decide)) (Nat.le_of_ble_eq_true rfl) ⟨by show _ ≤ 1; omega, by show _ ≤ 5; omega⟩ rfl dX11_feed_20 h (fun u16 H locs hG h => ?_)
    refine W.widen (k := 1) (n := 5) (by omega) (by omega) ?_
    exact r_iret C hG hr rfl dX11_feed_23 h
def k11_meanClarity_63  (t0 : UInt64) (g : G) : Option (UInt64 × G) :=
      some (t0, g)
def k11_meanClarity_9  : Nat → Int32 → Int32 → G → Option (UInt64 × G)
  | 0, _, _, _ => none
  | f + 1, v1, v2, g =>
        if (g 54 0) ≤ v2 then
          if (g 54 0) = 0 then
            k11_meanClarity_63 FP.dconst0 g
          else
            ddv (FP.i2d v1) (FP.i2d (g 54 0)) fun x3 =>
            k11_meanClarity_63 x3 g
        else
          ld g 80 10 v2 fun x4 =>
          bd (v1 + x4) fun x5 =>
          bd (v2 + 1) fun x6 =>
          k11_meanClarity_9 f x5 x6 g
def k11_meanClarity  (g : G) : Option (UInt64 × G) :=
  bd (up g 47 0 0) fun g7 =>
  k11_meanClarity_9 FU 0 0 g7
set_option maxRecDepth 100000 in
set_option maxHeartbeats 4000000 in
theorem m11_meanClarity (E : EV) (l : Launch) (g : G) : ∀ u, k11_meanClarity g = some u → MD E l yX11_meanClarity cX11_meanClarity 3 (some .double) 0 0 0 [.ref (E.ad 47)] g u := by
  intro u h
  refine MG.of (by decide +kernel) (Nat.le_of_ble_eq_true rfl) ?_
  intro p e s m args below meth c C hr hnm ls hl hG
  have C : Cx p s m args meth c cX11_meanClarity 3 RX11 E := C
  have hx := C.1
  have hb := C.2.1
  have hl : lv_has ls 3 [(0, .ref (E.ad 47))] := hl
  unfold k11_meanClarity at h
  have j63 : ∀ (t0 : UInt64) (g : G) (H : Heap) (locs : List Loc) (ls : Array Slot), Gd E s H locs g [] → lv_has ls 3 [] → k11_meanClarity_63 t0 g = some u → W p l e (rmD 0 0 0) s m args below meth c H locs 0 0 (MQ below (QD E s.heap.size u.1 u.2) args s 0 0 (AA E s.heap.size)) (F0 m 63 ls [.double t0]) := by
    intro t0 g H locs ls hG hl h
    unfold k11_meanClarity_63 at h
    exact r_dret C hG hr dX11_meanClarity_63 h
  have j9 : ∀ f : Nat, ∀ (v1 : Int32) (v2 : Int32) (g : G) (H : Heap) (locs : List Loc) (ls : Array Slot), Gd E s H locs g [] → lv_has ls 3 [(0, .ref (E.ad 47)), (1, .int v1), (2, .int v2)] → k11_meanClarity_9 f v1 v2 g = some u → W p l e (rmD 0 0 0) s m args below meth c H locs 0 0 (MQ below (QD E s.heap.size u.1 u.2) args s 0 0 (AA E s.heap.size)) (F0 m 9 ls []) := by
    intro f
    induction f with
    | zero =>
      intro v1 v2 g H locs ls hG hl h
      unfold k11_meanClarity_9 at h
      cases h
    | succ f ih =>
      intro v1 v2 g H locs ls hG hl h
      unfold k11_meanClarity_9 at h
      refine lv_iload_n hx hb dX11_meanClarity_9 rfl (lv_at hl 2 rfl) ?_
      refine lv_aload_n hx hb dX11_meanClarity_10 rfl (lv_at hl 0 rfl) ?_
      refine r_getA (j := 54) C hG FX11_35 rfl rfl dX11_meanClarity_11 ?_
      refine r_getI C hG FX11_149 rfl rfl dX11_meanClarity_14 ?_
      refine lv_icmp_ge (tgt := 38) hx hb dX11_meanClarity_17 (by decide) (fun c1 => ?_) (fun c1 => ?_)
      · have h := (if_inv h).1 c1
        refine lv_aload_n hx hb dX11_meanClarity_38 rfl (lv_at hl 0 rfl) ?_
        refine r_getA (j := 54) C hG FX11_35 rfl rfl dX11_meanClarity_39 ?_
        refine r_getI C hG FX11_149 rfl rfl dX11_meanClarity_42 ?_
        refine lv_if_ne (tgt := 52) hx hb dX11_meanClarity_45 (by decide) (fun c2 => ?_) (fun c2 => ?_)
        · have h := (if_inv h).2 c2
          refine lv_iload_n hx hb dX11_meanClarity_52 rfl (lv_at hl 1 rfl) ?_
          refine lv_i2d hx hb dX11_meanClarity_53 ?_
          refine lv_aload_n hx hb dX11_meanClarity_54 rfl (lv_at hl 0 rfl) ?_
          refine r_getA (j := 54) C hG FX11_35 rfl rfl dX11_meanClarity_55 ?_
          refine r_getI C hG FX11_149 rfl rfl dX11_meanClarity_58 ?_
          refine lv_i2d hx hb dX11_meanClarity_61 ?_
          refine r_ddiv C dX11_meanClarity_62 h (fun x3 h => ?_)
          exact j63 x3 g _ _ _ hG (lv_sub hl [] rfl) h
        · have h := (if_inv h).1 c2
          refine lv_dconst0 hx hb dX11_meanClarity_48 ?_
          refine lv_goto (tgt := 63) hx hb dX11_meanClarity_49 (by decide) ?_
          exact j63 FP.dconst0 g _ _ _ hG (lv_sub hl [] rfl) h
      · have h := (if_inv h).2 c1
        refine lv_iload_n hx hb dX11_meanClarity_20 rfl (lv_at hl 1 rfl) ?_
        refine lv_aload_n hx hb dX11_meanClarity_21 rfl (lv_at hl 0 rfl) ?_
        refine r_getA (j := 79) C hG FX11_48 rfl rfl dX11_meanClarity_22 ?_
        refine r_getR (d := 1) C hG FX11_292 rfl rfl (by decide) dX11_meanClarity_25 ?_
        refine lv_iload_n hx hb dX11_meanClarity_28 rfl (lv_at hl 2 rfl) ?_
        refine r_ild C hG (N := 10) rfl (by decide) dX11_meanClarity_29 h (fun x4 h => ?_)
        refine lv_iadd hx hb dX11_meanClarity_30 ?_
        refine r_nm h (fun x5 h => ?_)
        refine lv_istore_n (lv' := [(1, .int x5), (0, .ref (E.ad 47)), (2, .int v2)]) hx hb dX11_meanClarity_31 rfl hl (by decide) rfl (fun ls hl => ?_)
        refine r_iinc (w := 1) (lv' := fun x6 => [(2, .int x6), (1, .int x5), (0, .ref (E.ad 47))]) C dX11_meanClarity_32 hl (k := 2) rfl (by decide) (by decide) (fun _ => rfl) h (fun x6 ls hl h => ?_)
        refine lv_goto (tgt := 9) hx hb dX11_meanClarity_35 (by decide) ?_
        exact ih x5 x6 g _ _ _ hG (lv_sub hl [2, 1, 0] rfl) h
  refine lv_aload_n hx hb dX11_meanClarity_0 rfl (lv_at hl 0 rfl) ?_
  refine lv_iconst (v := 0) hx hb dX11_meanClarity_1 (by decide) ?_
  refine r_putI C hG FX11_64 rfl rfl dX11_meanClarity_2 h (fun H locs g7 hG h => ?_)
  refine lv_iconst (v := 0) hx hb dX11_meanClarity_5 (by decide) ?_
  refine lv_istore_n (lv' := [(1, .int 0), (0, .ref (E.ad 47))]) hx hb dX11_meanClarity_6 rfl hl (by decide) rfl (fun ls hl => ?_)
  refine lv_iconst (v := 0) hx hb dX11_meanClarity_7 (by decide) ?_
  refine lv_istore_n (lv' := [(2, .int 0), (1, .int 0), (0, .ref (E.ad 47))]) hx hb dX11_meanClarity_8 rfl hl (by decide) rfl (fun ls hl => ?_)
  exact j9 FU 0 0 g7 _ _ _ hG (lv_sub hl [2, 1, 0] rfl) h
def k11_digest_264  (K126 : Int64 → Int32 → G → Option (Int64 × G)) : Nat → (Nat → Int32) → Int64 → Int32 → Int32 → Int32 → G → Option (Int64 × G)
  | 0, _, _, _, _, _, _ => none
  | f + 1, wa, v3, v5, v8, v9, g =>
        if v8 ≤ v9 then
          bd (v5 + 1) fun x2 =>
          K126 v3 x2 g
        else
          tld wa 8 v9 fun x3 =>
          bd ((v3 * 31) + x3.toInt64) fun x4 =>
          bd (v9 + 1) fun x5 =>
          k11_digest_264 K126 f wa x4 v5 v8 x5 g
def k11_digest_249  (K126 : Int64 → Int32 → G → Option (Int64 × G)) (wa : (Nat → Int32)) (v3 : Int64) (v5 : Int32) (t0 : Int32) (t1 : Int32) (g : G) : Option (Int64 × G) :=
      tsto wa 8 t1 t0 fun w6 =>
      k11_digest_264 K126 FU w6 v3 v5 8 0 g
def k11_digest_344  : Nat → Int64 → Int32 → G → Option (Int64 × G)
  | 0, _, _, _ => none
  | f + 1, v3, v5, g =>
        if (g 79 6) ≤ v5 then
          bd (up g 47 0 0) fun g8 =>
          some (v3, g8)
        else
          ld g 84 12 v5 fun x9 =>
          ld g 85 12 v5 fun x10 =>
          bd ((((v3 * 31) + x9.toInt64) * 31) + x10.toInt64) fun x11 =>
          bd (v5 + 1) fun x12 =>
          k11_digest_344 f x11 x12 g
def k11_digest_126  : Nat → Int64 → Int32 → G → Option (Int64 × G)
  | 0, _, _, _ => none
  | f + 1, v3, v5, g =>
        if (g 54 0) ≤ v5 then
          bd ((((((v3 * 31) + (g 79 6).toInt64) * 31) + (g 79 9).toInt64) * 31) + (g 79 7).toInt64) fun x14 =>
          k11_digest_344 FU x14 0 g
        else
          ld g 80 10 v5 fun x16 =>
          tsto (fun _ => 0) 8 0 x16 fun w17 =>
          ld g 81 10 v5 fun x18 =>
          tsto w17 8 1 x18 fun w19 =>
          ld g 82 10 v5 fun x20 =>
          tsto w19 8 2 x20 fun w21 =>
          (k11_place v5 g).bind fun u22 =>
          tsto w21 8 3 u22 fun w23 =>
          ld g 94 10 v5 fun x24 =>
          tsto w23 8 4 x24 fun w25 =>
          ld g 93 10 v5 fun x26 =>
          ld g 94 10 v5 fun x27 =>
          tsto w25 8 5 (x26 - x27) fun w28 =>
          ld g 95 10 v5 fun x29 =>
          tsto w28 8 6 x29 fun w30 =>
          (k9_isCovered 79 v5 g).bind fun u31 =>
          if u31 = 0 then
            k11_digest_249 (k11_digest_126 f) w30 v3 v5 0 7 g
          else
            k11_digest_249 (k11_digest_126 f) w30 v3 v5 1 7 g
def k11_digest_93  : Nat → (Nat → Int32) → Int64 → Int32 → Int32 → G → Option (Int64 × G)
  | 0, _, _, _, _, _ => none
  | f + 1, wa, v3, v6, v7, g =>
        if v6 ≤ v7 then
          k11_digest_126 11 v3 0 g
        else
          tld wa 7 v7 fun x34 =>
          bd ((v3 * 31) + x34.toInt64) fun x35 =>
          bd (v7 + 1) fun x36 =>
          k11_digest_93 f wa x35 v6 x36 g
def k11_digest_76  (wa : (Nat → Int32)) (t0 : Int32) (t1 : Int32) (g : G) : Option (Int64 × G) :=
      tsto wa 7 t1 t0 fun w37 =>
      k11_digest_93 FU w37 983 7 0 g
def k11_digest  (g : G) : Option (Int64 × G) :=
  (k11_seen 79 g).bind fun u38 =>
  bd u38.1 fun x39 =>
  tsto (fun _ => 0) 7 0 (u38.2 54 0) fun w41 =>
  tsto w41 7 1 (u38.2 54 5) fun w42 =>
  tsto w42 7 2 (u38.2 79 8) fun w43 =>
  tsto w43 7 3 (u38.2 47 2) fun w44 =>
  tsto w44 7 4 (u38.2 47 22) fun w45 =>
  tsto w45 7 5 (u38.2 47 23) fun w46 =>
  if x39 = 0 then
    k11_digest_76 w46 0 6 u38.2
  else
    k11_digest_76 w46 1 6 u38.2
set_option maxRecDepth 100000 in
set_option maxHeartbeats 4000000 in
theorem m11_digest (E : EV) (l : Launch) (g : G) : ∀ u, k11_digest g = some u → ML E l yX11_digest cX11_digest 11 (some .long) 5 12 95 [.ref (E.ad 47)] g u := by
  intro u h
  refine MG.of (by decide +kernel) (Nat.le_of_ble_eq_true rfl) ?_
  intro p e s m args below meth c C hr hnm ls hl hG
  have C : Cx p s m args meth c cX11_digest 11 RX11 E := C
  have hx := C.1
  have hb := C.2.1
  have hl : lv_has ls 11 [(0, .ref (E.ad 47))] := hl
  unfold k11_digest at h
  have j264 : ∀ (cl sl : Nat), ∀ (K126 : Int64 → Int32 → G → Option (Int64 × G)), (∀ (v3 : Int64) (v5 : Int32) (g : G) (H : Heap) (locs : List Loc) (ls : Array Slot), Gd E s H locs g [] → lv_has ls 11 [(0, .ref (E.ad 47)), (3, .long v3), (5, .int v5)] → K126 v3 v5 g = some u → W p l e (rmD 5 12 95) s m args below meth c H locs cl sl (MQ below (QL E s.heap.size u.1 u.2) args s 12 95 (AA E s.heap.size)) (F0 m 126 ls [])) → ∀ f : Nat, ∀ (wa : (Nat → Int32)) (v3 : Int64) (v5 : Int32) (v8 : Int32) (v9 : Int32) (g : G) (qa : Nat) (H : Heap) (locs : List Loc) (ls : Array Slot), Gd E s H locs g [tA E qa 8 wa] → lv_has ls 11 [(0, .ref (E.ad 47)), (3, .long v3), (5, .int v5), (7, .ref qa), (8, .int v8), (9, .int v9)] → k11_digest_264 K126 f wa v3 v5 v8 v9 g = some u → W p l e (rmD 5 12 95) s m args below meth c H locs cl sl (MQ below (QL E s.heap.size u.1 u.2) args s 12 95 (AA E s.heap.size)) (F0 m 264 ls []) := by
    intro cl sl K126 hK126 f
    induction f with
    | zero =>
      intro wa v3 v5 v8 v9 g qa H locs ls hG hl h
      unfold k11_digest_264 at h
      cases h
    | succ f ih =>
      intro wa v3 v5 v8 v9 g qa H locs ls hG hl h
      unfold k11_digest_264 at h
      refine lv_iload hx hb dX11_digest_264 (lv_at hl 5 rfl) ?_
      refine lv_iload hx hb dX11_digest_266 (lv_at hl 4 rfl) ?_
      refine lv_icmp_ge (tgt := 294) hx hb dX11_digest_268 (by decide) (fun c1 => ?_) (fun c1 => ?_)
      · have h := (if_inv h).1 c1
        refine r_iinc (w := 1) (lv' := fun x2 => [(5, .int x2), (0, .ref (E.ad 47)), (3, .long v3), (7, .ref qa), (8, .int v8), (9, .int v9)]) C dX11_digest_294 hl (k := 2) rfl (by decide) (by decide) (fun _ => rfl) h (fun x2 ls hl h => ?_)
        refine lv_goto (tgt := 126) hx hb dX11_digest_297 (by decide) ?_
        have hG := Gd_drop hG
        exact hK126 v3 x2 g _ _ _ hG (lv_sub hl [1, 2, 0] rfl) h
      · have h := (if_inv h).2 c1
        refine lv_aload hx hb dX11_digest_271 (lv_at hl 3 rfl) ?_
        refine lv_iload hx hb dX11_digest_273 (lv_at hl 5 rfl) ?_
        refine r_tld C hG dX11_digest_275 h (fun x3 h => ?_)
        refine lv_istore (lv' := [(10, .int x3), (0, .ref (E.ad 47)), (3, .long v3), (5, .int v5), (7, .ref qa), (8, .int v8), (9, .int v9)]) hx hb dX11_digest_276 hl (by decide) rfl (fun ls hl => ?_)
        refine lv_lload_n hx hb dX11_digest_278 rfl (lv_at hl 2 rfl) ?_
        refine lv_ldc2 (v := 31) hx hb C.2.2.2.1 (C.2.2.2.2.1 _ LC11_382) dX11_digest_279 ?_
        refine lv_lmul hx hb dX11_digest_282 ?_
        refine lv_iload hx hb dX11_digest_283 (lv_at hl 0 rfl) ?_
        refine lv_i2l hx hb dX11_digest_285 rfl ?_
        refine lv_ladd hx hb dX11_digest_286 ?_
        refine r_nmL h (fun x4 h => ?_)
        refine lv_lstore_n (lv' := [(3, .long x4), (10, .int x3), (0, .ref (E.ad 47)), (5, .int v5), (7, .ref qa), (8, .int v8), (9, .int v9)]) hx hb dX11_digest_287 rfl hl (by decide) rfl (fun ls hl => ?_)
        refine r_iinc (w := 1) (lv' := fun x5 => [(9, .int x5), (3, .long x4), (10, .int x3), (0, .ref (E.ad 47)), (5, .int v5), (7, .ref qa), (8, .int v8)]) C dX11_digest_288 hl (k := 6) rfl (by decide) (by decide) (fun _ => rfl) h (fun x5 ls hl h => ?_)
        refine lv_goto (tgt := 264) hx hb dX11_digest_291 (by decide) ?_
        exact ih wa x4 v5 v8 x5 g qa _ _ _ hG (lv_sub hl [3, 1, 4, 5, 6, 0] rfl) h
  have j249 : ∀ (cl sl : Nat), ∀ (K126 : Int64 → Int32 → G → Option (Int64 × G)), (∀ (v3 : Int64) (v5 : Int32) (g : G) (H : Heap) (locs : List Loc) (ls : Array Slot), Gd E s H locs g [] → lv_has ls 11 [(0, .ref (E.ad 47)), (3, .long v3), (5, .int v5)] → K126 v3 v5 g = some u → W p l e (rmD 5 12 95) s m args below meth c H locs cl sl (MQ below (QL E s.heap.size u.1 u.2) args s 12 95 (AA E s.heap.size)) (F0 m 126 ls [])) → ∀ (wa : (Nat → Int32)) (v3 : Int64) (v5 : Int32) (t0 : Int32) (t1 : Int32) (g : G) (qa : Nat) (H : Heap) (locs : List Loc) (ls : Array Slot), Gd E s H locs g [tA E qa 8 wa] → lv_has ls 11 [(0, .ref (E.ad 47)), (3, .long v3), (5, .int v5)] → k11_digest_249 K126 wa v3 v5 t0 t1 g = some u → W p l e (rmD 5 12 95) s m args below meth c H locs cl sl (MQ below (QL E s.heap.size u.1 u.2) args s 12 95 (AA E s.heap.size)) (F0 m 249 ls [.int t0, .int t1, .ref qa, .ref qa]) := by
    intro cl sl K126 hK126 wa v3 v5 t0 t1 g qa H locs ls hG hl h
    unfold k11_digest_249 at h
    refine r_tst C hG dX11_digest_249 h (fun w6 H locs hG h => ?_)
    refine lv_astore (lv' := [(6, .ref qa), (0, .ref (E.ad 47)), (3, .long v3), (5, .int v5)]) hx hb dX11_digest_250 hl (by decide) rfl (fun ls hl => ?_)
    refine lv_aload hx hb dX11_digest_252 (lv_at hl 0 rfl) ?_
    refine lv_astore (lv' := [(7, .ref qa), (6, .ref qa), (0, .ref (E.ad 47)), (3, .long v3), (5, .int v5)]) hx hb dX11_digest_254 hl (by decide) rfl (fun ls hl => ?_)
    refine lv_aload hx hb dX11_digest_256 (lv_at hl 0 rfl) ?_
    refine r_tln (v := 8) C hG rfl dX11_digest_258 ?_
    refine lv_istore (lv' := [(8, .int 8), (7, .ref qa), (6, .ref qa), (0, .ref (E.ad 47)), (3, .long v3), (5, .int v5)]) hx hb dX11_digest_259 hl (by decide) rfl (fun ls hl => ?_)
    refine lv_iconst (v := 0) hx hb dX11_digest_261 (by decide) ?_
    refine lv_istore (lv' := [(9, .int 0), (8, .int 8), (7, .ref qa), (6, .ref qa), (0, .ref (E.ad 47)), (3, .long v3), (5, .int v5)]) hx hb dX11_digest_262 hl (by decide) rfl (fun ls hl => ?_)
    exact j264 cl sl K126 hK126 FU w6 v3 v5 8 0 g qa _ _ _ hG (lv_sub hl [4, 5, 6, 2, 1, 0] rfl) h
  have j344 : ∀ f : Nat, ∀ (v3 : Int64) (v5 : Int32) (g : G) (H : Heap) (locs : List Loc) (ls : Array Slot), Gd E s H locs g [] → lv_has ls 11 [(0, .ref (E.ad 47)), (3, .long v3), (5, .int v5)] → k11_digest_344 f v3 v5 g = some u → W p l e (rmD 5 12 95) s m args below meth c H locs 12 95 (MQ below (QL E s.heap.size u.1 u.2) args s 12 95 (AA E s.heap.size)) (F0 m 344 ls []) := by
    intro f
    induction f with
    | zero =>
      intro v3 v5 g H locs ls hG hl h
      unfold k11_digest_344 at h
      cases h
    | succ f ih =>
      intro v3 v5 g H locs ls hG hl h
      unfold k11_digest_344 at h
      refine lv_iload hx hb dX11_digest_344 (lv_at hl 2 rfl) ?_
      refine lv_aload_n hx hb dX11_digest_346 rfl (lv_at hl 0 rfl) ?_
      refine r_getA (j := 79) C hG FX11_48 rfl rfl dX11_digest_347 ?_
      refine r_getI C hG FX11_311 rfl rfl dX11_digest_350 ?_
      refine lv_icmp_ge (tgt := 396) hx hb dX11_digest_353 (by decide) (fun c7 => ?_) (fun c7 => ?_)
      · have h := (if_inv h).1 c7
        refine lv_aload_n hx hb dX11_digest_396 rfl (lv_at hl 0 rfl) ?_
        refine lv_iconst (v := 0) hx hb dX11_digest_397 (by decide) ?_
        refine r_putI C hG FX11_64 rfl rfl dX11_digest_398 h (fun H locs g8 hG h => ?_)
        refine lv_lload_n hx hb dX11_digest_401 rfl (lv_at hl 1 rfl) ?_
        refine W.widen (k := 12) (n := 95) (by omega) (by omega) ?_
        exact r_lret C hG hr dX11_digest_402 h
      · have h := (if_inv h).2 c7
        refine lv_lload_n hx hb dX11_digest_356 rfl (lv_at hl 1 rfl) ?_
        refine lv_ldc2 (v := 31) hx hb C.2.2.2.1 (C.2.2.2.2.1 _ LC11_382) dX11_digest_357 ?_
        refine lv_lmul hx hb dX11_digest_360 ?_
        refine lv_aload_n hx hb dX11_digest_361 rfl (lv_at hl 0 rfl) ?_
        refine r_getA (j := 79) C hG FX11_48 rfl rfl dX11_digest_362 ?_
        refine r_getR (d := 5) C hG FX11_361 rfl rfl (by decide) dX11_digest_365 ?_
        refine lv_iload hx hb dX11_digest_368 (lv_at hl 2 rfl) ?_
        refine r_ild C hG (N := 12) rfl (by decide) dX11_digest_370 h (fun x9 h => ?_)
        refine lv_i2l hx hb dX11_digest_371 rfl ?_
        refine lv_ladd hx hb dX11_digest_372 ?_
        refine lv_ldc2 (v := 31) hx hb C.2.2.2.1 (C.2.2.2.2.1 _ LC11_382) dX11_digest_373 ?_
        refine lv_lmul hx hb dX11_digest_376 ?_
        refine lv_aload_n hx hb dX11_digest_377 rfl (lv_at hl 0 rfl) ?_
        refine r_getA (j := 79) C hG FX11_48 rfl rfl dX11_digest_378 ?_
        refine r_getR (d := 6) C hG FX11_364 rfl rfl (by decide) dX11_digest_381 ?_
        refine lv_iload hx hb dX11_digest_384 (lv_at hl 2 rfl) ?_
        refine r_ild C hG (N := 12) rfl (by decide) dX11_digest_386 h (fun x10 h => ?_)
        refine lv_i2l hx hb dX11_digest_387 rfl ?_
        refine lv_ladd hx hb dX11_digest_388 ?_
        refine r_nmL h (fun x11 h => ?_)
        refine lv_lstore_n (lv' := [(3, .long x11), (0, .ref (E.ad 47)), (5, .int v5)]) hx hb dX11_digest_389 rfl hl (by decide) rfl (fun ls hl => ?_)
        refine r_iinc (w := 1) (lv' := fun x12 => [(5, .int x12), (3, .long x11), (0, .ref (E.ad 47))]) C dX11_digest_390 hl (k := 2) rfl (by decide) (by decide) (fun _ => rfl) h (fun x12 ls hl h => ?_)
        refine lv_goto (tgt := 344) hx hb dX11_digest_393 (by decide) ?_
        exact ih x11 x12 g _ _ _ hG (lv_sub hl [2, 1, 0] rfl) h
  have j126 : ∀ f : Nat, f ≤ 11 → ∀ (v3 : Int64) (v5 : Int32) (g : G) (H : Heap) (locs : List Loc) (ls : Array Slot), Gd E s H locs g [] → lv_has ls 11 [(0, .ref (E.ad 47)), (3, .long v3), (5, .int v5)] → k11_digest_126 f v3 v5 g = some u → W p l e (rmD 5 12 95) s m args below meth c H locs (12 - f) (95 - 8 * f) (MQ below (QL E s.heap.size u.1 u.2) args s 12 95 (AA E s.heap.size)) (F0 m 126 ls []) := by
    intro f
    induction f with
    | zero =>
      intro hf v3 v5 g H locs ls hG hl h
      unfold k11_digest_126 at h
      cases h
    | succ f ih =>
      intro hf v3 v5 g H locs ls hG hl h
      unfold k11_digest_126 at h
      refine lv_iload hx hb dX11_digest_126 (lv_at hl 2 rfl) ?_
      refine lv_aload_n hx hb dX11_digest_128 rfl (lv_at hl 0 rfl) ?_
      refine r_getA (j := 54) C hG FX11_35 rfl rfl dX11_digest_129 ?_
      refine r_getI C hG FX11_149 rfl rfl dX11_digest_132 ?_
      refine lv_icmp_ge (tgt := 300) hx hb dX11_digest_135 (by decide) (fun c13 => ?_) (fun c13 => ?_)
      · have h := (if_inv h).1 c13
        refine lv_lload_n hx hb dX11_digest_300 rfl (lv_at hl 1 rfl) ?_
        refine lv_ldc2 (v := 31) hx hb C.2.2.2.1 (C.2.2.2.2.1 _ LC11_382) dX11_digest_301 ?_
        refine lv_lmul hx hb dX11_digest_304 ?_
        refine lv_aload_n hx hb dX11_digest_305 rfl (lv_at hl 0 rfl) ?_
        refine r_getA (j := 79) C hG FX11_48 rfl rfl dX11_digest_306 ?_
        refine r_getI C hG FX11_311 rfl rfl dX11_digest_309 ?_
        refine lv_i2l hx hb dX11_digest_312 rfl ?_
        refine lv_ladd hx hb dX11_digest_313 ?_
        refine lv_ldc2 (v := 31) hx hb C.2.2.2.1 (C.2.2.2.2.1 _ LC11_382) dX11_digest_314 ?_
        refine lv_lmul hx hb dX11_digest_317 ?_
        refine lv_aload_n hx hb dX11_digest_318 rfl (lv_at hl 0 rfl) ?_
        refine r_getA (j := 79) C hG FX11_48 rfl rfl dX11_digest_319 ?_
        refine r_getI C hG FX11_355 rfl rfl dX11_digest_322 ?_
        refine lv_i2l hx hb dX11_digest_325 rfl ?_
        refine lv_ladd hx hb dX11_digest_326 ?_
        refine lv_ldc2 (v := 31) hx hb C.2.2.2.1 (C.2.2.2.2.1 _ LC11_382) dX11_digest_327 ?_
        refine lv_lmul hx hb dX11_digest_330 ?_
        refine lv_aload_n hx hb dX11_digest_331 rfl (lv_at hl 0 rfl) ?_
        refine r_getA (j := 79) C hG FX11_48 rfl rfl dX11_digest_332 ?_
        refine r_getI C hG FX11_367 rfl rfl dX11_digest_335 ?_
        refine lv_i2l hx hb dX11_digest_338 rfl ?_
        refine lv_ladd hx hb dX11_digest_339 ?_
        refine r_nmL h (fun x14 h => ?_)
        refine lv_lstore_n (lv' := [(3, .long x14), (0, .ref (E.ad 47)), (5, .int v5)]) hx hb dX11_digest_340 rfl hl (by decide) rfl (fun ls hl => ?_)
        refine lv_iconst (v := 0) hx hb dX11_digest_341 (by decide) ?_
        refine lv_istore (lv' := [(5, .int 0), (3, .long x14), (0, .ref (E.ad 47))]) hx hb dX11_digest_342 hl (by decide) rfl (fun ls hl => ?_)
        refine W.widen (k := 12) (n := 95) (by omega) (by omega) ?_
        exact j344 FU x14 0 g _ _ _ hG (lv_sub hl [2, 1, 0] rfl) h
      · have h := (if_inv h).2 c13
        refine lv_bipush (v := 8) hx hb dX11_digest_138 (by decide) ?_
        refine r_newI C hG 8 LAI (by decide) (by decide) (by show _ ≤ 12; omega) (by show _ ≤ 95; omega) dX11_digest_140 (fun q15 H hG => ?_)
        refine W.widen (k := 12 - f) (n := 95 - 8 * f) (by omega) (by omega) ?_
        refine lv_dup hx hb dX11_digest_142 rfl ?_
        refine lv_iconst (v := 0) hx hb dX11_digest_143 (by decide) ?_
        refine lv_aload_n hx hb dX11_digest_144 rfl (lv_at hl 0 rfl) ?_
        refine r_getA (j := 79) C hG FX11_48 rfl rfl dX11_digest_145 ?_
        refine r_getR (d := 1) C hG FX11_292 rfl rfl (by decide) dX11_digest_148 ?_
        refine lv_iload hx hb dX11_digest_151 (lv_at hl 2 rfl) ?_
        refine r_ild C hG (N := 10) rfl (by decide) dX11_digest_153 h (fun x16 h => ?_)
        refine r_tst C hG dX11_digest_154 h (fun w17 H locs hG h => ?_)
        refine lv_dup hx hb dX11_digest_155 rfl ?_
        refine lv_iconst (v := 1) hx hb dX11_digest_156 (by decide) ?_
        refine lv_aload_n hx hb dX11_digest_157 rfl (lv_at hl 0 rfl) ?_
        refine r_getA (j := 79) C hG FX11_48 rfl rfl dX11_digest_158 ?_
        refine r_getR (d := 2) C hG FX11_314 rfl rfl (by decide) dX11_digest_161 ?_
        refine lv_iload hx hb dX11_digest_164 (lv_at hl 2 rfl) ?_
        refine r_ild C hG (N := 10) rfl (by decide) dX11_digest_166 h (fun x18 h => ?_)
        refine r_tst C hG dX11_digest_167 h (fun w19 H locs hG h => ?_)
        refine lv_dup hx hb dX11_digest_168 rfl ?_
        refine lv_iconst (v := 2) hx hb dX11_digest_169 (by decide) ?_
        refine lv_aload_n hx hb dX11_digest_170 rfl (lv_at hl 0 rfl) ?_
        refine r_getA (j := 79) C hG FX11_48 rfl rfl dX11_digest_171 ?_
        refine r_getR (d := 3) C hG FX11_293 rfl rfl (by decide) dX11_digest_174 ?_
        refine lv_iload hx hb dX11_digest_177 (lv_at hl 2 rfl) ?_
        refine r_ild C hG (N := 10) rfl (by decide) dX11_digest_179 h (fun x20 h => ?_)
        refine r_tst C hG dX11_digest_180 h (fun w21 H locs hG h => ?_)
        refine lv_dup hx hb dX11_digest_181 rfl ?_
        refine lv_iconst (v := 3) hx hb dX11_digest_182 (by decide) ?_
        refine lv_aload_n hx hb dX11_digest_183 rfl (lv_at hl 0 rfl) ?_
        refine lv_iload hx hb dX11_digest_184 (lv_at hl 2 rfl) ?_
        refine r_callVIP C hl.1 hG [.int v5] [.int 3, .ref q15, .ref q15] (m11_place E l v5 g) LX11_352 rfl KC11 rfl (rm_ok (by decide) (by decide)) (Nat.le_of_ble_eq_true rfl) ⟨by show _ ≤ 12; omega, by show _ ≤ 95; omega⟩ rfl dX11_digest_186 h (fun u22 H locs hG h => ?_)
        refine r_tst C hG dX11_digest_189 h (fun w23 H locs hG h => ?_)
        refine lv_dup hx hb dX11_digest_190 rfl ?_
        refine lv_iconst (v := 4) hx hb dX11_digest_191 (by decide) ?_
        refine lv_aload_n hx hb dX11_digest_192 rfl (lv_at hl 0 rfl) ?_
        refine r_getA (j := 94) C hG FX11_58 rfl rfl dX11_digest_193 ?_
        refine lv_iload hx hb dX11_digest_196 (lv_at hl 2 rfl) ?_
        refine r_ild C hG (N := 10) rfl (by decide) dX11_digest_198 h (fun x24 h => ?_)
        refine r_tst C hG dX11_digest_199 h (fun w25 H locs hG h => ?_)
        refine lv_dup hx hb dX11_digest_200 rfl ?_
        refine lv_iconst (v := 5) hx hb dX11_digest_201 (by decide) ?_
        refine lv_aload_n hx hb dX11_digest_202 rfl (lv_at hl 0 rfl) ?_
        refine r_getA (j := 93) C hG FX11_55 rfl rfl dX11_digest_203 ?_
        refine lv_iload hx hb dX11_digest_206 (lv_at hl 2 rfl) ?_
        refine r_ild C hG (N := 10) rfl (by decide) dX11_digest_208 h (fun x26 h => ?_)
        refine lv_aload_n hx hb dX11_digest_209 rfl (lv_at hl 0 rfl) ?_
        refine r_getA (j := 94) C hG FX11_58 rfl rfl dX11_digest_210 ?_
        refine lv_iload hx hb dX11_digest_213 (lv_at hl 2 rfl) ?_
        refine r_ild C hG (N := 10) rfl (by decide) dX11_digest_215 h (fun x27 h => ?_)
        refine lv_isub hx hb dX11_digest_216 ?_
        refine r_tst C hG dX11_digest_217 h (fun w28 H locs hG h => ?_)
        refine lv_dup hx hb dX11_digest_218 rfl ?_
        refine lv_bipush (v := 6) hx hb dX11_digest_219 (by decide) ?_
        refine lv_aload_n hx hb dX11_digest_221 rfl (lv_at hl 0 rfl) ?_
        refine r_getA (j := 95) C hG FX11_61 rfl rfl dX11_digest_222 ?_
        refine lv_iload hx hb dX11_digest_225 (lv_at hl 2 rfl) ?_
        refine r_ild C hG (N := 10) rfl (by decide) dX11_digest_227 h (fun x29 h => ?_)
        refine r_tst C hG dX11_digest_228 h (fun w30 H locs hG h => ?_)
        refine lv_dup hx hb dX11_digest_229 rfl ?_
        refine lv_bipush (v := 7) hx hb dX11_digest_230 (by decide) ?_
        refine lv_aload_n hx hb dX11_digest_232 rfl (lv_at hl 0 rfl) ?_
        refine r_getA (j := 79) C hG FX11_48 rfl rfl dX11_digest_233 ?_
        refine lv_iload hx hb dX11_digest_236 (lv_at hl 2 rfl) ?_
        refine r_callVIP C hl.1 hG [.int v5] [.int 7, .ref q15, .ref q15] (m9_isCovered E l 79 rfl v5 g) LX11_289 rfl KC9 rfl (rm_ok (by decide) (by decide)) (Nat.le_of_ble_eq_true rfl) ⟨by show _ ≤ 12; omega, by show _ ≤ 95; omega⟩ rfl dX11_digest_238 h (fun u31 H locs hG h => ?_)
        refine lv_if_eq (tgt := 248) hx hb dX11_digest_241 (by decide) (fun c32 => ?_) (fun c32 => ?_)
        · have h := (if_inv h).1 c32
          refine lv_iconst (v := 0) hx hb dX11_digest_248 (by decide) ?_
          exact j249 (12 - f) (95 - 8 * f) (k11_digest_126 f) (ih (by omega)) w30 v3 v5 0 7 g q15 _ _ _ hG (lv_sub hl [0, 1, 2] rfl) h
        · have h := (if_inv h).2 c32
          refine lv_iconst (v := 1) hx hb dX11_digest_244 (by decide) ?_
          refine lv_goto (tgt := 249) hx hb dX11_digest_245 (by decide) ?_
          exact j249 (12 - f) (95 - 8 * f) (k11_digest_126 f) (ih (by omega)) w30 v3 v5 1 7 g q15 _ _ _ hG (lv_sub hl [0, 1, 2] rfl) h
  have j93 : ∀ f : Nat, ∀ (wa : (Nat → Int32)) (v3 : Int64) (v6 : Int32) (v7 : Int32) (g : G) (qa : Nat) (H : Heap) (locs : List Loc) (ls : Array Slot), Gd E s H locs g [tA E qa 7 wa] → lv_has ls 11 [(0, .ref (E.ad 47)), (3, .long v3), (5, .ref qa), (6, .int v6), (7, .int v7)] → k11_digest_93 f wa v3 v6 v7 g = some u → W p l e (rmD 5 12 95) s m args below meth c H locs 1 7 (MQ below (QL E s.heap.size u.1 u.2) args s 12 95 (AA E s.heap.size)) (F0 m 93 ls []) := by
    intro f
    induction f with
    | zero =>
      intro wa v3 v6 v7 g qa H locs ls hG hl h
      unfold k11_digest_93 at h
      cases h
    | succ f ih =>
      intro wa v3 v6 v7 g qa H locs ls hG hl h
      unfold k11_digest_93 at h
      refine lv_iload hx hb dX11_digest_93 (lv_at hl 4 rfl) ?_
      refine lv_iload hx hb dX11_digest_95 (lv_at hl 3 rfl) ?_
      refine lv_icmp_ge (tgt := 123) hx hb dX11_digest_97 (by decide) (fun c33 => ?_) (fun c33 => ?_)
      · have h := (if_inv h).1 c33
        refine lv_iconst (v := 0) hx hb dX11_digest_123 (by decide) ?_
        refine lv_istore (lv' := [(5, .int 0), (0, .ref (E.ad 47)), (3, .long v3), (6, .int v6), (7, .int v7)]) hx hb dX11_digest_124 hl (by decide) rfl (fun ls hl => ?_)
        have hG := Gd_drop hG
        exact j126 11 (by decide) v3 0 g _ _ _ hG (lv_sub hl [1, 2, 0] rfl) h
      · have h := (if_inv h).2 c33
        refine lv_aload hx hb dX11_digest_100 (lv_at hl 2 rfl) ?_
        refine lv_iload hx hb dX11_digest_102 (lv_at hl 4 rfl) ?_
        refine r_tld C hG dX11_digest_104 h (fun x34 h => ?_)
        refine lv_istore (lv' := [(8, .int x34), (0, .ref (E.ad 47)), (3, .long v3), (5, .ref qa), (6, .int v6), (7, .int v7)]) hx hb dX11_digest_105 hl (by decide) rfl (fun ls hl => ?_)
        refine lv_lload_n hx hb dX11_digest_107 rfl (lv_at hl 2 rfl) ?_
        refine lv_ldc2 (v := 31) hx hb C.2.2.2.1 (C.2.2.2.2.1 _ LC11_382) dX11_digest_108 ?_
        refine lv_lmul hx hb dX11_digest_111 ?_
        refine lv_iload hx hb dX11_digest_112 (lv_at hl 0 rfl) ?_
        refine lv_i2l hx hb dX11_digest_114 rfl ?_
        refine lv_ladd hx hb dX11_digest_115 ?_
        refine r_nmL h (fun x35 h => ?_)
        refine lv_lstore_n (lv' := [(3, .long x35), (8, .int x34), (0, .ref (E.ad 47)), (5, .ref qa), (6, .int v6), (7, .int v7)]) hx hb dX11_digest_116 rfl hl (by decide) rfl (fun ls hl => ?_)
        refine r_iinc (w := 1) (lv' := fun x36 => [(7, .int x36), (3, .long x35), (8, .int x34), (0, .ref (E.ad 47)), (5, .ref qa), (6, .int v6)]) C dX11_digest_117 hl (k := 5) rfl (by decide) (by decide) (fun _ => rfl) h (fun x36 ls hl h => ?_)
        refine lv_goto (tgt := 93) hx hb dX11_digest_120 (by decide) ?_
        exact ih wa x35 v6 x36 g qa _ _ _ hG (lv_sub hl [3, 1, 4, 5, 0] rfl) h
  have j76 : ∀ (wa : (Nat → Int32)) (t0 : Int32) (t1 : Int32) (g : G) (qa : Nat) (H : Heap) (locs : List Loc) (ls : Array Slot), Gd E s H locs g [tA E qa 7 wa] → lv_has ls 11 [(0, .ref (E.ad 47))] → k11_digest_76 wa t0 t1 g = some u → W p l e (rmD 5 12 95) s m args below meth c H locs 1 7 (MQ below (QL E s.heap.size u.1 u.2) args s 12 95 (AA E s.heap.size)) (F0 m 76 ls [.int t0, .int t1, .ref qa, .ref qa]) := by
    intro wa t0 t1 g qa H locs ls hG hl h
    unfold k11_digest_76 at h
    refine r_tst C hG dX11_digest_76 h (fun w37 H locs hG h => ?_)
    refine lv_astore_n (lv' := [(2, .ref qa), (0, .ref (E.ad 47))]) hx hb dX11_digest_77 rfl hl (by decide) rfl (fun ls hl => ?_)
    refine lv_ldc2 (v := 983) hx hb C.2.2.2.1 (C.2.2.2.2.1 _ LC11_380) dX11_digest_78 ?_
    refine lv_lstore_n (lv' := [(3, .long 983), (2, .ref qa), (0, .ref (E.ad 47))]) hx hb dX11_digest_81 rfl hl (by decide) rfl (fun ls hl => ?_)
    refine lv_aload_n hx hb dX11_digest_82 rfl (lv_at hl 1 rfl) ?_
    refine lv_astore (lv' := [(5, .ref qa), (3, .long 983), (2, .ref qa), (0, .ref (E.ad 47))]) hx hb dX11_digest_83 hl (by decide) rfl (fun ls hl => ?_)
    refine lv_aload hx hb dX11_digest_85 (lv_at hl 0 rfl) ?_
    refine r_tln (v := 7) C hG rfl dX11_digest_87 ?_
    refine lv_istore (lv' := [(6, .int 7), (5, .ref qa), (3, .long 983), (2, .ref qa), (0, .ref (E.ad 47))]) hx hb dX11_digest_88 hl (by decide) rfl (fun ls hl => ?_)
    refine lv_iconst (v := 0) hx hb dX11_digest_90 (by decide) ?_
    refine lv_istore (lv' := [(7, .int 0), (6, .int 7), (5, .ref qa), (3, .long 983), (2, .ref qa), (0, .ref (E.ad 47))]) hx hb dX11_digest_91 hl (by decide) rfl (fun ls hl => ?_)
    exact j93 FU w37 983 7 0 g qa _ _ _ hG (lv_sub hl [5, 3, 2, 1, 0] rfl) h
  refine lv_aload_n hx hb dX11_digest_0 rfl (lv_at hl 0 rfl) ?_
  refine lv_aload_n hx hb dX11_digest_1 rfl (lv_at hl 0 rfl) ?_
  refine r_getA (j := 79) C hG FX11_48 rfl rfl dX11_digest_2 ?_
  refine r_callVI C hl.1 hG [.ref (E.ad 79)] [] (m11_seen E l 79 rfl g) LX11_317 rfl KC11 rfl (rm_ok (by decide) (by decide)) (Nat.le_of_ble_eq_true rfl) ⟨by show _ ≤ 12; omega, by show _ ≤ 95; omega⟩ rfl dX11_digest_5 h (fun u38 H locs hG h => ?_)
  refine r_nm h (fun x39 h => ?_)
  refine lv_istore_n (lv' := [(1, .int x39), (0, .ref (E.ad 47))]) hx hb dX11_digest_8 rfl hl (by decide) rfl (fun ls hl => ?_)
  refine lv_bipush (v := 7) hx hb dX11_digest_9 (by decide) ?_
  refine r_newI C hG 7 LAI (by decide) (by decide) (by show _ ≤ 12; omega) (by show _ ≤ 95; omega) dX11_digest_11 (fun q40 H hG => ?_)
  refine lv_dup hx hb dX11_digest_13 rfl ?_
  refine lv_iconst (v := 0) hx hb dX11_digest_14 (by decide) ?_
  refine lv_aload_n hx hb dX11_digest_15 rfl (lv_at hl 1 rfl) ?_
  refine r_getA (j := 54) C hG FX11_35 rfl rfl dX11_digest_16 ?_
  refine r_getI C hG FX11_149 rfl rfl dX11_digest_19 ?_
  refine r_tst C hG dX11_digest_22 h (fun w41 H locs hG h => ?_)
  refine lv_dup hx hb dX11_digest_23 rfl ?_
  refine lv_iconst (v := 1) hx hb dX11_digest_24 (by decide) ?_
  refine lv_aload_n hx hb dX11_digest_25 rfl (lv_at hl 1 rfl) ?_
  refine r_getA (j := 54) C hG FX11_35 rfl rfl dX11_digest_26 ?_
  refine r_getI C hG FX11_229 rfl rfl dX11_digest_29 ?_
  refine r_tst C hG dX11_digest_32 h (fun w42 H locs hG h => ?_)
  refine lv_dup hx hb dX11_digest_33 rfl ?_
  refine lv_iconst (v := 2) hx hb dX11_digest_34 (by decide) ?_
  refine lv_aload_n hx hb dX11_digest_35 rfl (lv_at hl 1 rfl) ?_
  refine r_getA (j := 79) C hG FX11_48 rfl rfl dX11_digest_36 ?_
  refine r_getI C hG FX11_308 rfl rfl dX11_digest_39 ?_
  refine r_tst C hG dX11_digest_42 h (fun w43 H locs hG h => ?_)
  refine lv_dup hx hb dX11_digest_43 rfl ?_
  refine lv_iconst (v := 3) hx hb dX11_digest_44 (by decide) ?_
  refine lv_aload_n hx hb dX11_digest_45 rfl (lv_at hl 1 rfl) ?_
  refine r_getI C hG FX11_71 rfl rfl dX11_digest_46 ?_
  refine r_tst C hG dX11_digest_49 h (fun w44 H locs hG h => ?_)
  refine lv_dup hx hb dX11_digest_50 rfl ?_
  refine lv_iconst (v := 4) hx hb dX11_digest_51 (by decide) ?_
  refine lv_aload_n hx hb dX11_digest_52 rfl (lv_at hl 1 rfl) ?_
  refine r_getI C hG FX11_294 rfl rfl dX11_digest_53 ?_
  refine r_tst C hG dX11_digest_56 h (fun w45 H locs hG h => ?_)
  refine lv_dup hx hb dX11_digest_57 rfl ?_
  refine lv_iconst (v := 5) hx hb dX11_digest_58 (by decide) ?_
  refine lv_aload_n hx hb dX11_digest_59 rfl (lv_at hl 1 rfl) ?_
  refine r_getI C hG FX11_297 rfl rfl dX11_digest_60 ?_
  refine r_tst C hG dX11_digest_63 h (fun w46 H locs hG h => ?_)
  refine lv_dup hx hb dX11_digest_64 rfl ?_
  refine lv_bipush (v := 6) hx hb dX11_digest_65 (by decide) ?_
  refine lv_iload_n hx hb dX11_digest_67 rfl (lv_at hl 0 rfl) ?_
  refine lv_if_eq (tgt := 75) hx hb dX11_digest_68 (by decide) (fun c47 => ?_) (fun c47 => ?_)
  · have h := (if_inv h).1 c47
    refine lv_iconst (v := 0) hx hb dX11_digest_75 (by decide) ?_
    exact j76 w46 0 6 u38.2 q40 _ _ _ hG (lv_sub hl [1] rfl) h
  · have h := (if_inv h).2 c47
    refine lv_iconst (v := 1) hx hb dX11_digest_71 (by decide) ?_
    refine lv_goto (tgt := 76) hx hb dX11_digest_72 (by decide) ?_
    exact j76 w46 1 6 u38.2 q40 _ _ _ hG (lv_sub hl [1] rfl) h
