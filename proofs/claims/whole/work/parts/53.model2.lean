def SG1 (E : EV) (l : Launch) (R : Nat → Int32 → Int32 → G → Option (Int32 × G)) (d : Nat) : Prop := (∀ (g : G) (u : Int32 × G), R 0 0 0 g = some u → MI E l yX11_test cX11_test 2 (some .int) (4 + d) 0 0 [.ref (E.ad 47)] g u) ∧ (∀ (g : G) (u : Int32 × G), R 1 0 0 g = some u → MI E l yX11_both cX11_both 2 (some .int) (4 + d) 0 0 [.ref (E.ad 47)] g u) ∧ (∀ (g : G) (u : Int32 × G), R 2 0 0 g = some u → MI E l yX11_single cX11_single 2 (some .int) (4 + d) 0 0 [.ref (E.ad 47)] g u) ∧ (∀ (g : G) (u : Int32 × G), R 3 0 0 g = some u → MI E l yX11_comparison cX11_comparison 3 (some .int) (4 + d) 0 0 [.ref (E.ad 47)] g u) ∧ (∀ (g : G) (u : Int32 × G), R 4 0 0 g = some u → MI E l yX11_sum cX11_sum 3 (some .int) (4 + d) 0 0 [.ref (E.ad 47)] g u) ∧ (∀ (g : G) (u : Int32 × G), R 5 0 0 g = some u → MI E l yX11_product cX11_product 3 (some .int) (4 + d) 0 0 [.ref (E.ad 47)] g u) ∧ (∀ (g : G) (u : Int32 × G), R 6 0 0 g = some u → MI E l yX11_value cX11_value 2 (some .int) (4 + d) 0 0 [.ref (E.ad 47)] g u) ∧ (∀ (g : G) (u : Int32 × G), R 7 0 0 g = some u → MI E l yX11_inBrackets cX11_inBrackets 2 (some .int) (4 + d) 0 0 [.ref (E.ad 47)] g u) ∧ (∀ (a1 : Int32) (g : G) (u : Int32 × G), R 8 a1 0 g = some u → MI E l yX11_ofTwo cX11_ofTwo 4 (some .int) (4 + d) 0 0 [.ref (E.ad 47), .int a1] g u)
def kb11_inBrackets (R : Nat → Int32 → Int32 → G → Option (Int32 × G))  (g : G) : Option (Int32 × G) :=
  (k11_deeper g).bind fun g1 =>
  (R 4 0 0 g1).bind fun u2 =>
  bd u2.1 fun x3 =>
  (k11_take 50 u2.2).bind fun g4 =>
  bd (up g4 47 12 ((g4 47 12) - 1)) fun g5 =>
  some (x3, g5)
set_option maxRecDepth 100000 in
set_option maxHeartbeats 4000000 in
theorem m11_inBrackets_b (E : EV) (l : Launch) (d : Nat) (R : Nat → Int32 → Int32 → G → Option (Int32 × G)) (IH : SG1 E l R d) (g : G) : ∀ u, kb11_inBrackets R g = some u → MI E l yX11_inBrackets cX11_inBrackets 2 (some .int) (4 + d + 1) 0 0 [.ref (E.ad 47)] g u := by
  intro u h
  refine MG.of (by decide +kernel) (Nat.le_of_ble_eq_true rfl) ?_
  intro p e s m args below meth c C hr hnm ls hl hG
  have C : Cx p s m args meth c cX11_inBrackets 2 RX11 E := C
  have hx := C.1
  have hb := C.2.1
  have hl : lv_has ls 2 [(0, .ref (E.ad 47))] := hl
  unfold kb11_inBrackets at h
  refine lv_aload_n hx hb dX11_inBrackets_0 rfl (lv_at hl 0 rfl) ?_
  refine r_callVV C hl.1 hG [] [] (m11_deeper E l g) LX11_171 rfl KC11 rfl (rm_ok (by omega) (by decide)) (Nat.le_of_ble_eq_true rfl) ⟨Nat.le_refl _, Nat.le_refl _⟩ rfl dX11_inBrackets_1 h (fun g1 H locs hG h => ?_)
  refine lv_aload_n hx hb dX11_inBrackets_4 rfl (lv_at hl 0 rfl) ?_
  refine r_callVI C hl.1 hG [] [] (IH.2.2.2.2.1 g1) LX11_174 rfl KC11 rfl (rm_ok (by omega) (by decide)) (Nat.le_of_ble_eq_true rfl) ⟨Nat.le_refl _, Nat.le_refl _⟩ rfl dX11_inBrackets_5 h (fun u2 H locs hG h => ?_)
  refine r_nm h (fun x3 h => ?_)
  refine lv_istore_n (lv' := [(1, .int x3), (0, .ref (E.ad 47))]) hx hb dX11_inBrackets_8 rfl hl (by decide) rfl (fun ls hl => ?_)
  refine lv_aload_n hx hb dX11_inBrackets_9 rfl (lv_at hl 1 rfl) ?_
  refine lv_bipush (v := 50) hx hb dX11_inBrackets_10 (by decide) ?_
  refine r_callVV C hl.1 hG [.int 50] [] (m11_take E l 50 u2.2) LX11_163 rfl KC11 rfl (rm_ok (by omega) (by decide)) (Nat.le_of_ble_eq_true rfl) ⟨Nat.le_refl _, Nat.le_refl _⟩ rfl dX11_inBrackets_12 h (fun g4 H locs hG h => ?_)
  refine lv_aload_n hx hb dX11_inBrackets_15 rfl (lv_at hl 1 rfl) ?_
  refine lv_dup hx hb dX11_inBrackets_16 rfl ?_
  refine r_getI C hG FX11_134 rfl rfl dX11_inBrackets_17 ?_
  refine lv_iconst (v := 1) hx hb dX11_inBrackets_20 (by decide) ?_
  refine lv_isub hx hb dX11_inBrackets_21 ?_
  refine r_putI C hG FX11_134 rfl rfl dX11_inBrackets_22 h (fun H locs g5 hG h => ?_)
  refine lv_iload_n hx hb dX11_inBrackets_25 rfl (lv_at hl 0 rfl) ?_
  exact r_iret C hG hr rfl dX11_inBrackets_26 h
def kb11_ofTwo (R : Nat → Int32 → Int32 → G → Option (Int32 × G))  (a1 : Int32) (g : G) : Option (Int32 × G) :=
  bd (up g 47 8 ((g 47 8) + 1)) fun g1 =>
  (k11_is 49 g1).bind fun u2 =>
  if u2 = 0 then
    (k11_wrong g1).bind fun g13 =>
    some (0, g13)
  else
    (k11_deeper g1).bind fun g4 =>
    (R 4 0 0 g4).bind fun u5 =>
    bd u5.1 fun x6 =>
    (k11_take 54 u5.2).bind fun g7 =>
    (R 4 0 0 g7).bind fun u8 =>
    bd u8.1 fun x9 =>
    (k11_take 50 u8.2).bind fun g10 =>
    bd (up g10 47 12 ((g10 47 12) - 1)) fun g11 =>
    (k11_node a1 x6 x9 g11).bind fun u12 =>
    some (u12.1, u12.2)
set_option maxRecDepth 100000 in
set_option maxHeartbeats 4000000 in
theorem m11_ofTwo_b (E : EV) (l : Launch) (d : Nat) (R : Nat → Int32 → Int32 → G → Option (Int32 × G)) (IH : SG1 E l R d) (a1 : Int32) (g : G) : ∀ u, kb11_ofTwo R a1 g = some u → MI E l yX11_ofTwo cX11_ofTwo 4 (some .int) (4 + d + 1) 0 0 [.ref (E.ad 47), .int a1] g u := by
  intro u h
  refine MG.of (by decide +kernel) (Nat.le_of_ble_eq_true rfl) ?_
  intro p e s m args below meth c C hr hnm ls hl hG
  have C : Cx p s m args meth c cX11_ofTwo 4 RX11 E := C
  have hx := C.1
  have hb := C.2.1
  have hl : lv_has ls 4 [(0, .ref (E.ad 47)), (1, .int a1)] := hl
  unfold kb11_ofTwo at h
  refine lv_aload_n hx hb dX11_ofTwo_0 rfl (lv_at hl 0 rfl) ?_
  refine lv_dup hx hb dX11_ofTwo_1 rfl ?_
  refine r_getI C hG FX11_119 rfl rfl dX11_ofTwo_2 ?_
  refine lv_iconst (v := 1) hx hb dX11_ofTwo_5 (by decide) ?_
  refine lv_iadd hx hb dX11_ofTwo_6 ?_
  refine r_putI C hG FX11_119 rfl rfl dX11_ofTwo_7 h (fun H locs g1 hG h => ?_)
  refine lv_aload_n hx hb dX11_ofTwo_10 rfl (lv_at hl 0 rfl) ?_
  refine lv_bipush (v := 49) hx hb dX11_ofTwo_11 (by decide) ?_
  refine r_callVIP C hl.1 hG [.int 49] [] (m11_is E l 49 g1) LX11_128 rfl KC11 rfl (rm_ok (by omega) (by decide)) (Nat.le_of_ble_eq_true rfl) ⟨Nat.le_refl _, Nat.le_refl _⟩ rfl dX11_ofTwo_13 h (fun u2 H locs hG h => ?_)
  refine lv_if_ne (tgt := 25) hx hb dX11_ofTwo_16 (by decide) (fun c3 => ?_) (fun c3 => ?_)
  · have h := (if_inv h).2 c3
    refine lv_aload_n hx hb dX11_ofTwo_25 rfl (lv_at hl 0 rfl) ?_
    refine r_callVV C hl.1 hG [] [] (m11_deeper E l g1) LX11_171 rfl KC11 rfl (rm_ok (by omega) (by decide)) (Nat.le_of_ble_eq_true rfl) ⟨Nat.le_refl _, Nat.le_refl _⟩ rfl dX11_ofTwo_26 h (fun g4 H locs hG h => ?_)
    refine lv_aload_n hx hb dX11_ofTwo_29 rfl (lv_at hl 0 rfl) ?_
    refine r_callVI C hl.1 hG [] [] (IH.2.2.2.2.1 g4) LX11_174 rfl KC11 rfl (rm_ok (by omega) (by decide)) (Nat.le_of_ble_eq_true rfl) ⟨Nat.le_refl _, Nat.le_refl _⟩ rfl dX11_ofTwo_30 h (fun u5 H locs hG h => ?_)
    refine r_nm h (fun x6 h => ?_)
    refine lv_istore_n (lv' := [(2, .int x6), (0, .ref (E.ad 47)), (1, .int a1)]) hx hb dX11_ofTwo_33 rfl hl (by decide) rfl (fun ls hl => ?_)
    refine lv_aload_n hx hb dX11_ofTwo_34 rfl (lv_at hl 1 rfl) ?_
    refine lv_bipush (v := 54) hx hb dX11_ofTwo_35 (by decide) ?_
    refine r_callVV C hl.1 hG [.int 54] [] (m11_take E l 54 u5.2) LX11_163 rfl KC11 rfl (rm_ok (by omega) (by decide)) (Nat.le_of_ble_eq_true rfl) ⟨Nat.le_refl _, Nat.le_refl _⟩ rfl dX11_ofTwo_37 h (fun g7 H locs hG h => ?_)
    refine lv_aload_n hx hb dX11_ofTwo_40 rfl (lv_at hl 1 rfl) ?_
    refine r_callVI C hl.1 hG [] [] (IH.2.2.2.2.1 g7) LX11_174 rfl KC11 rfl (rm_ok (by omega) (by decide)) (Nat.le_of_ble_eq_true rfl) ⟨Nat.le_refl _, Nat.le_refl _⟩ rfl dX11_ofTwo_41 h (fun u8 H locs hG h => ?_)
    refine r_nm h (fun x9 h => ?_)
    refine lv_istore_n (lv' := [(3, .int x9), (2, .int x6), (0, .ref (E.ad 47)), (1, .int a1)]) hx hb dX11_ofTwo_44 rfl hl (by decide) rfl (fun ls hl => ?_)
    refine lv_aload_n hx hb dX11_ofTwo_45 rfl (lv_at hl 2 rfl) ?_
    refine lv_bipush (v := 50) hx hb dX11_ofTwo_46 (by decide) ?_
    refine r_callVV C hl.1 hG [.int 50] [] (m11_take E l 50 u8.2) LX11_163 rfl KC11 rfl (rm_ok (by omega) (by decide)) (Nat.le_of_ble_eq_true rfl) ⟨Nat.le_refl _, Nat.le_refl _⟩ rfl dX11_ofTwo_48 h (fun g10 H locs hG h => ?_)
    refine lv_aload_n hx hb dX11_ofTwo_51 rfl (lv_at hl 2 rfl) ?_
    refine lv_dup hx hb dX11_ofTwo_52 rfl ?_
    refine r_getI C hG FX11_134 rfl rfl dX11_ofTwo_53 ?_
    refine lv_iconst (v := 1) hx hb dX11_ofTwo_56 (by decide) ?_
    refine lv_isub hx hb dX11_ofTwo_57 ?_
    refine r_putI C hG FX11_134 rfl rfl dX11_ofTwo_58 h (fun H locs g11 hG h => ?_)
    refine lv_aload_n hx hb dX11_ofTwo_61 rfl (lv_at hl 2 rfl) ?_
    refine lv_iload_n hx hb dX11_ofTwo_62 rfl (lv_at hl 3 rfl) ?_
    refine lv_iload_n hx hb dX11_ofTwo_63 rfl (lv_at hl 1 rfl) ?_
    refine lv_iload_n hx hb dX11_ofTwo_64 rfl (lv_at hl 0 rfl) ?_
    refine r_callVI C hl.1 hG [.int a1, .int x6, .int x9] [] (m11_node E l a1 x6 x9 g11) LX11_177 rfl KC11 rfl (rm_ok (by omega) (by decide)) (Nat.le_of_ble_eq_true rfl) ⟨Nat.le_refl _, Nat.le_refl _⟩ rfl dX11_ofTwo_65 h (fun u12 H locs hG h => ?_)
    exact r_iret C hG hr rfl dX11_ofTwo_68 h
  · have h := (if_inv h).1 c3
    refine lv_aload_n hx hb dX11_ofTwo_19 rfl (lv_at hl 0 rfl) ?_
    refine r_callVV C hl.1 hG [] [] (m11_wrong E l g1) LX11_131 rfl KC11 rfl (rm_ok (by omega) (by decide)) (Nat.le_of_ble_eq_true rfl) ⟨Nat.le_refl _, Nat.le_refl _⟩ rfl dX11_ofTwo_20 h (fun g13 H locs hG h => ?_)
    refine lv_iconst (v := 0) hx hb dX11_ofTwo_23 (by decide) ?_
    exact r_iret C hG hr rfl dX11_ofTwo_24 h
def k11_value_99 (R : Nat → Int32 → Int32 → G → Option (Int32 × G))  (g : G) : Option (Int32 × G) :=
      ld g 49 402 (g 47 8) fun x1 =>
      (R 8 x1 0 g).bind fun u2 =>
      some (u2.1, u2.2)
def k11_value_41 (R : Nat → Int32 → Int32 → G → Option (Int32 × G))  : Nat → Int32 → G → Option (Int32 × G)
  | 0, _, _ => none
  | f + 1, v1, g =>
        if 14 < v1 then
          (k11_isMeasure g).bind fun u4 =>
          if u4 = 0 then
            (k11_is 24 g).bind fun u6 =>
            if u6 = 0 then
              (k11_is 25 g).bind fun u8 =>
              if u8 = 0 then
                (k11_is 49 g).bind fun u10 =>
                if u10 = 0 then
                  (k11_is 41 g).bind fun u12 =>
                  if u12 = 0 then
                    (k11_wrong g).bind fun g19 =>
                    some (0, g19)
                  else
                    (k11_deeper g).bind fun g14 =>
                    (R 6 0 0 g14).bind fun u15 =>
                    bd u15.1 fun x16 =>
                    bd (up u15.2 47 12 ((u15.2 47 12) - 1)) fun g17 =>
                    (k11_node 60 x16 0 g17).bind fun u18 =>
                    some (u18.1, u18.2)
                else
                  (R 7 0 0 g).bind fun u20 =>
                  some (u20.1, u20.2)
              else
                k11_value_99 R g
            else
              k11_value_99 R g
          else
            (k11_measure g).bind fun u21 =>
            some (u21.1, u21.2)
        else
          (k11_takes v1 g).bind fun u22 =>
          if u22.1 = 0 then
            bd (v1 + 1) fun x24 =>
            k11_value_41 R f x24 u22.2
          else
            (k11_node v1 0 0 u22.2).bind fun u25 =>
            some (u25.1, u25.2)
def kb11_value (R : Nat → Int32 → Int32 → G → Option (Int32 × G))  (g : G) : Option (Int32 × G) :=
  (k11_is 31 g).bind fun u26 =>
  if u26 = 0 then
    k11_value_41 R FU 12 g
  else
    bd (up g 47 8 ((g 47 8) + 1)) fun g28 =>
    ld g28 50 402 ((g28 47 8) - 1) fun x29 =>
    (k11_node 31 x29 0 g28).bind fun u30 =>
    some (u30.1, u30.2)
set_option maxRecDepth 100000 in
set_option maxHeartbeats 4000000 in
theorem m11_value_b (E : EV) (l : Launch) (d : Nat) (R : Nat → Int32 → Int32 → G → Option (Int32 × G)) (IH : SG1 E l R d) (g : G) : ∀ u, kb11_value R g = some u → MI E l yX11_value cX11_value 2 (some .int) (4 + d + 1) 0 0 [.ref (E.ad 47)] g u := by
  intro u h
  refine MG.of (by decide +kernel) (Nat.le_of_ble_eq_true rfl) ?_
  intro p e s m args below meth c C hr hnm ls hl hG
  have C : Cx p s m args meth c cX11_value 2 RX11 E := C
  have hx := C.1
  have hb := C.2.1
  have hl : lv_has ls 2 [(0, .ref (E.ad 47))] := hl
  unfold kb11_value at h
  have j99 : ∀ (g : G) (H : Heap) (locs : List Loc) (ls : Array Slot), Gd E s H locs g [] → lv_has ls 2 [(0, .ref (E.ad 47))] → k11_value_99 R g = some u → W p l e (rmD (4 + d + 1) 0 0) s m args below meth c H locs 0 0 (MQ below (QI E s.heap.size u.1 u.2) args s 0 0 (AA E s.heap.size)) (F0 m 99 ls []) := by
    intro g H locs ls hG hl h
    unfold k11_value_99 at h
    refine lv_aload_n hx hb dX11_value_99 rfl (lv_at hl 0 rfl) ?_
    refine lv_aload_n hx hb dX11_value_100 rfl (lv_at hl 0 rfl) ?_
    refine r_getA (j := 49) C hG FX11_17 rfl rfl dX11_value_101 ?_
    refine lv_aload_n hx hb dX11_value_104 rfl (lv_at hl 0 rfl) ?_
    refine r_getI C hG FX11_119 rfl rfl dX11_value_105 ?_
    refine r_ild C hG (N := 402) rfl (by decide) dX11_value_108 h (fun x1 h => ?_)
    refine r_callVI C hl.1 hG [.int x1] [] (IH.2.2.2.2.2.2.2.2 x1 g) LX11_194 rfl KC11 rfl (rm_ok (by omega) (by decide)) (Nat.le_of_ble_eq_true rfl) ⟨Nat.le_refl _, Nat.le_refl _⟩ rfl dX11_value_109 h (fun u2 H locs hG h => ?_)
    exact r_iret C hG hr rfl dX11_value_112 h
  have j41 : ∀ f : Nat, ∀ (v1 : Int32) (g : G) (H : Heap) (locs : List Loc) (ls : Array Slot), Gd E s H locs g [] → lv_has ls 2 [(0, .ref (E.ad 47)), (1, .int v1)] → k11_value_41 R f v1 g = some u → W p l e (rmD (4 + d + 1) 0 0) s m args below meth c H locs 0 0 (MQ below (QI E s.heap.size u.1 u.2) args s 0 0 (AA E s.heap.size)) (F0 m 41 ls []) := by
    intro f
    induction f with
    | zero =>
      intro v1 g H locs ls hG hl h
      unfold k11_value_41 at h
      cases h
    | succ f ih =>
      intro v1 g H locs ls hG hl h
      unfold k11_value_41 at h
      refine lv_iload_n hx hb dX11_value_41 rfl (lv_at hl 1 rfl) ?_
      refine lv_bipush (v := 14) hx hb dX11_value_42 (by decide) ?_
      refine lv_icmp_gt (tgt := 69) hx hb dX11_value_44 (by decide) (fun c3 => ?_) (fun c3 => ?_)
      · have h := (if_inv h).1 c3
        refine lv_aload_n hx hb dX11_value_69 rfl (lv_at hl 0 rfl) ?_
        refine r_callVIP C hl.1 hG [] [] (m11_isMeasure E l g) LX11_187 rfl KC11 rfl (rm_ok (by omega) (by decide)) (Nat.le_of_ble_eq_true rfl) ⟨Nat.le_refl _, Nat.le_refl _⟩ rfl dX11_value_70 h (fun u4 H locs hG h => ?_)
        refine lv_if_eq (tgt := 81) hx hb dX11_value_73 (by decide) (fun c5 => ?_) (fun c5 => ?_)
        · have h := (if_inv h).1 c5
          refine lv_aload_n hx hb dX11_value_81 rfl (lv_at hl 0 rfl) ?_
          refine lv_bipush (v := 24) hx hb dX11_value_82 (by decide) ?_
          refine r_callVIP C hl.1 hG [.int 24] [] (m11_is E l 24 g) LX11_128 rfl KC11 rfl (rm_ok (by omega) (by decide)) (Nat.le_of_ble_eq_true rfl) ⟨Nat.le_refl _, Nat.le_refl _⟩ rfl dX11_value_84 h (fun u6 H locs hG h => ?_)
          refine lv_if_ne (tgt := 99) hx hb dX11_value_87 (by decide) (fun c7 => ?_) (fun c7 => ?_)
          · have h := (if_inv h).2 c7
            exact j99 g _ _ _ hG (lv_sub hl [0] rfl) h
          · have h := (if_inv h).1 c7
            refine lv_aload_n hx hb dX11_value_90 rfl (lv_at hl 0 rfl) ?_
            refine lv_bipush (v := 25) hx hb dX11_value_91 (by decide) ?_
            refine r_callVIP C hl.1 hG [.int 25] [] (m11_is E l 25 g) LX11_128 rfl KC11 rfl (rm_ok (by omega) (by decide)) (Nat.le_of_ble_eq_true rfl) ⟨Nat.le_refl _, Nat.le_refl _⟩ rfl dX11_value_93 h (fun u8 H locs hG h => ?_)
            refine lv_if_eq (tgt := 113) hx hb dX11_value_96 (by decide) (fun c9 => ?_) (fun c9 => ?_)
            · have h := (if_inv h).1 c9
              refine lv_aload_n hx hb dX11_value_113 rfl (lv_at hl 0 rfl) ?_
              refine lv_bipush (v := 49) hx hb dX11_value_114 (by decide) ?_
              refine r_callVIP C hl.1 hG [.int 49] [] (m11_is E l 49 g) LX11_128 rfl KC11 rfl (rm_ok (by omega) (by decide)) (Nat.le_of_ble_eq_true rfl) ⟨Nat.le_refl _, Nat.le_refl _⟩ rfl dX11_value_116 h (fun u10 H locs hG h => ?_)
              refine lv_if_eq (tgt := 127) hx hb dX11_value_119 (by decide) (fun c11 => ?_) (fun c11 => ?_)
              · have h := (if_inv h).1 c11
                refine lv_aload_n hx hb dX11_value_127 rfl (lv_at hl 0 rfl) ?_
                refine lv_bipush (v := 41) hx hb dX11_value_128 (by decide) ?_
                refine r_callVIP C hl.1 hG [.int 41] [] (m11_is E l 41 g) LX11_128 rfl KC11 rfl (rm_ok (by omega) (by decide)) (Nat.le_of_ble_eq_true rfl) ⟨Nat.le_refl _, Nat.le_refl _⟩ rfl dX11_value_130 h (fun u12 H locs hG h => ?_)
                refine lv_if_ne (tgt := 142) hx hb dX11_value_133 (by decide) (fun c13 => ?_) (fun c13 => ?_)
                · have h := (if_inv h).2 c13
                  refine lv_aload_n hx hb dX11_value_142 rfl (lv_at hl 0 rfl) ?_
                  refine r_callVV C hl.1 hG [] [] (m11_deeper E l g) LX11_171 rfl KC11 rfl (rm_ok (by omega) (by decide)) (Nat.le_of_ble_eq_true rfl) ⟨Nat.le_refl _, Nat.le_refl _⟩ rfl dX11_value_143 h (fun g14 H locs hG h => ?_)
                  refine lv_aload_n hx hb dX11_value_146 rfl (lv_at hl 0 rfl) ?_
                  refine r_callVI C hl.1 hG [] [] (IH.2.2.2.2.2.2.1 g14) LX11_200 rfl KC11 rfl (rm_ok (by omega) (by decide)) (Nat.le_of_ble_eq_true rfl) ⟨Nat.le_refl _, Nat.le_refl _⟩ rfl dX11_value_147 h (fun u15 H locs hG h => ?_)
                  refine r_nm h (fun x16 h => ?_)
                  refine lv_istore_n (lv' := [(1, .int x16), (0, .ref (E.ad 47))]) hx hb dX11_value_150 rfl hl (by decide) rfl (fun ls hl => ?_)
                  refine lv_aload_n hx hb dX11_value_151 rfl (lv_at hl 1 rfl) ?_
                  refine lv_dup hx hb dX11_value_152 rfl ?_
                  refine r_getI C hG FX11_134 rfl rfl dX11_value_153 ?_
                  refine lv_iconst (v := 1) hx hb dX11_value_156 (by decide) ?_
                  refine lv_isub hx hb dX11_value_157 ?_
                  refine r_putI C hG FX11_134 rfl rfl dX11_value_158 h (fun H locs g17 hG h => ?_)
                  refine lv_aload_n hx hb dX11_value_161 rfl (lv_at hl 1 rfl) ?_
                  refine lv_bipush (v := 60) hx hb dX11_value_162 (by decide) ?_
                  refine lv_iload_n hx hb dX11_value_164 rfl (lv_at hl 0 rfl) ?_
                  refine lv_iconst (v := 0) hx hb dX11_value_165 (by decide) ?_
                  refine r_callVI C hl.1 hG [.int 60, .int x16, .int 0] [] (m11_node E l 60 x16 0 g17) LX11_177 rfl KC11 rfl (rm_ok (by omega) (by decide)) (Nat.le_of_ble_eq_true rfl) ⟨Nat.le_refl _, Nat.le_refl _⟩ rfl dX11_value_166 h (fun u18 H locs hG h => ?_)
                  exact r_iret C hG hr rfl dX11_value_169 h
                · have h := (if_inv h).1 c13
                  refine lv_aload_n hx hb dX11_value_136 rfl (lv_at hl 0 rfl) ?_
                  refine r_callVV C hl.1 hG [] [] (m11_wrong E l g) LX11_131 rfl KC11 rfl (rm_ok (by omega) (by decide)) (Nat.le_of_ble_eq_true rfl) ⟨Nat.le_refl _, Nat.le_refl _⟩ rfl dX11_value_137 h (fun g19 H locs hG h => ?_)
                  refine lv_iconst (v := 0) hx hb dX11_value_140 (by decide) ?_
                  exact r_iret C hG hr rfl dX11_value_141 h
              · have h := (if_inv h).2 c11
                refine lv_aload_n hx hb dX11_value_122 rfl (lv_at hl 0 rfl) ?_
                refine r_callVI C hl.1 hG [] [] (IH.2.2.2.2.2.2.2.1 g) LX11_197 rfl KC11 rfl (rm_ok (by omega) (by decide)) (Nat.le_of_ble_eq_true rfl) ⟨Nat.le_refl _, Nat.le_refl _⟩ rfl dX11_value_123 h (fun u20 H locs hG h => ?_)
                exact r_iret C hG hr rfl dX11_value_126 h
            · have h := (if_inv h).2 c9
              exact j99 g _ _ _ hG (lv_sub hl [0] rfl) h
        · have h := (if_inv h).2 c5
          refine lv_aload_n hx hb dX11_value_76 rfl (lv_at hl 0 rfl) ?_
          refine r_callVI C hl.1 hG [] [] (m11_measure E l g) LX11_191 rfl KC11 rfl (rm_ok (by omega) (by decide)) (Nat.le_of_ble_eq_true rfl) ⟨Nat.le_refl _, Nat.le_refl _⟩ rfl dX11_value_77 h (fun u21 H locs hG h => ?_)
          exact r_iret C hG hr rfl dX11_value_80 h
      · have h := (if_inv h).2 c3
        refine lv_aload_n hx hb dX11_value_47 rfl (lv_at hl 0 rfl) ?_
        refine lv_iload_n hx hb dX11_value_48 rfl (lv_at hl 1 rfl) ?_
        refine r_callVI C hl.1 hG [.int v1] [] (m11_takes E l v1 g) LX11_184 rfl KC11 rfl (rm_ok (by omega) (by decide)) (Nat.le_of_ble_eq_true rfl) ⟨Nat.le_refl _, Nat.le_refl _⟩ rfl dX11_value_49 h (fun u22 H locs hG h => ?_)
        refine lv_if_eq (tgt := 63) hx hb dX11_value_52 (by decide) (fun c23 => ?_) (fun c23 => ?_)
        · have h := (if_inv h).1 c23
          refine r_iinc (w := 1) (lv' := fun x24 => [(1, .int x24), (0, .ref (E.ad 47))]) C dX11_value_63 hl (k := 1) rfl (by decide) (by decide) (fun _ => rfl) h (fun x24 ls hl h => ?_)
          refine lv_goto (tgt := 41) hx hb dX11_value_66 (by decide) ?_
          exact ih x24 u22.2 _ _ _ hG (lv_sub hl [1, 0] rfl) h
        · have h := (if_inv h).2 c23
          refine lv_aload_n hx hb dX11_value_55 rfl (lv_at hl 0 rfl) ?_
          refine lv_iload_n hx hb dX11_value_56 rfl (lv_at hl 1 rfl) ?_
          refine lv_iconst (v := 0) hx hb dX11_value_57 (by decide) ?_
          refine lv_iconst (v := 0) hx hb dX11_value_58 (by decide) ?_
          refine r_callVI C hl.1 hG [.int v1, .int 0, .int 0] [] (m11_node E l v1 0 0 u22.2) LX11_177 rfl KC11 rfl (rm_ok (by omega) (by decide)) (Nat.le_of_ble_eq_true rfl) ⟨Nat.le_refl _, Nat.le_refl _⟩ rfl dX11_value_59 h (fun u25 H locs hG h => ?_)
          exact r_iret C hG hr rfl dX11_value_62 h
  refine lv_aload_n hx hb dX11_value_0 rfl (lv_at hl 0 rfl) ?_
  refine lv_bipush (v := 31) hx hb dX11_value_1 (by decide) ?_
  refine r_callVIP C hl.1 hG [.int 31] [] (m11_is E l 31 g) LX11_128 rfl KC11 rfl (rm_ok (by omega) (by decide)) (Nat.le_of_ble_eq_true rfl) ⟨Nat.le_refl _, Nat.le_refl _⟩ rfl dX11_value_3 h (fun u26 H locs hG h => ?_)
  refine lv_if_eq (tgt := 38) hx hb dX11_value_6 (by decide) (fun c27 => ?_) (fun c27 => ?_)
  · have h := (if_inv h).1 c27
    refine lv_bipush (v := 12) hx hb dX11_value_38 (by decide) ?_
    refine lv_istore_n (lv' := [(1, .int 12), (0, .ref (E.ad 47))]) hx hb dX11_value_40 rfl hl (by decide) rfl (fun ls hl => ?_)
    exact j41 FU 12 g _ _ _ hG (lv_sub hl [1, 0] rfl) h
  · have h := (if_inv h).2 c27
    refine lv_aload_n hx hb dX11_value_9 rfl (lv_at hl 0 rfl) ?_
    refine lv_dup hx hb dX11_value_10 rfl ?_
    refine r_getI C hG FX11_119 rfl rfl dX11_value_11 ?_
    refine lv_iconst (v := 1) hx hb dX11_value_14 (by decide) ?_
    refine lv_iadd hx hb dX11_value_15 ?_
    refine r_putI C hG FX11_119 rfl rfl dX11_value_16 h (fun H locs g28 hG h => ?_)
    refine lv_aload_n hx hb dX11_value_19 rfl (lv_at hl 0 rfl) ?_
    refine lv_bipush (v := 31) hx hb dX11_value_20 (by decide) ?_
    refine lv_aload_n hx hb dX11_value_22 rfl (lv_at hl 0 rfl) ?_
    refine r_getA (j := 50) C hG FX11_20 rfl rfl dX11_value_23 ?_
    refine lv_aload_n hx hb dX11_value_26 rfl (lv_at hl 0 rfl) ?_
    refine r_getI C hG FX11_119 rfl rfl dX11_value_27 ?_
    refine lv_iconst (v := 1) hx hb dX11_value_30 (by decide) ?_
    refine lv_isub hx hb dX11_value_31 ?_
    refine r_ild C hG (N := 402) rfl (by decide) dX11_value_32 h (fun x29 h => ?_)
    refine lv_iconst (v := 0) hx hb dX11_value_33 (by decide) ?_
    refine r_callVI C hl.1 hG [.int 31, .int x29, .int 0] [] (m11_node E l 31 x29 0 g28) LX11_177 rfl KC11 rfl (rm_ok (by omega) (by decide)) (Nat.le_of_ble_eq_true rfl) ⟨Nat.le_refl _, Nat.le_refl _⟩ rfl dX11_value_34 h (fun u30 H locs hG h => ?_)
    exact r_iret C hG hr rfl dX11_value_37 h
def k11_product_23 (R : Nat → Int32 → Int32 → G → Option (Int32 × G))  (K5 : Int32 → G → Option (Int32 × G)) (v1 : Int32) (g : G) : Option (Int32 × G) :=
      ld g 49 402 (g 47 8) fun x1 =>
      bd (up g 47 8 ((g 47 8) + 1)) fun g2 =>
      (R 6 0 0 g2).bind fun u3 =>
      (k11_node x1 v1 u3.1 u3.2).bind fun u4 =>
      bd u4.1 fun x5 =>
      K5 x5 u4.2
def k11_product_5 (R : Nat → Int32 → Int32 → G → Option (Int32 × G))  : Nat → Int32 → G → Option (Int32 × G)
  | 0, _, _ => none
  | f + 1, v1, g =>
        (k11_is 42 g).bind fun u6 =>
        if u6 = 0 then
          (k11_is 43 g).bind fun u8 =>
          if u8 = 0 then
            some (v1, g)
          else
            k11_product_23 R (k11_product_5 R f) v1 g
        else
          k11_product_23 R (k11_product_5 R f) v1 g
def kb11_product (R : Nat → Int32 → Int32 → G → Option (Int32 × G))  (g : G) : Option (Int32 × G) :=
  (R 6 0 0 g).bind fun u10 =>
  bd u10.1 fun x11 =>
  k11_product_5 R FU x11 u10.2
set_option maxRecDepth 100000 in
set_option maxHeartbeats 4000000 in
theorem m11_product_b (E : EV) (l : Launch) (d : Nat) (R : Nat → Int32 → Int32 → G → Option (Int32 × G)) (IH : SG1 E l R d) (g : G) : ∀ u, kb11_product R g = some u → MI E l yX11_product cX11_product 3 (some .int) (4 + d + 1) 0 0 [.ref (E.ad 47)] g u := by
  intro u h
  refine MG.of (by decide +kernel) (Nat.le_of_ble_eq_true rfl) ?_
  intro p e s m args below meth c C hr hnm ls hl hG
  have C : Cx p s m args meth c cX11_product 3 RX11 E := C
  have hx := C.1
  have hb := C.2.1
  have hl : lv_has ls 3 [(0, .ref (E.ad 47))] := hl
  unfold kb11_product at h
  have j23 : ∀ (K5 : Int32 → G → Option (Int32 × G)), (∀ (v1 : Int32) (g : G) (H : Heap) (locs : List Loc) (ls : Array Slot), Gd E s H locs g [] → lv_has ls 3 [(0, .ref (E.ad 47)), (1, .int v1)] → K5 v1 g = some u → W p l e (rmD (4 + d + 1) 0 0) s m args below meth c H locs 0 0 (MQ below (QI E s.heap.size u.1 u.2) args s 0 0 (AA E s.heap.size)) (F0 m 5 ls [])) → ∀ (v1 : Int32) (g : G) (H : Heap) (locs : List Loc) (ls : Array Slot), Gd E s H locs g [] → lv_has ls 3 [(0, .ref (E.ad 47)), (1, .int v1)] → k11_product_23 R K5 v1 g = some u → W p l e (rmD (4 + d + 1) 0 0) s m args below meth c H locs 0 0 (MQ below (QI E s.heap.size u.1 u.2) args s 0 0 (AA E s.heap.size)) (F0 m 23 ls []) := by
    intro K5 hK5 v1 g H locs ls hG hl h
    unfold k11_product_23 at h
    refine lv_aload_n hx hb dX11_product_23 rfl (lv_at hl 0 rfl) ?_
    refine r_getA (j := 49) C hG FX11_17 rfl rfl dX11_product_24 ?_
    refine lv_aload_n hx hb dX11_product_27 rfl (lv_at hl 0 rfl) ?_
    refine r_getI C hG FX11_119 rfl rfl dX11_product_28 ?_
    refine r_ild C hG (N := 402) rfl (by decide) dX11_product_31 h (fun x1 h => ?_)
    refine lv_istore_n (lv' := [(2, .int x1), (0, .ref (E.ad 47)), (1, .int v1)]) hx hb dX11_product_32 rfl hl (by decide) rfl (fun ls hl => ?_)
    refine lv_aload_n hx hb dX11_product_33 rfl (lv_at hl 1 rfl) ?_
    refine lv_dup hx hb dX11_product_34 rfl ?_
    refine r_getI C hG FX11_119 rfl rfl dX11_product_35 ?_
    refine lv_iconst (v := 1) hx hb dX11_product_38 (by decide) ?_
    refine lv_iadd hx hb dX11_product_39 ?_
    refine r_putI C hG FX11_119 rfl rfl dX11_product_40 h (fun H locs g2 hG h => ?_)
    refine lv_aload_n hx hb dX11_product_43 rfl (lv_at hl 1 rfl) ?_
    refine lv_iload_n hx hb dX11_product_44 rfl (lv_at hl 0 rfl) ?_
    refine lv_iload_n hx hb dX11_product_45 rfl (lv_at hl 2 rfl) ?_
    refine lv_aload_n hx hb dX11_product_46 rfl (lv_at hl 1 rfl) ?_
    refine r_callVI C hl.1 hG [] [.int v1, .int x1, .ref (E.ad 47)] (IH.2.2.2.2.2.2.1 g2) LX11_200 rfl KC11 rfl (rm_ok (by omega) (by decide)) (Nat.le_of_ble_eq_true rfl) ⟨Nat.le_refl _, Nat.le_refl _⟩ rfl dX11_product_47 h (fun u3 H locs hG h => ?_)
    refine r_callVI C hl.1 hG [.int x1, .int v1, .int u3.1] [] (m11_node E l x1 v1 u3.1 u3.2) LX11_177 rfl KC11 rfl (rm_ok (by omega) (by decide)) (Nat.le_of_ble_eq_true rfl) ⟨Nat.le_refl _, Nat.le_refl _⟩ rfl dX11_product_50 h (fun u4 H locs hG h => ?_)
    refine r_nm h (fun x5 h => ?_)
    refine lv_istore_n (lv' := [(1, .int x5), (2, .int x1), (0, .ref (E.ad 47))]) hx hb dX11_product_53 rfl hl (by decide) rfl (fun ls hl => ?_)
    refine lv_goto (tgt := 5) hx hb dX11_product_54 (by decide) ?_
    exact hK5 x5 u4.2 _ _ _ hG (lv_sub hl [2, 0] rfl) h
  have j5 : ∀ f : Nat, ∀ (v1 : Int32) (g : G) (H : Heap) (locs : List Loc) (ls : Array Slot), Gd E s H locs g [] → lv_has ls 3 [(0, .ref (E.ad 47)), (1, .int v1)] → k11_product_5 R f v1 g = some u → W p l e (rmD (4 + d + 1) 0 0) s m args below meth c H locs 0 0 (MQ below (QI E s.heap.size u.1 u.2) args s 0 0 (AA E s.heap.size)) (F0 m 5 ls []) := by
    intro f
    induction f with
    | zero =>
      intro v1 g H locs ls hG hl h
      unfold k11_product_5 at h
      cases h
    | succ f ih =>
      intro v1 g H locs ls hG hl h
      unfold k11_product_5 at h
      refine lv_aload_n hx hb dX11_product_5 rfl (lv_at hl 0 rfl) ?_
      refine lv_bipush (v := 42) hx hb dX11_product_6 (by decide) ?_
      refine r_callVIP C hl.1 hG [.int 42] [] (m11_is E l 42 g) LX11_128 rfl KC11 rfl (rm_ok (by omega) (by decide)) (Nat.le_of_ble_eq_true rfl) ⟨Nat.le_refl _, Nat.le_refl _⟩ rfl dX11_product_8 h (fun u6 H locs hG h => ?_)
      refine lv_if_ne (tgt := 23) hx hb dX11_product_11 (by decide) (fun c7 => ?_) (fun c7 => ?_)
      · have h := (if_inv h).2 c7
        exact j23 (k11_product_5 R f) ih v1 g _ _ _ hG (lv_sub hl [0, 1] rfl) h
      · have h := (if_inv h).1 c7
        refine lv_aload_n hx hb dX11_product_14 rfl (lv_at hl 0 rfl) ?_
        refine lv_bipush (v := 43) hx hb dX11_product_15 (by decide) ?_
        refine r_callVIP C hl.1 hG [.int 43] [] (m11_is E l 43 g) LX11_128 rfl KC11 rfl (rm_ok (by omega) (by decide)) (Nat.le_of_ble_eq_true rfl) ⟨Nat.le_refl _, Nat.le_refl _⟩ rfl dX11_product_17 h (fun u8 H locs hG h => ?_)
        refine lv_if_eq (tgt := 57) hx hb dX11_product_20 (by decide) (fun c9 => ?_) (fun c9 => ?_)
        · have h := (if_inv h).1 c9
          refine lv_iload_n hx hb dX11_product_57 rfl (lv_at hl 1 rfl) ?_
          exact r_iret C hG hr rfl dX11_product_58 h
        · have h := (if_inv h).2 c9
          exact j23 (k11_product_5 R f) ih v1 g _ _ _ hG (lv_sub hl [0, 1] rfl) h
  refine lv_aload_n hx hb dX11_product_0 rfl (lv_at hl 0 rfl) ?_
  refine r_callVI C hl.1 hG [] [] (IH.2.2.2.2.2.2.1 g) LX11_200 rfl KC11 rfl (rm_ok (by omega) (by decide)) (Nat.le_of_ble_eq_true rfl) ⟨Nat.le_refl _, Nat.le_refl _⟩ rfl dX11_product_1 h (fun u10 H locs hG h => ?_)
  refine r_nm h (fun x11 h => ?_)
  refine lv_istore_n (lv' := [(1, .int x11), (0, .ref (E.ad 47))]) hx hb dX11_product_4 rfl hl (by decide) rfl (fun ls hl => ?_)
  exact j5 FU x11 u10.2 _ _ _ hG (lv_sub hl [1, 0] rfl) h
def k11_sum_23 (R : Nat → Int32 → Int32 → G → Option (Int32 × G))  (K5 : Int32 → G → Option (Int32 × G)) (v1 : Int32) (g : G) : Option (Int32 × G) :=
      ld g 49 402 (g 47 8) fun x1 =>
      bd (up g 47 8 ((g 47 8) + 1)) fun g2 =>
      (R 5 0 0 g2).bind fun u3 =>
      (k11_node x1 v1 u3.1 u3.2).bind fun u4 =>
      bd u4.1 fun x5 =>
      K5 x5 u4.2
def k11_sum_5 (R : Nat → Int32 → Int32 → G → Option (Int32 × G))  : Nat → Int32 → G → Option (Int32 × G)
  | 0, _, _ => none
  | f + 1, v1, g =>
        (k11_is 40 g).bind fun u6 =>
        if u6 = 0 then
          (k11_is 41 g).bind fun u8 =>
          if u8 = 0 then
            some (v1, g)
          else
            k11_sum_23 R (k11_sum_5 R f) v1 g
        else
          k11_sum_23 R (k11_sum_5 R f) v1 g
def kb11_sum (R : Nat → Int32 → Int32 → G → Option (Int32 × G))  (g : G) : Option (Int32 × G) :=
  (R 5 0 0 g).bind fun u10 =>
  bd u10.1 fun x11 =>
  k11_sum_5 R FU x11 u10.2
set_option maxRecDepth 100000 in
set_option maxHeartbeats 4000000 in
theorem m11_sum_b (E : EV) (l : Launch) (d : Nat) (R : Nat → Int32 → Int32 → G → Option (Int32 × G)) (IH : SG1 E l R d) (g : G) : ∀ u, kb11_sum R g = some u → MI E l yX11_sum cX11_sum 3 (some .int) (4 + d + 1) 0 0 [.ref (E.ad 47)] g u := by
  intro u h
  refine MG.of (by decide +kernel) (Nat.le_of_ble_eq_true rfl) ?_
  intro p e s m args below meth c C hr hnm ls hl hG
  have C : Cx p s m args meth c cX11_sum 3 RX11 E := C
  have hx := C.1
  have hb := C.2.1
  have hl : lv_has ls 3 [(0, .ref (E.ad 47))] := hl
  unfold kb11_sum at h
  have j23 : ∀ (K5 : Int32 → G → Option (Int32 × G)), (∀ (v1 : Int32) (g : G) (H : Heap) (locs : List Loc) (ls : Array Slot), Gd E s H locs g [] → lv_has ls 3 [(0, .ref (E.ad 47)), (1, .int v1)] → K5 v1 g = some u → W p l e (rmD (4 + d + 1) 0 0) s m args below meth c H locs 0 0 (MQ below (QI E s.heap.size u.1 u.2) args s 0 0 (AA E s.heap.size)) (F0 m 5 ls [])) → ∀ (v1 : Int32) (g : G) (H : Heap) (locs : List Loc) (ls : Array Slot), Gd E s H locs g [] → lv_has ls 3 [(0, .ref (E.ad 47)), (1, .int v1)] → k11_sum_23 R K5 v1 g = some u → W p l e (rmD (4 + d + 1) 0 0) s m args below meth c H locs 0 0 (MQ below (QI E s.heap.size u.1 u.2) args s 0 0 (AA E s.heap.size)) (F0 m 23 ls []) := by
    intro K5 hK5 v1 g H locs ls hG hl h
    unfold k11_sum_23 at h
    refine lv_aload_n hx hb dX11_sum_23 rfl (lv_at hl 0 rfl) ?_
    refine r_getA (j := 49) C hG FX11_17 rfl rfl dX11_sum_24 ?_
    refine lv_aload_n hx hb dX11_sum_27 rfl (lv_at hl 0 rfl) ?_
    refine r_getI C hG FX11_119 rfl rfl dX11_sum_28 ?_
    refine r_ild C hG (N := 402) rfl (by decide) dX11_sum_31 h (fun x1 h => ?_)
    refine lv_istore_n (lv' := [(2, .int x1), (0, .ref (E.ad 47)), (1, .int v1)]) hx hb dX11_sum_32 rfl hl (by decide) rfl (fun ls hl => ?_)
    refine lv_aload_n hx hb dX11_sum_33 rfl (lv_at hl 1 rfl) ?_
    refine lv_dup hx hb dX11_sum_34 rfl ?_
    refine r_getI C hG FX11_119 rfl rfl dX11_sum_35 ?_
    refine lv_iconst (v := 1) hx hb dX11_sum_38 (by decide) ?_
    refine lv_iadd hx hb dX11_sum_39 ?_
    refine r_putI C hG FX11_119 rfl rfl dX11_sum_40 h (fun H locs g2 hG h => ?_)
    refine lv_aload_n hx hb dX11_sum_43 rfl (lv_at hl 1 rfl) ?_
    refine lv_iload_n hx hb dX11_sum_44 rfl (lv_at hl 0 rfl) ?_
    refine lv_iload_n hx hb dX11_sum_45 rfl (lv_at hl 2 rfl) ?_
    refine lv_aload_n hx hb dX11_sum_46 rfl (lv_at hl 1 rfl) ?_
    refine r_callVI C hl.1 hG [] [.int v1, .int x1, .ref (E.ad 47)] (IH.2.2.2.2.2.1 g2) LX11_202 rfl KC11 rfl (rm_ok (by omega) (by decide)) (Nat.le_of_ble_eq_true rfl) ⟨Nat.le_refl _, Nat.le_refl _⟩ rfl dX11_sum_47 h (fun u3 H locs hG h => ?_)
    refine r_callVI C hl.1 hG [.int x1, .int v1, .int u3.1] [] (m11_node E l x1 v1 u3.1 u3.2) LX11_177 rfl KC11 rfl (rm_ok (by omega) (by decide)) (Nat.le_of_ble_eq_true rfl) ⟨Nat.le_refl _, Nat.le_refl _⟩ rfl dX11_sum_50 h (fun u4 H locs hG h => ?_)
    refine r_nm h (fun x5 h => ?_)
    refine lv_istore_n (lv' := [(1, .int x5), (2, .int x1), (0, .ref (E.ad 47))]) hx hb dX11_sum_53 rfl hl (by decide) rfl (fun ls hl => ?_)
    refine lv_goto (tgt := 5) hx hb dX11_sum_54 (by decide) ?_
    exact hK5 x5 u4.2 _ _ _ hG (lv_sub hl [2, 0] rfl) h
  have j5 : ∀ f : Nat, ∀ (v1 : Int32) (g : G) (H : Heap) (locs : List Loc) (ls : Array Slot), Gd E s H locs g [] → lv_has ls 3 [(0, .ref (E.ad 47)), (1, .int v1)] → k11_sum_5 R f v1 g = some u → W p l e (rmD (4 + d + 1) 0 0) s m args below meth c H locs 0 0 (MQ below (QI E s.heap.size u.1 u.2) args s 0 0 (AA E s.heap.size)) (F0 m 5 ls []) := by
    intro f
    induction f with
    | zero =>
      intro v1 g H locs ls hG hl h
      unfold k11_sum_5 at h
      cases h
    | succ f ih =>
      intro v1 g H locs ls hG hl h
      unfold k11_sum_5 at h
      refine lv_aload_n hx hb dX11_sum_5 rfl (lv_at hl 0 rfl) ?_
      refine lv_bipush (v := 40) hx hb dX11_sum_6 (by decide) ?_
      refine r_callVIP C hl.1 hG [.int 40] [] (m11_is E l 40 g) LX11_128 rfl KC11 rfl (rm_ok (by omega) (by decide)) (Nat.le_of_ble_eq_true rfl) ⟨Nat.le_refl _, Nat.le_refl _⟩ rfl dX11_sum_8 h (fun u6 H locs hG h => ?_)
      refine lv_if_ne (tgt := 23) hx hb dX11_sum_11 (by decide) (fun c7 => ?_) (fun c7 => ?_)
      · have h := (if_inv h).2 c7
        exact j23 (k11_sum_5 R f) ih v1 g _ _ _ hG (lv_sub hl [0, 1] rfl) h
      · have h := (if_inv h).1 c7
        refine lv_aload_n hx hb dX11_sum_14 rfl (lv_at hl 0 rfl) ?_
        refine lv_bipush (v := 41) hx hb dX11_sum_15 (by decide) ?_
        refine r_callVIP C hl.1 hG [.int 41] [] (m11_is E l 41 g) LX11_128 rfl KC11 rfl (rm_ok (by omega) (by decide)) (Nat.le_of_ble_eq_true rfl) ⟨Nat.le_refl _, Nat.le_refl _⟩ rfl dX11_sum_17 h (fun u8 H locs hG h => ?_)
        refine lv_if_eq (tgt := 57) hx hb dX11_sum_20 (by decide) (fun c9 => ?_) (fun c9 => ?_)
        · have h := (if_inv h).1 c9
          refine lv_iload_n hx hb dX11_sum_57 rfl (lv_at hl 1 rfl) ?_
          exact r_iret C hG hr rfl dX11_sum_58 h
        · have h := (if_inv h).2 c9
          exact j23 (k11_sum_5 R f) ih v1 g _ _ _ hG (lv_sub hl [0, 1] rfl) h
  refine lv_aload_n hx hb dX11_sum_0 rfl (lv_at hl 0 rfl) ?_
  refine r_callVI C hl.1 hG [] [] (IH.2.2.2.2.2.1 g) LX11_202 rfl KC11 rfl (rm_ok (by omega) (by decide)) (Nat.le_of_ble_eq_true rfl) ⟨Nat.le_refl _, Nat.le_refl _⟩ rfl dX11_sum_1 h (fun u10 H locs hG h => ?_)
  refine r_nm h (fun x11 h => ?_)
  refine lv_istore_n (lv' := [(1, .int x11), (0, .ref (E.ad 47))]) hx hb dX11_sum_4 rfl hl (by decide) rfl (fun ls hl => ?_)
  exact j5 FU x11 u10.2 _ _ _ hG (lv_sub hl [1, 0] rfl) h
def k11_comparison_33 (R : Nat → Int32 → Int32 → G → Option (Int32 × G))  (g : G) : Option (Int32 × G) :=
      (k11_wrong g).bind fun g1 =>
      some (0, g1)
def kb11_comparison (R : Nat → Int32 → Int32 → G → Option (Int32 × G))  (g : G) : Option (Int32 × G) :=
  (R 4 0 0 g).bind fun u2 =>
  bd u2.1 fun x3 =>
  ld u2.2 49 402 (u2.2 47 8) fun x4 =>
  if (u2.2 47 9) = 0 then
    (k11_isIn x4 44 48 u2.2).bind fun u6 =>
    if u6 = 0 then
      k11_comparison_33 R u2.2
    else
      bd (up u2.2 47 8 ((u2.2 47 8) + 1)) fun g8 =>
      (R 4 0 0 g8).bind fun u9 =>
      (k11_node x4 x3 u9.1 u9.2).bind fun u10 =>
      some (u10.1, u10.2)
  else
    k11_comparison_33 R u2.2
set_option maxRecDepth 100000 in
set_option maxHeartbeats 4000000 in
theorem m11_comparison_b (E : EV) (l : Launch) (d : Nat) (R : Nat → Int32 → Int32 → G → Option (Int32 × G)) (IH : SG1 E l R d) (g : G) : ∀ u, kb11_comparison R g = some u → MI E l yX11_comparison cX11_comparison 3 (some .int) (4 + d + 1) 0 0 [.ref (E.ad 47)] g u := by
  intro u h
  refine MG.of (by decide +kernel) (Nat.le_of_ble_eq_true rfl) ?_
  intro p e s m args below meth c C hr hnm ls hl hG
  have C : Cx p s m args meth c cX11_comparison 3 RX11 E := C
  have hx := C.1
  have hb := C.2.1
  have hl : lv_has ls 3 [(0, .ref (E.ad 47))] := hl
  unfold kb11_comparison at h
  have j33 : ∀ (g : G) (H : Heap) (locs : List Loc) (ls : Array Slot), Gd E s H locs g [] → lv_has ls 3 [(0, .ref (E.ad 47))] → k11_comparison_33 R g = some u → W p l e (rmD (4 + d + 1) 0 0) s m args below meth c H locs 0 0 (MQ below (QI E s.heap.size u.1 u.2) args s 0 0 (AA E s.heap.size)) (F0 m 33 ls []) := by
    intro g H locs ls hG hl h
    unfold k11_comparison_33 at h
    refine lv_aload_n hx hb dX11_comparison_33 rfl (lv_at hl 0 rfl) ?_
    refine r_callVV C hl.1 hG [] [] (m11_wrong E l g) LX11_131 rfl KC11 rfl (rm_ok (by omega) (by decide)) (Nat.le_of_ble_eq_true rfl) ⟨Nat.le_refl _, Nat.le_refl _⟩ rfl dX11_comparison_34 h (fun g1 H locs hG h => ?_)
    refine lv_iconst (v := 0) hx hb dX11_comparison_37 (by decide) ?_
    exact r_iret C hG hr rfl dX11_comparison_38 h
  refine lv_aload_n hx hb dX11_comparison_0 rfl (lv_at hl 0 rfl) ?_
  refine r_callVI C hl.1 hG [] [] (IH.2.2.2.2.1 g) LX11_174 rfl KC11 rfl (rm_ok (by omega) (by decide)) (Nat.le_of_ble_eq_true rfl) ⟨Nat.le_refl _, Nat.le_refl _⟩ rfl dX11_comparison_1 h (fun u2 H locs hG h => ?_)
  refine r_nm h (fun x3 h => ?_)
  refine lv_istore_n (lv' := [(1, .int x3), (0, .ref (E.ad 47))]) hx hb dX11_comparison_4 rfl hl (by decide) rfl (fun ls hl => ?_)
  refine lv_aload_n hx hb dX11_comparison_5 rfl (lv_at hl 1 rfl) ?_
  refine r_getA (j := 49) C hG FX11_17 rfl rfl dX11_comparison_6 ?_
  refine lv_aload_n hx hb dX11_comparison_9 rfl (lv_at hl 1 rfl) ?_
  refine r_getI C hG FX11_119 rfl rfl dX11_comparison_10 ?_
  refine r_ild C hG (N := 402) rfl (by decide) dX11_comparison_13 h (fun x4 h => ?_)
  refine lv_istore_n (lv' := [(2, .int x4), (1, .int x3), (0, .ref (E.ad 47))]) hx hb dX11_comparison_14 rfl hl (by decide) rfl (fun ls hl => ?_)
  refine lv_aload_n hx hb dX11_comparison_15 rfl (lv_at hl 2 rfl) ?_
  refine r_getI C hG FX11_115 rfl rfl dX11_comparison_16 ?_
  refine lv_if_ne (tgt := 33) hx hb dX11_comparison_19 (by decide) (fun c5 => ?_) (fun c5 => ?_)
  · have h := (if_inv h).2 c5
    exact j33 u2.2 _ _ _ hG (lv_sub hl [2] rfl) h
  · have h := (if_inv h).1 c5
    refine lv_iload_n hx hb dX11_comparison_22 rfl (lv_at hl 0 rfl) ?_
    refine lv_bipush (v := 44) hx hb dX11_comparison_23 (by decide) ?_
    refine lv_bipush (v := 48) hx hb dX11_comparison_25 (by decide) ?_
    refine r_callSIP C hl.1 hG [.int x4, .int 44, .int 48] [] (m11_isIn E l x4 44 48 u2.2) LX11_67 rfl (rm_ok (by omega) (by decide)) (Nat.le_of_ble_eq_true rfl) ⟨Nat.le_refl _, Nat.le_refl _⟩ rfl dX11_comparison_27 h (fun u6 H locs hG h => ?_)
    refine lv_if_ne (tgt := 39) hx hb dX11_comparison_30 (by decide) (fun c7 => ?_) (fun c7 => ?_)
    · have h := (if_inv h).2 c7
      refine lv_aload_n hx hb dX11_comparison_39 rfl (lv_at hl 2 rfl) ?_
      refine lv_dup hx hb dX11_comparison_40 rfl ?_
      refine r_getI C hG FX11_119 rfl rfl dX11_comparison_41 ?_
      refine lv_iconst (v := 1) hx hb dX11_comparison_44 (by decide) ?_
      refine lv_iadd hx hb dX11_comparison_45 ?_
      refine r_putI C hG FX11_119 rfl rfl dX11_comparison_46 h (fun H locs g8 hG h => ?_)
      refine lv_aload_n hx hb dX11_comparison_49 rfl (lv_at hl 2 rfl) ?_
      refine lv_iload_n hx hb dX11_comparison_50 rfl (lv_at hl 0 rfl) ?_
      refine lv_iload_n hx hb dX11_comparison_51 rfl (lv_at hl 1 rfl) ?_
      refine lv_aload_n hx hb dX11_comparison_52 rfl (lv_at hl 2 rfl) ?_
      refine r_callVI C hl.1 hG [] [.int x3, .int x4, .ref (E.ad 47)] (IH.2.2.2.2.1 g8) LX11_174 rfl KC11 rfl (rm_ok (by omega) (by decide)) (Nat.le_of_ble_eq_true rfl) ⟨Nat.le_refl _, Nat.le_refl _⟩ rfl dX11_comparison_53 h (fun u9 H locs hG h => ?_)
      refine r_callVI C hl.1 hG [.int x4, .int x3, .int u9.1] [] (m11_node E l x4 x3 u9.1 u9.2) LX11_177 rfl KC11 rfl (rm_ok (by omega) (by decide)) (Nat.le_of_ble_eq_true rfl) ⟨Nat.le_refl _, Nat.le_refl _⟩ rfl dX11_comparison_56 h (fun u10 H locs hG h => ?_)
      exact r_iret C hG hr rfl dX11_comparison_59 h
    · have h := (if_inv h).1 c7
      exact j33 u2.2 _ _ _ hG (lv_sub hl [2] rfl) h
def kb11_single (R : Nat → Int32 → Int32 → G → Option (Int32 × G))  (g : G) : Option (Int32 × G) :=
  (k11_is 21 g).bind fun u1 =>
  if u1 = 0 then
    (k11_is 51 g).bind fun u3 =>
    if u3 = 0 then
      (k11_takes 19 g).bind fun u5 =>
      if u5.1 = 0 then
        (k11_takes 20 u5.2).bind fun u7 =>
        if u7.1 = 0 then
          (R 3 0 0 u7.2).bind fun u9 =>
          some (u9.1, u9.2)
        else
          (k11_name u7.2).bind fun u10 =>
          (k11_node 20 u10.1 0 u10.2).bind fun u11 =>
          some (u11.1, u11.2)
      else
        (k11_node 19 0 0 u5.2).bind fun u12 =>
        some (u12.1, u12.2)
    else
      (k11_deeper g).bind fun g13 =>
      (R 0 0 0 g13).bind fun u14 =>
      bd u14.1 fun x15 =>
      (k11_take 52 u14.2).bind fun g16 =>
      bd (up g16 47 12 ((g16 47 12) - 1)) fun g17 =>
      some (x15, g17)
  else
    (k11_deeper g).bind fun g18 =>
    (R 2 0 0 g18).bind fun u19 =>
    bd u19.1 fun x20 =>
    bd (up u19.2 47 12 ((u19.2 47 12) - 1)) fun g21 =>
    (k11_node 21 x20 0 g21).bind fun u22 =>
    some (u22.1, u22.2)
set_option maxRecDepth 100000 in
set_option maxHeartbeats 4000000 in
theorem m11_single_b (E : EV) (l : Launch) (d : Nat) (R : Nat → Int32 → Int32 → G → Option (Int32 × G)) (IH : SG1 E l R d) (g : G) : ∀ u, kb11_single R g = some u → MI E l yX11_single cX11_single 2 (some .int) (4 + d + 1) 0 0 [.ref (E.ad 47)] g u := by
  intro u h
  refine MG.of (by decide +kernel) (Nat.le_of_ble_eq_true rfl) ?_
  intro p e s m args below meth c C hr hnm ls hl hG
  have C : Cx p s m args meth c cX11_single 2 RX11 E := C
  have hx := C.1
  have hb := C.2.1
  have hl : lv_has ls 2 [(0, .ref (E.ad 47))] := hl
  unfold kb11_single at h
  refine lv_aload_n hx hb dX11_single_0 rfl (lv_at hl 0 rfl) ?_
  refine lv_bipush (v := 21) hx hb dX11_single_1 (by decide) ?_
  refine r_callVIP C hl.1 hG [.int 21] [] (m11_is E l 21 g) LX11_128 rfl KC11 rfl (rm_ok (by omega) (by decide)) (Nat.le_of_ble_eq_true rfl) ⟨Nat.le_refl _, Nat.le_refl _⟩ rfl dX11_single_3 h (fun u1 H locs hG h => ?_)
  refine lv_if_eq (tgt := 37) hx hb dX11_single_6 (by decide) (fun c2 => ?_) (fun c2 => ?_)
  · have h := (if_inv h).1 c2
    refine lv_aload_n hx hb dX11_single_37 rfl (lv_at hl 0 rfl) ?_
    refine lv_bipush (v := 51) hx hb dX11_single_38 (by decide) ?_
    refine r_callVIP C hl.1 hG [.int 51] [] (m11_is E l 51 g) LX11_128 rfl KC11 rfl (rm_ok (by omega) (by decide)) (Nat.le_of_ble_eq_true rfl) ⟨Nat.le_refl _, Nat.le_refl _⟩ rfl dX11_single_40 h (fun u3 H locs hG h => ?_)
    refine lv_if_eq (tgt := 73) hx hb dX11_single_43 (by decide) (fun c4 => ?_) (fun c4 => ?_)
    · have h := (if_inv h).1 c4
      refine lv_aload_n hx hb dX11_single_73 rfl (lv_at hl 0 rfl) ?_
      refine lv_bipush (v := 19) hx hb dX11_single_74 (by decide) ?_
      refine r_callVI C hl.1 hG [.int 19] [] (m11_takes E l 19 g) LX11_184 rfl KC11 rfl (rm_ok (by omega) (by decide)) (Nat.le_of_ble_eq_true rfl) ⟨Nat.le_refl _, Nat.le_refl _⟩ rfl dX11_single_76 h (fun u5 H locs hG h => ?_)
      refine lv_if_eq (tgt := 91) hx hb dX11_single_79 (by decide) (fun c6 => ?_) (fun c6 => ?_)
      · have h := (if_inv h).1 c6
        refine lv_aload_n hx hb dX11_single_91 rfl (lv_at hl 0 rfl) ?_
        refine lv_bipush (v := 20) hx hb dX11_single_92 (by decide) ?_
        refine r_callVI C hl.1 hG [.int 20] [] (m11_takes E l 20 u5.2) LX11_184 rfl KC11 rfl (rm_ok (by omega) (by decide)) (Nat.le_of_ble_eq_true rfl) ⟨Nat.le_refl _, Nat.le_refl _⟩ rfl dX11_single_94 h (fun u7 H locs hG h => ?_)
        refine lv_if_eq (tgt := 114) hx hb dX11_single_97 (by decide) (fun c8 => ?_) (fun c8 => ?_)
        · have h := (if_inv h).1 c8
          refine lv_aload_n hx hb dX11_single_114 rfl (lv_at hl 0 rfl) ?_
          refine r_callVI C hl.1 hG [] [] (IH.2.2.2.1 u7.2) LX11_211 rfl KC11 rfl (rm_ok (by omega) (by decide)) (Nat.le_of_ble_eq_true rfl) ⟨Nat.le_refl _, Nat.le_refl _⟩ rfl dX11_single_115 h (fun u9 H locs hG h => ?_)
          exact r_iret C hG hr rfl dX11_single_118 h
        · have h := (if_inv h).2 c8
          refine lv_aload_n hx hb dX11_single_100 rfl (lv_at hl 0 rfl) ?_
          refine lv_bipush (v := 20) hx hb dX11_single_101 (by decide) ?_
          refine lv_aload_n hx hb dX11_single_103 rfl (lv_at hl 0 rfl) ?_
          refine r_callVI C hl.1 hG [] [.int 20, .ref (E.ad 47)] (m11_name E l u7.2) LX11_181 rfl KC11 rfl (rm_ok (by omega) (by decide)) (Nat.le_of_ble_eq_true rfl) ⟨Nat.le_refl _, Nat.le_refl _⟩ rfl dX11_single_104 h (fun u10 H locs hG h => ?_)
          refine lv_iconst (v := 0) hx hb dX11_single_107 (by decide) ?_
          refine r_callVI C hl.1 hG [.int 20, .int u10.1, .int 0] [] (m11_node E l 20 u10.1 0 u10.2) LX11_177 rfl KC11 rfl (rm_ok (by omega) (by decide)) (Nat.le_of_ble_eq_true rfl) ⟨Nat.le_refl _, Nat.le_refl _⟩ rfl dX11_single_108 h (fun u11 H locs hG h => ?_)
          refine lv_goto (tgt := 118) hx hb dX11_single_111 (by decide) ?_
          exact r_iret C hG hr rfl dX11_single_118 h
      · have h := (if_inv h).2 c6
        refine lv_aload_n hx hb dX11_single_82 rfl (lv_at hl 0 rfl) ?_
        refine lv_bipush (v := 19) hx hb dX11_single_83 (by decide) ?_
        refine lv_iconst (v := 0) hx hb dX11_single_85 (by decide) ?_
        refine lv_iconst (v := 0) hx hb dX11_single_86 (by decide) ?_
        refine r_callVI C hl.1 hG [.int 19, .int 0, .int 0] [] (m11_node E l 19 0 0 u5.2) LX11_177 rfl KC11 rfl (rm_ok (by omega) (by decide)) (Nat.le_of_ble_eq_true rfl) ⟨Nat.le_refl _, Nat.le_refl _⟩ rfl dX11_single_87 h (fun u12 H locs hG h => ?_)
        exact r_iret C hG hr rfl dX11_single_90 h
    · have h := (if_inv h).2 c4
      refine lv_aload_n hx hb dX11_single_46 rfl (lv_at hl 0 rfl) ?_
      refine r_callVV C hl.1 hG [] [] (m11_deeper E l g) LX11_171 rfl KC11 rfl (rm_ok (by omega) (by decide)) (Nat.le_of_ble_eq_true rfl) ⟨Nat.le_refl _, Nat.le_refl _⟩ rfl dX11_single_47 h (fun g13 H locs hG h => ?_)
      refine lv_aload_n hx hb dX11_single_50 rfl (lv_at hl 0 rfl) ?_
      refine r_callVI C hl.1 hG [] [] (IH.1 g13) LX11_208 rfl KC11 rfl (rm_ok (by omega) (by decide)) (Nat.le_of_ble_eq_true rfl) ⟨Nat.le_refl _, Nat.le_refl _⟩ rfl dX11_single_51 h (fun u14 H locs hG h => ?_)
      refine r_nm h (fun x15 h => ?_)
      refine lv_istore_n (lv' := [(1, .int x15), (0, .ref (E.ad 47))]) hx hb dX11_single_54 rfl hl (by decide) rfl (fun ls hl => ?_)
      refine lv_aload_n hx hb dX11_single_55 rfl (lv_at hl 1 rfl) ?_
      refine lv_bipush (v := 52) hx hb dX11_single_56 (by decide) ?_
      refine r_callVV C hl.1 hG [.int 52] [] (m11_take E l 52 u14.2) LX11_163 rfl KC11 rfl (rm_ok (by omega) (by decide)) (Nat.le_of_ble_eq_true rfl) ⟨Nat.le_refl _, Nat.le_refl _⟩ rfl dX11_single_58 h (fun g16 H locs hG h => ?_)
      refine lv_aload_n hx hb dX11_single_61 rfl (lv_at hl 1 rfl) ?_
      refine lv_dup hx hb dX11_single_62 rfl ?_
      refine r_getI C hG FX11_134 rfl rfl dX11_single_63 ?_
      refine lv_iconst (v := 1) hx hb dX11_single_66 (by decide) ?_
      refine lv_isub hx hb dX11_single_67 ?_
      refine r_putI C hG FX11_134 rfl rfl dX11_single_68 h (fun H locs g17 hG h => ?_)
      refine lv_iload_n hx hb dX11_single_71 rfl (lv_at hl 0 rfl) ?_
      exact r_iret C hG hr rfl dX11_single_72 h
  · have h := (if_inv h).2 c2
    refine lv_aload_n hx hb dX11_single_9 rfl (lv_at hl 0 rfl) ?_
    refine r_callVV C hl.1 hG [] [] (m11_deeper E l g) LX11_171 rfl KC11 rfl (rm_ok (by omega) (by decide)) (Nat.le_of_ble_eq_true rfl) ⟨Nat.le_refl _, Nat.le_refl _⟩ rfl dX11_single_10 h (fun g18 H locs hG h => ?_)
    refine lv_aload_n hx hb dX11_single_13 rfl (lv_at hl 0 rfl) ?_
    refine r_callVI C hl.1 hG [] [] (IH.2.2.1 g18) LX11_205 rfl KC11 rfl (rm_ok (by omega) (by decide)) (Nat.le_of_ble_eq_true rfl) ⟨Nat.le_refl _, Nat.le_refl _⟩ rfl dX11_single_14 h (fun u19 H locs hG h => ?_)
    refine r_nm h (fun x20 h => ?_)
    refine lv_istore_n (lv' := [(1, .int x20), (0, .ref (E.ad 47))]) hx hb dX11_single_17 rfl hl (by decide) rfl (fun ls hl => ?_)
    refine lv_aload_n hx hb dX11_single_18 rfl (lv_at hl 1 rfl) ?_
    refine lv_dup hx hb dX11_single_19 rfl ?_
    refine r_getI C hG FX11_134 rfl rfl dX11_single_20 ?_
    refine lv_iconst (v := 1) hx hb dX11_single_23 (by decide) ?_
    refine lv_isub hx hb dX11_single_24 ?_
    refine r_putI C hG FX11_134 rfl rfl dX11_single_25 h (fun H locs g21 hG h => ?_)
    refine lv_aload_n hx hb dX11_single_28 rfl (lv_at hl 1 rfl) ?_
    refine lv_bipush (v := 21) hx hb dX11_single_29 (by decide) ?_
    refine lv_iload_n hx hb dX11_single_31 rfl (lv_at hl 0 rfl) ?_
    refine lv_iconst (v := 0) hx hb dX11_single_32 (by decide) ?_
    refine r_callVI C hl.1 hG [.int 21, .int x20, .int 0] [] (m11_node E l 21 x20 0 g21) LX11_177 rfl KC11 rfl (rm_ok (by omega) (by decide)) (Nat.le_of_ble_eq_true rfl) ⟨Nat.le_refl _, Nat.le_refl _⟩ rfl dX11_single_33 h (fun u22 H locs hG h => ?_)
    exact r_iret C hG hr rfl dX11_single_36 h
def k11_both_5 (R : Nat → Int32 → Int32 → G → Option (Int32 × G))  : Nat → Int32 → G → Option (Int32 × G)
  | 0, _, _ => none
  | f + 1, v1, g =>
        (k11_takes 22 g).bind fun u1 =>
        if u1.1 = 0 then
          some (v1, u1.2)
        else
          (R 2 0 0 u1.2).bind fun u3 =>
          (k11_node 22 v1 u3.1 u3.2).bind fun u4 =>
          bd u4.1 fun x5 =>
          k11_both_5 R f x5 u4.2
def kb11_both (R : Nat → Int32 → Int32 → G → Option (Int32 × G))  (g : G) : Option (Int32 × G) :=
  (R 2 0 0 g).bind fun u6 =>
  bd u6.1 fun x7 =>
  k11_both_5 R FU x7 u6.2
set_option maxRecDepth 100000 in
set_option maxHeartbeats 4000000 in
theorem m11_both_b (E : EV) (l : Launch) (d : Nat) (R : Nat → Int32 → Int32 → G → Option (Int32 × G)) (IH : SG1 E l R d) (g : G) : ∀ u, kb11_both R g = some u → MI E l yX11_both cX11_both 2 (some .int) (4 + d + 1) 0 0 [.ref (E.ad 47)] g u := by
  intro u h
  refine MG.of (by decide +kernel) (Nat.le_of_ble_eq_true rfl) ?_
  intro p e s m args below meth c C hr hnm ls hl hG
  have C : Cx p s m args meth c cX11_both 2 RX11 E := C
  have hx := C.1
  have hb := C.2.1
  have hl : lv_has ls 2 [(0, .ref (E.ad 47))] := hl
  unfold kb11_both at h
  have j5 : ∀ f : Nat, ∀ (v1 : Int32) (g : G) (H : Heap) (locs : List Loc) (ls : Array Slot), Gd E s H locs g [] → lv_has ls 2 [(0, .ref (E.ad 47)), (1, .int v1)] → k11_both_5 R f v1 g = some u → W p l e (rmD (4 + d + 1) 0 0) s m args below meth c H locs 0 0 (MQ below (QI E s.heap.size u.1 u.2) args s 0 0 (AA E s.heap.size)) (F0 m 5 ls []) := by
    intro f
    induction f with
    | zero =>
      intro v1 g H locs ls hG hl h
      unfold k11_both_5 at h
      cases h
    | succ f ih =>
      intro v1 g H locs ls hG hl h
      unfold k11_both_5 at h
      refine lv_aload_n hx hb dX11_both_5 rfl (lv_at hl 0 rfl) ?_
      refine lv_bipush (v := 22) hx hb dX11_both_6 (by decide) ?_
      refine r_callVI C hl.1 hG [.int 22] [] (m11_takes E l 22 g) LX11_184 rfl KC11 rfl (rm_ok (by omega) (by decide)) (Nat.le_of_ble_eq_true rfl) ⟨Nat.le_refl _, Nat.le_refl _⟩ rfl dX11_both_8 h (fun u1 H locs hG h => ?_)
      refine lv_if_eq (tgt := 29) hx hb dX11_both_11 (by decide) (fun c2 => ?_) (fun c2 => ?_)
      · have h := (if_inv h).1 c2
        refine lv_iload_n hx hb dX11_both_29 rfl (lv_at hl 1 rfl) ?_
        exact r_iret C hG hr rfl dX11_both_30 h
      · have h := (if_inv h).2 c2
        refine lv_aload_n hx hb dX11_both_14 rfl (lv_at hl 0 rfl) ?_
        refine lv_bipush (v := 22) hx hb dX11_both_15 (by decide) ?_
        refine lv_iload_n hx hb dX11_both_17 rfl (lv_at hl 1 rfl) ?_
        refine lv_aload_n hx hb dX11_both_18 rfl (lv_at hl 0 rfl) ?_
        refine r_callVI C hl.1 hG [] [.int v1, .int 22, .ref (E.ad 47)] (IH.2.2.1 u1.2) LX11_205 rfl KC11 rfl (rm_ok (by omega) (by decide)) (Nat.le_of_ble_eq_true rfl) ⟨Nat.le_refl _, Nat.le_refl _⟩ rfl dX11_both_19 h (fun u3 H locs hG h => ?_)
        refine r_callVI C hl.1 hG [.int 22, .int v1, .int u3.1] [] (m11_node E l 22 v1 u3.1 u3.2) LX11_177 rfl KC11 rfl (rm_ok (by omega) (by decide)) (Nat.le_of_ble_eq_true rfl) ⟨Nat.le_refl _, Nat.le_refl _⟩ rfl dX11_both_22 h (fun u4 H locs hG h => ?_)
        refine r_nm h (fun x5 h => ?_)
        refine lv_istore_n (lv' := [(1, .int x5), (0, .ref (E.ad 47))]) hx hb dX11_both_25 rfl hl (by decide) rfl (fun ls hl => ?_)
        refine lv_goto (tgt := 5) hx hb dX11_both_26 (by decide) ?_
        exact ih x5 u4.2 _ _ _ hG (lv_sub hl [1, 0] rfl) h
  refine lv_aload_n hx hb dX11_both_0 rfl (lv_at hl 0 rfl) ?_
  refine r_callVI C hl.1 hG [] [] (IH.2.2.1 g) LX11_205 rfl KC11 rfl (rm_ok (by omega) (by decide)) (Nat.le_of_ble_eq_true rfl) ⟨Nat.le_refl _, Nat.le_refl _⟩ rfl dX11_both_1 h (fun u6 H locs hG h => ?_)
  refine r_nm h (fun x7 h => ?_)
  refine lv_istore_n (lv' := [(1, .int x7), (0, .ref (E.ad 47))]) hx hb dX11_both_4 rfl hl (by decide) rfl (fun ls hl => ?_)
  exact j5 FU x7 u6.2 _ _ _ hG (lv_sub hl [1, 0] rfl) h
def k11_test_5 (R : Nat → Int32 → Int32 → G → Option (Int32 × G))  : Nat → Int32 → G → Option (Int32 × G)
  | 0, _, _ => none
  | f + 1, v1, g =>
        (k11_takes 23 g).bind fun u1 =>
        if u1.1 = 0 then
          some (v1, u1.2)
        else
          (R 1 0 0 u1.2).bind fun u3 =>
          (k11_node 23 v1 u3.1 u3.2).bind fun u4 =>
          bd u4.1 fun x5 =>
          k11_test_5 R f x5 u4.2
def kb11_test (R : Nat → Int32 → Int32 → G → Option (Int32 × G))  (g : G) : Option (Int32 × G) :=
  (R 1 0 0 g).bind fun u6 =>
  bd u6.1 fun x7 =>
  k11_test_5 R FU x7 u6.2
set_option maxRecDepth 100000 in
set_option maxHeartbeats 4000000 in
theorem m11_test_b (E : EV) (l : Launch) (d : Nat) (R : Nat → Int32 → Int32 → G → Option (Int32 × G)) (IH : SG1 E l R d) (g : G) : ∀ u, kb11_test R g = some u → MI E l yX11_test cX11_test 2 (some .int) (4 + d + 1) 0 0 [.ref (E.ad 47)] g u := by
  intro u h
  refine MG.of (by decide +kernel) (Nat.le_of_ble_eq_true rfl) ?_
  intro p e s m args below meth c C hr hnm ls hl hG
  have C : Cx p s m args meth c cX11_test 2 RX11 E := C
  have hx := C.1
  have hb := C.2.1
  have hl : lv_has ls 2 [(0, .ref (E.ad 47))] := hl
  unfold kb11_test at h
  have j5 : ∀ f : Nat, ∀ (v1 : Int32) (g : G) (H : Heap) (locs : List Loc) (ls : Array Slot), Gd E s H locs g [] → lv_has ls 2 [(0, .ref (E.ad 47)), (1, .int v1)] → k11_test_5 R f v1 g = some u → W p l e (rmD (4 + d + 1) 0 0) s m args below meth c H locs 0 0 (MQ below (QI E s.heap.size u.1 u.2) args s 0 0 (AA E s.heap.size)) (F0 m 5 ls []) := by
    intro f
    induction f with
    | zero =>
      intro v1 g H locs ls hG hl h
      unfold k11_test_5 at h
      cases h
    | succ f ih =>
      intro v1 g H locs ls hG hl h
      unfold k11_test_5 at h
      refine lv_aload_n hx hb dX11_test_5 rfl (lv_at hl 0 rfl) ?_
      refine lv_bipush (v := 23) hx hb dX11_test_6 (by decide) ?_
      refine r_callVI C hl.1 hG [.int 23] [] (m11_takes E l 23 g) LX11_184 rfl KC11 rfl (rm_ok (by omega) (by decide)) (Nat.le_of_ble_eq_true rfl) ⟨Nat.le_refl _, Nat.le_refl _⟩ rfl dX11_test_8 h (fun u1 H locs hG h => ?_)
      refine lv_if_eq (tgt := 29) hx hb dX11_test_11 (by decide) (fun c2 => ?_) (fun c2 => ?_)
      · have h := (if_inv h).1 c2
        refine lv_iload_n hx hb dX11_test_29 rfl (lv_at hl 1 rfl) ?_
        exact r_iret C hG hr rfl dX11_test_30 h
      · have h := (if_inv h).2 c2
        refine lv_aload_n hx hb dX11_test_14 rfl (lv_at hl 0 rfl) ?_
        refine lv_bipush (v := 23) hx hb dX11_test_15 (by decide) ?_
        refine lv_iload_n hx hb dX11_test_17 rfl (lv_at hl 1 rfl) ?_
        refine lv_aload_n hx hb dX11_test_18 rfl (lv_at hl 0 rfl) ?_
        refine r_callVI C hl.1 hG [] [.int v1, .int 23, .ref (E.ad 47)] (IH.2.1 u1.2) LX11_214 rfl KC11 rfl (rm_ok (by omega) (by decide)) (Nat.le_of_ble_eq_true rfl) ⟨Nat.le_refl _, Nat.le_refl _⟩ rfl dX11_test_19 h (fun u3 H locs hG h => ?_)
        refine r_callVI C hl.1 hG [.int 23, .int v1, .int u3.1] [] (m11_node E l 23 v1 u3.1 u3.2) LX11_177 rfl KC11 rfl (rm_ok (by omega) (by decide)) (Nat.le_of_ble_eq_true rfl) ⟨Nat.le_refl _, Nat.le_refl _⟩ rfl dX11_test_22 h (fun u4 H locs hG h => ?_)
        refine r_nm h (fun x5 h => ?_)
        refine lv_istore_n (lv' := [(1, .int x5), (0, .ref (E.ad 47))]) hx hb dX11_test_25 rfl hl (by decide) rfl (fun ls hl => ?_)
        refine lv_goto (tgt := 5) hx hb dX11_test_26 (by decide) ?_
        exact ih x5 u4.2 _ _ _ hG (lv_sub hl [1, 0] rfl) h
  refine lv_aload_n hx hb dX11_test_0 rfl (lv_at hl 0 rfl) ?_
  refine r_callVI C hl.1 hG [] [] (IH.2.1 g) LX11_214 rfl KC11 rfl (rm_ok (by omega) (by decide)) (Nat.le_of_ble_eq_true rfl) ⟨Nat.le_refl _, Nat.le_refl _⟩ rfl dX11_test_1 h (fun u6 H locs hG h => ?_)
  refine r_nm h (fun x7 h => ?_)
  refine lv_istore_n (lv' := [(1, .int x7), (0, .ref (E.ad 47))]) hx hb dX11_test_4 rfl hl (by decide) rfl (fun ls hl => ?_)
  exact j5 FU x7 u6.2 _ _ _ hG (lv_sub hl [1, 0] rfl) h
def kG1 : Nat → Nat → Int32 → Int32 → G → Option (Int32 × G)
  | 0, _, _, _, _ => none
  | d + 1, 0, _, _, g => kb11_test (kG1 d) g
  | d + 1, 1, _, _, g => kb11_both (kG1 d) g
  | d + 1, 2, _, _, g => kb11_single (kG1 d) g
  | d + 1, 3, _, _, g => kb11_comparison (kG1 d) g
  | d + 1, 4, _, _, g => kb11_sum (kG1 d) g
  | d + 1, 5, _, _, g => kb11_product (kG1 d) g
  | d + 1, 6, _, _, g => kb11_value (kG1 d) g
  | d + 1, 7, _, _, g => kb11_inBrackets (kG1 d) g
  | d + 1, 8, a, _, g => kb11_ofTwo (kG1 d) a g
  | _ + 1, _, _, _, _ => none
set_option maxRecDepth 100000 in
theorem sg1 (E : EV) (l : Launch) : ∀ d, SG1 E l (kG1 d) d := by
  intro d
  induction d with
  | zero =>
    refine ⟨?_, ?_, ?_, ?_, ?_, ?_, ?_, ?_, ?_⟩ <;> intros <;> rename_i h <;> unfold kG1 at h <;> cases h
  | succ d ih =>
    exact ⟨fun g u h => m11_test_b E l d (kG1 d) ih g u h, fun g u h => m11_both_b E l d (kG1 d) ih g u h, fun g u h => m11_single_b E l d (kG1 d) ih g u h, fun g u h => m11_comparison_b E l d (kG1 d) ih g u h, fun g u h => m11_sum_b E l d (kG1 d) ih g u h, fun g u h => m11_product_b E l d (kG1 d) ih g u h, fun g u h => m11_value_b E l d (kG1 d) ih g u h, fun g u h => m11_inBrackets_b E l d (kG1 d) ih g u h, fun a1 g u h => m11_ofTwo_b E l d (kG1 d) ih a1 g u h⟩
def k11_test (g : G) : Option (Int32 × G) := kG1 100 0 0 0 g
theorem m11_test (E : EV) (l : Launch) (g : G) : ∀ u, k11_test g = some u → MI E l yX11_test cX11_test 2 (some .int) 104 0 0 [.ref (E.ad 47)] g u := fun u h => (sg1 E l 100).1 g u h
def k11_both (g : G) : Option (Int32 × G) := kG1 100 1 0 0 g
theorem m11_both (E : EV) (l : Launch) (g : G) : ∀ u, k11_both g = some u → MI E l yX11_both cX11_both 2 (some .int) 104 0 0 [.ref (E.ad 47)] g u := fun u h => (sg1 E l 100).2.1 g u h
def k11_single (g : G) : Option (Int32 × G) := kG1 100 2 0 0 g
theorem m11_single (E : EV) (l : Launch) (g : G) : ∀ u, k11_single g = some u → MI E l yX11_single cX11_single 2 (some .int) 104 0 0 [.ref (E.ad 47)] g u := fun u h => (sg1 E l 100).2.2.1 g u h
def k11_comparison (g : G) : Option (Int32 × G) := kG1 100 3 0 0 g
theorem m11_comparison (E : EV) (l : Launch) (g : G) : ∀ u, k11_comparison g = some u → MI E l yX11_comparison cX11_comparison 3 (some .int) 104 0 0 [.ref (E.ad 47)] g u := fun u h => (sg1 E l 100).2.2.2.1 g u h
def k11_sum (g : G) : Option (Int32 × G) := kG1 100 4 0 0 g
theorem m11_sum (E : EV) (l : Launch) (g : G) : ∀ u, k11_sum g = some u → MI E l yX11_sum cX11_sum 3 (some .int) 104 0 0 [.ref (E.ad 47)] g u := fun u h => (sg1 E l 100).2.2.2.2.1 g u h
def k11_product (g : G) : Option (Int32 × G) := kG1 100 5 0 0 g
theorem m11_product (E : EV) (l : Launch) (g : G) : ∀ u, k11_product g = some u → MI E l yX11_product cX11_product 3 (some .int) 104 0 0 [.ref (E.ad 47)] g u := fun u h => (sg1 E l 100).2.2.2.2.2.1 g u h
def k11_value (g : G) : Option (Int32 × G) := kG1 100 6 0 0 g
theorem m11_value (E : EV) (l : Launch) (g : G) : ∀ u, k11_value g = some u → MI E l yX11_value cX11_value 2 (some .int) 104 0 0 [.ref (E.ad 47)] g u := fun u h => (sg1 E l 100).2.2.2.2.2.2.1 g u h
def k11_inBrackets (g : G) : Option (Int32 × G) := kG1 100 7 0 0 g
theorem m11_inBrackets (E : EV) (l : Launch) (g : G) : ∀ u, k11_inBrackets g = some u → MI E l yX11_inBrackets cX11_inBrackets 2 (some .int) 104 0 0 [.ref (E.ad 47)] g u := fun u h => (sg1 E l 100).2.2.2.2.2.2.2.1 g u h
def k11_ofTwo (a1 : Int32) (g : G) : Option (Int32 × G) := kG1 100 8 a1 0 g
theorem m11_ofTwo (E : EV) (l : Launch) (a1 : Int32) (g : G) : ∀ u, k11_ofTwo a1 g = some u → MI E l yX11_ofTwo cX11_ofTwo 4 (some .int) 104 0 0 [.ref (E.ad 47), .int a1] g u := fun u h => (sg1 E l 100).2.2.2.2.2.2.2.2 a1 g u h
def k11_numberTo_29  (v2 : Int32) (g : G) : Option (Int32 × G) :=
      (k11_take 31 g).bind fun g1 =>
      some (v2, g1)
def k11_numberTo  (a1 : Int32) (g : G) : Option (Int32 × G) :=
  ld g 50 402 (g 47 8) fun x2 =>
  (k11_is 31 g).bind fun u3 =>
  if u3 = 0 then
    k11_numberTo_29 x2 g
  else
    if x2 ≤ a1 then
      k11_numberTo_29 x2 g
    else
      (k11_mark 5 g).bind fun g6 =>
      k11_numberTo_29 x2 g6
set_option maxRecDepth 100000 in
set_option maxHeartbeats 4000000 in
theorem m11_numberTo (E : EV) (l : Launch) (a1 : Int32) (g : G) : ∀ u, k11_numberTo a1 g = some u → MI E l yX11_numberTo cX11_numberTo 3 (some .int) 2 0 0 [.ref (E.ad 47), .int a1] g u := by
  intro u h
  refine MG.of (by decide +kernel) (Nat.le_of_ble_eq_true rfl) ?_
  intro p e s m args below meth c C hr hnm ls hl hG
  have C : Cx p s m args meth c cX11_numberTo 3 RX11 E := C
  have hx := C.1
  have hb := C.2.1
  have hl : lv_has ls 3 [(0, .ref (E.ad 47)), (1, .int a1)] := hl
  unfold k11_numberTo at h
  have j29 : ∀ (v2 : Int32) (g : G) (H : Heap) (locs : List Loc) (ls : Array Slot), Gd E s H locs g [] → lv_has ls 3 [(0, .ref (E.ad 47)), (2, .int v2)] → k11_numberTo_29 v2 g = some u → W p l e (rmD 2 0 0) s m args below meth c H locs 0 0 (MQ below (QI E s.heap.size u.1 u.2) args s 0 0 (AA E s.heap.size)) (F0 m 29 ls []) := by
    intro v2 g H locs ls hG hl h
    unfold k11_numberTo_29 at h
    refine lv_aload_n hx hb dX11_numberTo_29 rfl (lv_at hl 0 rfl) ?_
    refine lv_bipush (v := 31) hx hb dX11_numberTo_30 (by decide) ?_
    refine r_callVV C hl.1 hG [.int 31] [] (m11_take E l 31 g) LX11_163 rfl KC11 rfl (rm_ok (by decide) (by decide)) (Nat.le_of_ble_eq_true rfl) ⟨Nat.le_refl _, Nat.le_refl _⟩ rfl dX11_numberTo_32 h (fun g1 H locs hG h => ?_)
    refine lv_iload_n hx hb dX11_numberTo_35 rfl (lv_at hl 1 rfl) ?_
    exact r_iret C hG hr rfl dX11_numberTo_36 h
  refine lv_aload_n hx hb dX11_numberTo_0 rfl (lv_at hl 0 rfl) ?_
  refine r_getA (j := 50) C hG FX11_20 rfl rfl dX11_numberTo_1 ?_
  refine lv_aload_n hx hb dX11_numberTo_4 rfl (lv_at hl 0 rfl) ?_
  refine r_getI C hG FX11_119 rfl rfl dX11_numberTo_5 ?_
  refine r_ild C hG (N := 402) rfl (by decide) dX11_numberTo_8 h (fun x2 h => ?_)
  refine lv_istore_n (lv' := [(2, .int x2), (0, .ref (E.ad 47)), (1, .int a1)]) hx hb dX11_numberTo_9 rfl hl (by decide) rfl (fun ls hl => ?_)
  refine lv_aload_n hx hb dX11_numberTo_10 rfl (lv_at hl 1 rfl) ?_
  refine lv_bipush (v := 31) hx hb dX11_numberTo_11 (by decide) ?_
  refine r_callVIP C hl.1 hG [.int 31] [] (m11_is E l 31 g) LX11_128 rfl KC11 rfl (rm_ok (by decide) (by decide)) (Nat.le_of_ble_eq_true rfl) ⟨Nat.le_refl _, Nat.le_refl _⟩ rfl dX11_numberTo_13 h (fun u3 H locs hG h => ?_)
  refine lv_if_eq (tgt := 29) hx hb dX11_numberTo_16 (by decide) (fun c4 => ?_) (fun c4 => ?_)
  · have h := (if_inv h).1 c4
    exact j29 x2 g _ _ _ hG (lv_sub hl [1, 0] rfl) h
  · have h := (if_inv h).2 c4
    refine lv_iload_n hx hb dX11_numberTo_19 rfl (lv_at hl 0 rfl) ?_
    refine lv_iload_n hx hb dX11_numberTo_20 rfl (lv_at hl 2 rfl) ?_
    refine lv_icmp_le (tgt := 29) hx hb dX11_numberTo_21 (by decide) (fun c5 => ?_) (fun c5 => ?_)
    · have h := (if_inv h).1 c5
      exact j29 x2 g _ _ _ hG (lv_sub hl [1, 0] rfl) h
    · have h := (if_inv h).2 c5
      refine lv_aload_n hx hb dX11_numberTo_24 rfl (lv_at hl 1 rfl) ?_
      refine lv_iconst (v := 5) hx hb dX11_numberTo_25 (by decide) ?_
      refine r_callVV C hl.1 hG [.int 5] [] (m11_mark E l 5 g) LX11_159 rfl KC11 rfl (rm_ok (by decide) (by decide)) (Nat.le_of_ble_eq_true rfl) ⟨Nat.le_refl _, Nat.le_refl _⟩ rfl dX11_numberTo_26 h (fun g6 H locs hG h => ?_)
      exact j29 x2 g6 _ _ _ hG (lv_sub hl [1, 0] rfl) h
def k11_mirror_125  (v1 : Int32) (t0 : Int32) (g : G) : Option (G) :=
      (k11_numberTo 90 g).bind fun u1 =>
      sto u1.2 68 11 v1 (t0 * u1.1) fun g2 =>
      bd (if (v1 + 1) < 10 then (v1 + 1) else 10) fun x3 =>
      bd (up g2 66 0 x3) fun g4 =>
      some g4
def k11_mirror_80  (v1 : Int32) (g : G) : Option (G) :=
      (k11_take 30 g).bind fun g5 =>
      (k11_take 1 g5).bind fun g6 =>
      (k11_numberTo 100 g6).bind fun u7 =>
      sto u7.2 67 11 v1 u7.1 fun g8 =>
      (k11_take 2 g8).bind fun g9 =>
      (k11_takes 41 g9).bind fun u10 =>
      if u10.1 = 0 then
        k11_mirror_125 v1 1 u10.2
      else
        k11_mirror_125 v1 (-1) u10.2
def k11_mirror_55  (v1 : Int32) (g : G) : Option (G) :=
      (k11_is 30 g).bind fun u12 =>
      if u12 = 0 then
        k11_mirror_80 v1 g
      else
        if 10 ≤ v1 then
          k11_mirror_80 v1 g
        else
          sto g 53 10 v1 (g 47 8) fun g15 =>
          k11_mirror_80 v1 g15
def k11_mirror_35  (v1 : Int32) (g : G) : Option (G) :=
      (k11_is 30 g).bind fun u16 =>
      if u16 = 0 then
        k11_mirror_55 v1 g
      else
        if v1 = 10 then
          (k11_mark 4 g).bind fun g19 =>
          k11_mirror_55 v1 g19
        else
          k11_mirror_55 v1 g
def k11_mirror  (g : G) : Option (G) :=
  bd (if (g 66 0) < 10 then (g 66 0) else 10) fun x20 =>
  (k11_is 30 g).bind fun u21 =>
  if u21 = 0 then
    k11_mirror_35 x20 g
  else
    (k11_known g).bind fun u23 =>
    if u23 = (-1) then
      k11_mirror_35 x20 g
    else
      (k11_mark 2 g).bind fun g25 =>
      k11_mirror_35 x20 g25
set_option maxRecDepth 100000 in
set_option maxHeartbeats 4000000 in
theorem m11_mirror (E : EV) (l : Launch) (g : G) : ∀ u, k11_mirror g = some u → MV E l yX11_mirror cX11_mirror 3 none 3 0 0 [.ref (E.ad 47)] g u := by
  intro u h
  refine MG.of (by decide +kernel) (Nat.le_of_ble_eq_true rfl) ?_
  intro p e s m args below meth c C hr hnm ls hl hG
  have C : Cx p s m args meth c cX11_mirror 3 RX11 E := C
  have hx := C.1
  have hb := C.2.1
  have hl : lv_has ls 3 [(0, .ref (E.ad 47))] := hl
  unfold k11_mirror at h
  have j125 : ∀ (v1 : Int32) (t0 : Int32) (g : G) (H : Heap) (locs : List Loc) (ls : Array Slot), Gd E s H locs g [] → lv_has ls 3 [(0, .ref (E.ad 47)), (1, .int v1)] → k11_mirror_125 v1 t0 g = some u → W p l e (rmD 3 0 0) s m args below meth c H locs 0 0 (MQ below (QV E s.heap.size u) args s 0 0 (AA E s.heap.size)) (F0 m 125 ls [.int t0]) := by
    intro v1 t0 g H locs ls hG hl h
    unfold k11_mirror_125 at h
    refine lv_istore_n (lv' := [(2, .int t0), (0, .ref (E.ad 47)), (1, .int v1)]) hx hb dX11_mirror_125 rfl hl (by decide) rfl (fun ls hl => ?_)
    refine lv_aload_n hx hb dX11_mirror_126 rfl (lv_at hl 1 rfl) ?_
    refine r_getA (j := 66) C hG FX11_39 rfl rfl dX11_mirror_127 ?_
    refine r_getR (d := 2) C hG FX11_226 rfl rfl (by decide) dX11_mirror_130 ?_
    refine lv_iload_n hx hb dX11_mirror_133 rfl (lv_at hl 2 rfl) ?_
    refine lv_iload_n hx hb dX11_mirror_134 rfl (lv_at hl 0 rfl) ?_
    refine lv_aload_n hx hb dX11_mirror_135 rfl (lv_at hl 1 rfl) ?_
    refine lv_bipush (v := 90) hx hb dX11_mirror_136 (by decide) ?_
    refine r_callVI C hl.1 hG [.int 90] [.int t0, .int v1, .ref (E.ad 68)] (m11_numberTo E l 90 g) LX11_223 rfl KC11 rfl (rm_ok (by decide) (by decide)) (Nat.le_of_ble_eq_true rfl) ⟨Nat.le_refl _, Nat.le_refl _⟩ rfl dX11_mirror_138 h (fun u1 H locs hG h => ?_)
    refine lv_imul hx hb dX11_mirror_141 ?_
    refine r_ist C hG (N := 11) rfl (by decide) dX11_mirror_142 h (fun H locs g2 hG h => ?_)
    refine lv_aload_n hx hb dX11_mirror_143 rfl (lv_at hl 1 rfl) ?_
    refine r_getA (j := 66) C hG FX11_39 rfl rfl dX11_mirror_144 ?_
    refine lv_bipush (v := 10) hx hb dX11_mirror_147 (by decide) ?_
    refine lv_iload_n hx hb dX11_mirror_149 rfl (lv_at hl 2 rfl) ?_
    refine lv_iconst (v := 1) hx hb dX11_mirror_150 (by decide) ?_
    refine lv_iadd hx hb dX11_mirror_151 ?_
    refine r_min C hl.1 LX11_217 ⟨(Nat.le_of_ble_eq_true rfl), (Nat.le_of_ble_eq_true rfl), Nat.zero_le _, Nat.zero_le _⟩ dX11_mirror_152 ?_
    refine r_nm h (fun x3 h => ?_)
    refine r_putI C hG FX11_149 rfl rfl dX11_mirror_155 h (fun H locs g4 hG h => ?_)
    exact r_vret C hG hr dX11_mirror_158 h
  have j80 : ∀ (v1 : Int32) (g : G) (H : Heap) (locs : List Loc) (ls : Array Slot), Gd E s H locs g [] → lv_has ls 3 [(0, .ref (E.ad 47)), (1, .int v1)] → k11_mirror_80 v1 g = some u → W p l e (rmD 3 0 0) s m args below meth c H locs 0 0 (MQ below (QV E s.heap.size u) args s 0 0 (AA E s.heap.size)) (F0 m 80 ls []) := by
    intro v1 g H locs ls hG hl h
    unfold k11_mirror_80 at h
    refine lv_aload_n hx hb dX11_mirror_80 rfl (lv_at hl 0 rfl) ?_
    refine lv_bipush (v := 30) hx hb dX11_mirror_81 (by decide) ?_
    refine r_callVV C hl.1 hG [.int 30] [] (m11_take E l 30 g) LX11_163 rfl KC11 rfl (rm_ok (by decide) (by decide)) (Nat.le_of_ble_eq_true rfl) ⟨Nat.le_refl _, Nat.le_refl _⟩ rfl dX11_mirror_83 h (fun g5 H locs hG h => ?_)
    refine lv_aload_n hx hb dX11_mirror_86 rfl (lv_at hl 0 rfl) ?_
    refine lv_iconst (v := 1) hx hb dX11_mirror_87 (by decide) ?_
    refine r_callVV C hl.1 hG [.int 1] [] (m11_take E l 1 g5) LX11_163 rfl KC11 rfl (rm_ok (by decide) (by decide)) (Nat.le_of_ble_eq_true rfl) ⟨Nat.le_refl _, Nat.le_refl _⟩ rfl dX11_mirror_88 h (fun g6 H locs hG h => ?_)
    refine lv_aload_n hx hb dX11_mirror_91 rfl (lv_at hl 0 rfl) ?_
    refine r_getA (j := 66) C hG FX11_39 rfl rfl dX11_mirror_92 ?_
    refine r_getR (d := 1) C hG FX11_220 rfl rfl (by decide) dX11_mirror_95 ?_
    refine lv_iload_n hx hb dX11_mirror_98 rfl (lv_at hl 1 rfl) ?_
    refine lv_aload_n hx hb dX11_mirror_99 rfl (lv_at hl 0 rfl) ?_
    refine lv_bipush (v := 100) hx hb dX11_mirror_100 (by decide) ?_
    refine r_callVI C hl.1 hG [.int 100] [.int v1, .ref (E.ad 67)] (m11_numberTo E l 100 g6) LX11_223 rfl KC11 rfl (rm_ok (by decide) (by decide)) (Nat.le_of_ble_eq_true rfl) ⟨Nat.le_refl _, Nat.le_refl _⟩ rfl dX11_mirror_102 h (fun u7 H locs hG h => ?_)
    refine r_ist C hG (N := 11) rfl (by decide) dX11_mirror_105 h (fun H locs g8 hG h => ?_)
    refine lv_aload_n hx hb dX11_mirror_106 rfl (lv_at hl 0 rfl) ?_
    refine lv_iconst (v := 2) hx hb dX11_mirror_107 (by decide) ?_
    refine r_callVV C hl.1 hG [.int 2] [] (m11_take E l 2 g8) LX11_163 rfl KC11 rfl (rm_ok (by decide) (by decide)) (Nat.le_of_ble_eq_true rfl) ⟨Nat.le_refl _, Nat.le_refl _⟩ rfl dX11_mirror_108 h (fun g9 H locs hG h => ?_)
    refine lv_aload_n hx hb dX11_mirror_111 rfl (lv_at hl 0 rfl) ?_
    refine lv_bipush (v := 41) hx hb dX11_mirror_112 (by decide) ?_
    refine r_callVI C hl.1 hG [.int 41] [] (m11_takes E l 41 g9) LX11_184 rfl KC11 rfl (rm_ok (by decide) (by decide)) (Nat.le_of_ble_eq_true rfl) ⟨Nat.le_refl _, Nat.le_refl _⟩ rfl dX11_mirror_114 h (fun u10 H locs hG h => ?_)
    refine lv_if_eq (tgt := 124) hx hb dX11_mirror_117 (by decide) (fun c11 => ?_) (fun c11 => ?_)
    · have h := (if_inv h).1 c11
      refine lv_iconst (v := 1) hx hb dX11_mirror_124 (by decide) ?_
      exact j125 v1 1 u10.2 _ _ _ hG (lv_sub hl [0, 1] rfl) h
    · have h := (if_inv h).2 c11
      refine lv_iconst (v := (-1)) hx hb dX11_mirror_120 (by decide) ?_
      refine lv_goto (tgt := 125) hx hb dX11_mirror_121 (by decide) ?_
      exact j125 v1 (-1) u10.2 _ _ _ hG (lv_sub hl [0, 1] rfl) h
  have j55 : ∀ (v1 : Int32) (g : G) (H : Heap) (locs : List Loc) (ls : Array Slot), Gd E s H locs g [] → lv_has ls 3 [(0, .ref (E.ad 47)), (1, .int v1)] → k11_mirror_55 v1 g = some u → W p l e (rmD 3 0 0) s m args below meth c H locs 0 0 (MQ below (QV E s.heap.size u) args s 0 0 (AA E s.heap.size)) (F0 m 55 ls []) := by
    intro v1 g H locs ls hG hl h
    unfold k11_mirror_55 at h
    refine lv_aload_n hx hb dX11_mirror_55 rfl (lv_at hl 0 rfl) ?_
    refine lv_bipush (v := 30) hx hb dX11_mirror_56 (by decide) ?_
    refine r_callVIP C hl.1 hG [.int 30] [] (m11_is E l 30 g) LX11_128 rfl KC11 rfl (rm_ok (by decide) (by decide)) (Nat.le_of_ble_eq_true rfl) ⟨Nat.le_refl _, Nat.le_refl _⟩ rfl dX11_mirror_58 h (fun u12 H locs hG h => ?_)
    refine lv_if_eq (tgt := 80) hx hb dX11_mirror_61 (by decide) (fun c13 => ?_) (fun c13 => ?_)
    · have h := (if_inv h).1 c13
      exact j80 v1 g _ _ _ hG (lv_sub hl [0, 1] rfl) h
    · have h := (if_inv h).2 c13
      refine lv_iload_n hx hb dX11_mirror_64 rfl (lv_at hl 1 rfl) ?_
      refine lv_bipush (v := 10) hx hb dX11_mirror_65 (by decide) ?_
      refine lv_icmp_ge (tgt := 80) hx hb dX11_mirror_67 (by decide) (fun c14 => ?_) (fun c14 => ?_)
      · have h := (if_inv h).1 c14
        exact j80 v1 g _ _ _ hG (lv_sub hl [0, 1] rfl) h
      · have h := (if_inv h).2 c14
        refine lv_aload_n hx hb dX11_mirror_70 rfl (lv_at hl 0 rfl) ?_
        refine r_getA (j := 53) C hG FX11_29 rfl rfl dX11_mirror_71 ?_
        refine lv_iload_n hx hb dX11_mirror_74 rfl (lv_at hl 1 rfl) ?_
        refine lv_aload_n hx hb dX11_mirror_75 rfl (lv_at hl 0 rfl) ?_
        refine r_getI C hG FX11_119 rfl rfl dX11_mirror_76 ?_
        refine r_ist C hG (N := 10) rfl (by decide) dX11_mirror_79 h (fun H locs g15 hG h => ?_)
        exact j80 v1 g15 _ _ _ hG (lv_sub hl [0, 1] rfl) h
  have j35 : ∀ (v1 : Int32) (g : G) (H : Heap) (locs : List Loc) (ls : Array Slot), Gd E s H locs g [] → lv_has ls 3 [(0, .ref (E.ad 47)), (1, .int v1)] → k11_mirror_35 v1 g = some u → W p l e (rmD 3 0 0) s m args below meth c H locs 0 0 (MQ below (QV E s.heap.size u) args s 0 0 (AA E s.heap.size)) (F0 m 35 ls []) := by
    intro v1 g H locs ls hG hl h
    unfold k11_mirror_35 at h
    refine lv_aload_n hx hb dX11_mirror_35 rfl (lv_at hl 0 rfl) ?_
    refine lv_bipush (v := 30) hx hb dX11_mirror_36 (by decide) ?_
    refine r_callVIP C hl.1 hG [.int 30] [] (m11_is E l 30 g) LX11_128 rfl KC11 rfl (rm_ok (by decide) (by decide)) (Nat.le_of_ble_eq_true rfl) ⟨Nat.le_refl _, Nat.le_refl _⟩ rfl dX11_mirror_38 h (fun u16 H locs hG h => ?_)
    refine lv_if_eq (tgt := 55) hx hb dX11_mirror_41 (by decide) (fun c17 => ?_) (fun c17 => ?_)
    · have h := (if_inv h).1 c17
      exact j55 v1 g _ _ _ hG (lv_sub hl [0, 1] rfl) h
    · have h := (if_inv h).2 c17
      refine lv_iload_n hx hb dX11_mirror_44 rfl (lv_at hl 1 rfl) ?_
      refine lv_bipush (v := 10) hx hb dX11_mirror_45 (by decide) ?_
      refine lv_icmp_ne (tgt := 55) hx hb dX11_mirror_47 (by decide) (fun c18 => ?_) (fun c18 => ?_)
      · have h := (if_inv h).2 c18
        exact j55 v1 g _ _ _ hG (lv_sub hl [0, 1] rfl) h
      · have h := (if_inv h).1 c18
        refine lv_aload_n hx hb dX11_mirror_50 rfl (lv_at hl 0 rfl) ?_
        refine lv_iconst (v := 4) hx hb dX11_mirror_51 (by decide) ?_
        refine r_callVV C hl.1 hG [.int 4] [] (m11_mark E l 4 g) LX11_159 rfl KC11 rfl (rm_ok (by decide) (by decide)) (Nat.le_of_ble_eq_true rfl) ⟨Nat.le_refl _, Nat.le_refl _⟩ rfl dX11_mirror_52 h (fun g19 H locs hG h => ?_)
        exact j55 v1 g19 _ _ _ hG (lv_sub hl [0, 1] rfl) h
  refine lv_bipush (v := 10) hx hb dX11_mirror_0 (by decide) ?_
  refine lv_aload_n hx hb dX11_mirror_2 rfl (lv_at hl 0 rfl) ?_
  refine r_getA (j := 66) C hG FX11_39 rfl rfl dX11_mirror_3 ?_
  refine r_getI C hG FX11_149 rfl rfl dX11_mirror_6 ?_
  refine r_min C hl.1 LX11_217 ⟨(Nat.le_of_ble_eq_true rfl), (Nat.le_of_ble_eq_true rfl), Nat.zero_le _, Nat.zero_le _⟩ dX11_mirror_9 ?_
  refine r_nm h (fun x20 h => ?_)
  refine lv_istore_n (lv' := [(1, .int x20), (0, .ref (E.ad 47))]) hx hb dX11_mirror_12 rfl hl (by decide) rfl (fun ls hl => ?_)
  refine lv_aload_n hx hb dX11_mirror_13 rfl (lv_at hl 1 rfl) ?_
  refine lv_bipush (v := 30) hx hb dX11_mirror_14 (by decide) ?_
  refine r_callVIP C hl.1 hG [.int 30] [] (m11_is E l 30 g) LX11_128 rfl KC11 rfl (rm_ok (by decide) (by decide)) (Nat.le_of_ble_eq_true rfl) ⟨Nat.le_refl _, Nat.le_refl _⟩ rfl dX11_mirror_16 h (fun u21 H locs hG h => ?_)
  refine lv_if_eq (tgt := 35) hx hb dX11_mirror_19 (by decide) (fun c22 => ?_) (fun c22 => ?_)
  · have h := (if_inv h).1 c22
    exact j35 x20 g _ _ _ hG (lv_sub hl [1, 0] rfl) h
  · have h := (if_inv h).2 c22
    refine lv_aload_n hx hb dX11_mirror_22 rfl (lv_at hl 1 rfl) ?_
    refine r_callVIP C hl.1 hG [] [] (m11_known E l g) LX11_156 rfl KC11 rfl (rm_ok (by decide) (by decide)) (Nat.le_of_ble_eq_true rfl) ⟨Nat.le_refl _, Nat.le_refl _⟩ rfl dX11_mirror_23 h (fun u23 H locs hG h => ?_)
    refine lv_iconst (v := (-1)) hx hb dX11_mirror_26 (by decide) ?_
    refine lv_icmp_eq (tgt := 35) hx hb dX11_mirror_27 (by decide) (fun c24 => ?_) (fun c24 => ?_)
    · have h := (if_inv h).1 c24
      exact j35 x20 g _ _ _ hG (lv_sub hl [1, 0] rfl) h
    · have h := (if_inv h).2 c24
      refine lv_aload_n hx hb dX11_mirror_30 rfl (lv_at hl 1 rfl) ?_
      refine lv_iconst (v := 2) hx hb dX11_mirror_31 (by decide) ?_
      refine r_callVV C hl.1 hG [.int 2] [] (m11_mark E l 2 g) LX11_159 rfl KC11 rfl (rm_ok (by decide) (by decide)) (Nat.le_of_ble_eq_true rfl) ⟨Nat.le_refl _, Nat.le_refl _⟩ rfl dX11_mirror_32 h (fun g25 H locs hG h => ?_)
      exact j35 x20 g25 _ _ _ hG (lv_sub hl [1, 0] rfl) h
def k11_order_132  (v2 : Int32) (t0 : Int32) (t1 : Int32) (g : G) : Option (G) :=
      sto g 74 17 t1 t0 fun g1 =>
      sto g1 72 17 v2 (g1 66 12) fun g2 =>
      bd (if (v2 + 1) < 16 then (v2 + 1) else 16) fun x3 =>
      bd (up g2 66 5 x3) fun g4 =>
      some g4
def k11_order_107  (v2 : Int32) (g : G) : Option (G) :=
      (k11_takes 11 g).bind fun u5 =>
      if u5.1 = 0 then
        k11_order_132 v2 (-1) v2 u5.2
      else
        (k11_test u5.2).bind fun u7 =>
        k11_order_132 v2 u7.1 v2 u7.2
def k11_order_24  (v1 : Int32) (v2 : Int32) (g : G) : Option (G) :=
      bd (up g 47 8 ((g 47 8) + 1)) fun g8 =>
      sto g8 71 17 v2 (g8 66 12) fun g9 =>
      sto g9 69 17 v2 v1 fun g10 =>
      (k11_name g10).bind fun u11 =>
      sto u11.2 70 17 v2 u11.1 fun g12 =>
      sto g12 73 17 v2 (-1) fun g13 =>
      if v1 < 3 then
        k11_order_107 v2 g13
      else
        (k11_take 6 g13).bind fun g15 =>
        (k11_sum g15).bind fun u16 =>
        sto u16.2 73 17 v2 u16.1 fun g17 =>
        k11_order_107 v2 g17
def k11_order  (a1 : Int32) (g : G) : Option (G) :=
  bd (if (g 66 5) < 16 then (g 66 5) else 16) fun x18 =>
  if x18 = 16 then
    (k11_mark 4 g).bind fun g20 =>
    k11_order_24 a1 x18 g20
  else
    k11_order_24 a1 x18 g
set_option maxRecDepth 100000 in
set_option maxHeartbeats 4000000 in
theorem m11_order (E : EV) (l : Launch) (a1 : Int32) (g : G) : ∀ u, k11_order a1 g = some u → MV E l yX11_order cX11_order 3 none 105 0 0 [.ref (E.ad 47), .int a1] g u := by
  intro u h
  refine MG.of (by decide +kernel) (Nat.le_of_ble_eq_true rfl) ?_
  intro p e s m args below meth c C hr hnm ls hl hG
  have C : Cx p s m args meth c cX11_order 3 RX11 E := C
  have hx := C.1
  have hb := C.2.1
  have hl : lv_has ls 3 [(0, .ref (E.ad 47)), (1, .int a1)] := hl
  unfold k11_order at h
  have j132 : ∀ (v2 : Int32) (t0 : Int32) (t1 : Int32) (g : G) (H : Heap) (locs : List Loc) (ls : Array Slot), Gd E s H locs g [] → lv_has ls 3 [(0, .ref (E.ad 47)), (2, .int v2)] → k11_order_132 v2 t0 t1 g = some u → W p l e (rmD 105 0 0) s m args below meth c H locs 0 0 (MQ below (QV E s.heap.size u) args s 0 0 (AA E s.heap.size)) (F0 m 132 ls [.int t0, .int t1, .ref (E.ad 74)]) := by
    intro v2 t0 t1 g H locs ls hG hl h
    unfold k11_order_132 at h
    refine r_ist C hG (N := 17) rfl (by decide) dX11_order_132 h (fun H locs g1 hG h => ?_)
    refine lv_aload_n hx hb dX11_order_133 rfl (lv_at hl 0 rfl) ?_
    refine r_getA (j := 66) C hG FX11_39 rfl rfl dX11_order_134 ?_
    refine r_getR (d := 6) C hG FX11_245 rfl rfl (by decide) dX11_order_137 ?_
    refine lv_iload_n hx hb dX11_order_140 rfl (lv_at hl 1 rfl) ?_
    refine lv_aload_n hx hb dX11_order_141 rfl (lv_at hl 0 rfl) ?_
    refine r_getA (j := 66) C hG FX11_39 rfl rfl dX11_order_142 ?_
    refine r_getI C hG FX11_137 rfl rfl dX11_order_145 ?_
    refine r_ist C hG (N := 17) rfl (by decide) dX11_order_148 h (fun H locs g2 hG h => ?_)
    refine lv_aload_n hx hb dX11_order_149 rfl (lv_at hl 0 rfl) ?_
    refine r_getA (j := 66) C hG FX11_39 rfl rfl dX11_order_150 ?_
    refine lv_bipush (v := 16) hx hb dX11_order_153 (by decide) ?_
    refine lv_iload_n hx hb dX11_order_155 rfl (lv_at hl 1 rfl) ?_
    refine lv_iconst (v := 1) hx hb dX11_order_156 (by decide) ?_
    refine lv_iadd hx hb dX11_order_157 ?_
    refine r_min C hl.1 LX11_217 ⟨(Nat.le_of_ble_eq_true rfl), (Nat.le_of_ble_eq_true rfl), Nat.zero_le _, Nat.zero_le _⟩ dX11_order_158 ?_
    refine r_nm h (fun x3 h => ?_)
    refine r_putI C hG FX11_229 rfl rfl dX11_order_161 h (fun H locs g4 hG h => ?_)
    exact r_vret C hG hr dX11_order_164 h
  have j107 : ∀ (v2 : Int32) (g : G) (H : Heap) (locs : List Loc) (ls : Array Slot), Gd E s H locs g [] → lv_has ls 3 [(0, .ref (E.ad 47)), (2, .int v2)] → k11_order_107 v2 g = some u → W p l e (rmD 105 0 0) s m args below meth c H locs 0 0 (MQ below (QV E s.heap.size u) args s 0 0 (AA E s.heap.size)) (F0 m 107 ls []) := by
    intro v2 g H locs ls hG hl h
    unfold k11_order_107 at h
    refine lv_aload_n hx hb dX11_order_107 rfl (lv_at hl 0 rfl) ?_
    refine r_getA (j := 66) C hG FX11_39 rfl rfl dX11_order_108 ?_
    refine r_getR (d := 8) C hG FX11_243 rfl rfl (by decide) dX11_order_111 ?_
    refine lv_iload_n hx hb dX11_order_114 rfl (lv_at hl 1 rfl) ?_
    refine lv_aload_n hx hb dX11_order_115 rfl (lv_at hl 0 rfl) ?_
    refine lv_bipush (v := 11) hx hb dX11_order_116 (by decide) ?_
    refine r_callVI C hl.1 hG [.int 11] [.int v2, .ref (E.ad 74)] (m11_takes E l 11 g) LX11_184 rfl KC11 rfl (rm_ok (by decide) (by decide)) (Nat.le_of_ble_eq_true rfl) ⟨Nat.le_refl _, Nat.le_refl _⟩ rfl dX11_order_118 h (fun u5 H locs hG h => ?_)
    refine lv_if_eq (tgt := 131) hx hb dX11_order_121 (by decide) (fun c6 => ?_) (fun c6 => ?_)
    · have h := (if_inv h).1 c6
      refine lv_iconst (v := (-1)) hx hb dX11_order_131 (by decide) ?_
      exact j132 v2 (-1) v2 u5.2 _ _ _ hG (lv_sub hl [0, 1] rfl) h
    · have h := (if_inv h).2 c6
      refine lv_aload_n hx hb dX11_order_124 rfl (lv_at hl 0 rfl) ?_
      refine r_callVI C hl.1 hG [] [.int v2, .ref (E.ad 74)] (m11_test E l u5.2) LX11_208 rfl KC11 rfl (rm_ok (by decide) (by decide)) (Nat.le_of_ble_eq_true rfl) ⟨Nat.le_refl _, Nat.le_refl _⟩ rfl dX11_order_125 h (fun u7 H locs hG h => ?_)
      refine lv_goto (tgt := 132) hx hb dX11_order_128 (by decide) ?_
      exact j132 v2 u7.1 v2 u7.2 _ _ _ hG (lv_sub hl [0, 1] rfl) h
  have j24 : ∀ (v1 : Int32) (v2 : Int32) (g : G) (H : Heap) (locs : List Loc) (ls : Array Slot), Gd E s H locs g [] → lv_has ls 3 [(0, .ref (E.ad 47)), (1, .int v1), (2, .int v2)] → k11_order_24 v1 v2 g = some u → W p l e (rmD 105 0 0) s m args below meth c H locs 0 0 (MQ below (QV E s.heap.size u) args s 0 0 (AA E s.heap.size)) (F0 m 24 ls []) := by
    intro v1 v2 g H locs ls hG hl h
    unfold k11_order_24 at h
    refine lv_aload_n hx hb dX11_order_24 rfl (lv_at hl 0 rfl) ?_
    refine lv_dup hx hb dX11_order_25 rfl ?_
    refine r_getI C hG FX11_119 rfl rfl dX11_order_26 ?_
    refine lv_iconst (v := 1) hx hb dX11_order_29 (by decide) ?_
    refine lv_iadd hx hb dX11_order_30 ?_
    refine r_putI C hG FX11_119 rfl rfl dX11_order_31 h (fun H locs g8 hG h => ?_)
    refine lv_aload_n hx hb dX11_order_34 rfl (lv_at hl 0 rfl) ?_
    refine r_getA (j := 66) C hG FX11_39 rfl rfl dX11_order_35 ?_
    refine r_getR (d := 5) C hG FX11_232 rfl rfl (by decide) dX11_order_38 ?_
    refine lv_iload_n hx hb dX11_order_41 rfl (lv_at hl 2 rfl) ?_
    refine lv_aload_n hx hb dX11_order_42 rfl (lv_at hl 0 rfl) ?_
    refine r_getA (j := 66) C hG FX11_39 rfl rfl dX11_order_43 ?_
    refine r_getI C hG FX11_137 rfl rfl dX11_order_46 ?_
    refine r_ist C hG (N := 17) rfl (by decide) dX11_order_49 h (fun H locs g9 hG h => ?_)
    refine lv_aload_n hx hb dX11_order_50 rfl (lv_at hl 0 rfl) ?_
    refine r_getA (j := 66) C hG FX11_39 rfl rfl dX11_order_51 ?_
    refine r_getR (d := 3) C hG FX11_235 rfl rfl (by decide) dX11_order_54 ?_
    refine lv_iload_n hx hb dX11_order_57 rfl (lv_at hl 2 rfl) ?_
    refine lv_iload_n hx hb dX11_order_58 rfl (lv_at hl 1 rfl) ?_
    refine r_ist C hG (N := 17) rfl (by decide) dX11_order_59 h (fun H locs g10 hG h => ?_)
    refine lv_aload_n hx hb dX11_order_60 rfl (lv_at hl 0 rfl) ?_
    refine r_getA (j := 66) C hG FX11_39 rfl rfl dX11_order_61 ?_
    refine r_getR (d := 4) C hG FX11_238 rfl rfl (by decide) dX11_order_64 ?_
    refine lv_iload_n hx hb dX11_order_67 rfl (lv_at hl 2 rfl) ?_
    refine lv_aload_n hx hb dX11_order_68 rfl (lv_at hl 0 rfl) ?_
    refine r_callVI C hl.1 hG [] [.int v2, .ref (E.ad 70)] (m11_name E l g10) LX11_181 rfl KC11 rfl (rm_ok (by decide) (by decide)) (Nat.le_of_ble_eq_true rfl) ⟨Nat.le_refl _, Nat.le_refl _⟩ rfl dX11_order_69 h (fun u11 H locs hG h => ?_)
    refine r_ist C hG (N := 17) rfl (by decide) dX11_order_72 h (fun H locs g12 hG h => ?_)
    refine lv_aload_n hx hb dX11_order_73 rfl (lv_at hl 0 rfl) ?_
    refine r_getA (j := 66) C hG FX11_39 rfl rfl dX11_order_74 ?_
    refine r_getR (d := 7) C hG FX11_241 rfl rfl (by decide) dX11_order_77 ?_
    refine lv_iload_n hx hb dX11_order_80 rfl (lv_at hl 2 rfl) ?_
    refine lv_iconst (v := (-1)) hx hb dX11_order_81 (by decide) ?_
    refine r_ist C hG (N := 17) rfl (by decide) dX11_order_82 h (fun H locs g13 hG h => ?_)
    refine lv_iload_n hx hb dX11_order_83 rfl (lv_at hl 1 rfl) ?_
    refine lv_iconst (v := 3) hx hb dX11_order_84 (by decide) ?_
    refine lv_icmp_lt (tgt := 107) hx hb dX11_order_85 (by decide) (fun c14 => ?_) (fun c14 => ?_)
    · have h := (if_inv h).1 c14
      exact j107 v2 g13 _ _ _ hG (lv_sub hl [0, 2] rfl) h
    · have h := (if_inv h).2 c14
      refine lv_aload_n hx hb dX11_order_88 rfl (lv_at hl 0 rfl) ?_
      refine lv_bipush (v := 6) hx hb dX11_order_89 (by decide) ?_
      refine r_callVV C hl.1 hG [.int 6] [] (m11_take E l 6 g13) LX11_163 rfl KC11 rfl (rm_ok (by decide) (by decide)) (Nat.le_of_ble_eq_true rfl) ⟨Nat.le_refl _, Nat.le_refl _⟩ rfl dX11_order_91 h (fun g15 H locs hG h => ?_)
      refine lv_aload_n hx hb dX11_order_94 rfl (lv_at hl 0 rfl) ?_
      refine r_getA (j := 66) C hG FX11_39 rfl rfl dX11_order_95 ?_
      refine r_getR (d := 7) C hG FX11_241 rfl rfl (by decide) dX11_order_98 ?_
      refine lv_iload_n hx hb dX11_order_101 rfl (lv_at hl 2 rfl) ?_
      refine lv_aload_n hx hb dX11_order_102 rfl (lv_at hl 0 rfl) ?_
      refine r_callVI C hl.1 hG [] [.int v2, .ref (E.ad 73)] (m11_sum E l g15) LX11_174 rfl KC11 rfl (rm_ok (by decide) (by decide)) (Nat.le_of_ble_eq_true rfl) ⟨Nat.le_refl _, Nat.le_refl _⟩ rfl dX11_order_103 h (fun u16 H locs hG h => ?_)
      refine r_ist C hG (N := 17) rfl (by decide) dX11_order_106 h (fun H locs g17 hG h => ?_)
      exact j107 v2 g17 _ _ _ hG (lv_sub hl [0, 2] rfl) h
  refine lv_bipush (v := 16) hx hb dX11_order_0 (by decide) ?_
  refine lv_aload_n hx hb dX11_order_2 rfl (lv_at hl 0 rfl) ?_
  refine r_getA (j := 66) C hG FX11_39 rfl rfl dX11_order_3 ?_
  refine r_getI C hG FX11_229 rfl rfl dX11_order_6 ?_
  refine r_min C hl.1 LX11_217 ⟨(Nat.le_of_ble_eq_true rfl), (Nat.le_of_ble_eq_true rfl), Nat.zero_le _, Nat.zero_le _⟩ dX11_order_9 ?_
  refine r_nm h (fun x18 h => ?_)
  refine lv_istore_n (lv' := [(2, .int x18), (0, .ref (E.ad 47)), (1, .int a1)]) hx hb dX11_order_12 rfl hl (by decide) rfl (fun ls hl => ?_)
  refine lv_iload_n hx hb dX11_order_13 rfl (lv_at hl 0 rfl) ?_
  refine lv_bipush (v := 16) hx hb dX11_order_14 (by decide) ?_
  refine lv_icmp_ne (tgt := 24) hx hb dX11_order_16 (by decide) (fun c19 => ?_) (fun c19 => ?_)
  · have h := (if_inv h).2 c19
    exact j24 a1 x18 g _ _ _ hG (lv_sub hl [1, 2, 0] rfl) h
  · have h := (if_inv h).1 c19
    refine lv_aload_n hx hb dX11_order_19 rfl (lv_at hl 1 rfl) ?_
    refine lv_iconst (v := 4) hx hb dX11_order_20 (by decide) ?_
    refine r_callVV C hl.1 hG [.int 4] [] (m11_mark E l 4 g) LX11_159 rfl KC11 rfl (rm_ok (by decide) (by decide)) (Nat.le_of_ble_eq_true rfl) ⟨Nat.le_refl _, Nat.le_refl _⟩ rfl dX11_order_21 h (fun g20 H locs hG h => ?_)
    exact j24 a1 x18 g20 _ _ _ hG (lv_sub hl [1, 2, 0] rfl) h
def k11_line  (g : G) : Option (G) :=
  (k11_takes 0 g).bind fun u1 =>
  if u1.1 = 0 then
    (k11_takes 3 u1.2).bind fun u3 =>
    if u3.1 = 0 then
      (k11_takes 4 u3.2).bind fun u5 =>
      if u5.1 = 0 then
        (k11_is 5 u5.2).bind fun u7 =>
        if u7 = 0 then
          (k11_is 7 u5.2).bind fun u9 =>
          if u9 = 0 then
            ld u5.2 49 402 (u5.2 47 8) fun x11 =>
            (k11_isIn x11 8 10 u5.2).bind fun u12 =>
            if u12 = 0 then
              (k11_wrong u5.2).bind fun g14 =>
              some g14
            else
              ld u5.2 49 402 (u5.2 47 8) fun x15 =>
              (k11_order (x15 - 8) u5.2).bind fun g16 =>
              some g16
          else
            (k11_order 4 u5.2).bind fun g17 =>
            some g17
        else
          (k11_order 3 u5.2).bind fun g18 =>
          some g18
      else
        (k11_numberTo 10000 u5.2).bind fun u19 =>
        bd (up u19.2 66 2 u19.1) fun g20 =>
        some g20
    else
      (k11_numberTo 180 u3.2).bind fun u21 =>
      bd (up u21.2 66 1 u21.1) fun g22 =>
      some g22
  else
    (k11_mirror u1.2).bind fun g23 =>
    some g23
set_option maxRecDepth 100000 in
set_option maxHeartbeats 4000000 in
theorem m11_line (E : EV) (l : Launch) (g : G) : ∀ u, k11_line g = some u → MV E l yX11_line cX11_line 1 none 106 0 0 [.ref (E.ad 47)] g u := by
  intro u h
  refine MG.of (by decide +kernel) (Nat.le_of_ble_eq_true rfl) ?_
  intro p e s m args below meth c C hr hnm ls hl hG
  have C : Cx p s m args meth c cX11_line 1 RX11 E := C
  have hx := C.1
  have hb := C.2.1
  have hl : lv_has ls 1 [(0, .ref (E.ad 47))] := hl
  unfold k11_line at h
  refine lv_aload_n hx hb dX11_line_0 rfl (lv_at hl 0 rfl) ?_
  refine lv_iconst (v := 0) hx hb dX11_line_1 (by decide) ?_
  refine r_callVI C hl.1 hG [.int 0] [] (m11_takes E l 0 g) LX11_184 rfl KC11 rfl (rm_ok (by decide) (by decide)) (Nat.le_of_ble_eq_true rfl) ⟨Nat.le_refl _, Nat.le_refl _⟩ rfl dX11_line_2 h (fun u1 H locs hG h => ?_)
  refine lv_if_eq (tgt := 15) hx hb dX11_line_5 (by decide) (fun c2 => ?_) (fun c2 => ?_)
  · have h := (if_inv h).1 c2
    refine lv_aload_n hx hb dX11_line_15 rfl (lv_at hl 0 rfl) ?_
    refine lv_iconst (v := 3) hx hb dX11_line_16 (by decide) ?_
    refine r_callVI C hl.1 hG [.int 3] [] (m11_takes E l 3 u1.2) LX11_184 rfl KC11 rfl (rm_ok (by decide) (by decide)) (Nat.le_of_ble_eq_true rfl) ⟨Nat.le_refl _, Nat.le_refl _⟩ rfl dX11_line_17 h (fun u3 H locs hG h => ?_)
    refine lv_if_eq (tgt := 40) hx hb dX11_line_20 (by decide) (fun c4 => ?_) (fun c4 => ?_)
    · have h := (if_inv h).1 c4
      refine lv_aload_n hx hb dX11_line_40 rfl (lv_at hl 0 rfl) ?_
      refine lv_iconst (v := 4) hx hb dX11_line_41 (by decide) ?_
      refine r_callVI C hl.1 hG [.int 4] [] (m11_takes E l 4 u3.2) LX11_184 rfl KC11 rfl (rm_ok (by decide) (by decide)) (Nat.le_of_ble_eq_true rfl) ⟨Nat.le_refl _, Nat.le_refl _⟩ rfl dX11_line_42 h (fun u5 H locs hG h => ?_)
      refine lv_if_eq (tgt := 65) hx hb dX11_line_45 (by decide) (fun c6 => ?_) (fun c6 => ?_)
      · have h := (if_inv h).1 c6
        refine lv_aload_n hx hb dX11_line_65 rfl (lv_at hl 0 rfl) ?_
        refine lv_iconst (v := 5) hx hb dX11_line_66 (by decide) ?_
        refine r_callVIP C hl.1 hG [.int 5] [] (m11_is E l 5 u5.2) LX11_128 rfl KC11 rfl (rm_ok (by decide) (by decide)) (Nat.le_of_ble_eq_true rfl) ⟨Nat.le_refl _, Nat.le_refl _⟩ rfl dX11_line_67 h (fun u7 H locs hG h => ?_)
        refine lv_if_eq (tgt := 81) hx hb dX11_line_70 (by decide) (fun c8 => ?_) (fun c8 => ?_)
        · have h := (if_inv h).1 c8
          refine lv_aload_n hx hb dX11_line_81 rfl (lv_at hl 0 rfl) ?_
          refine lv_bipush (v := 7) hx hb dX11_line_82 (by decide) ?_
          refine r_callVIP C hl.1 hG [.int 7] [] (m11_is E l 7 u5.2) LX11_128 rfl KC11 rfl (rm_ok (by decide) (by decide)) (Nat.le_of_ble_eq_true rfl) ⟨Nat.le_refl _, Nat.le_refl _⟩ rfl dX11_line_84 h (fun u9 H locs hG h => ?_)
          refine lv_if_eq (tgt := 98) hx hb dX11_line_87 (by decide) (fun c10 => ?_) (fun c10 => ?_)
          · have h := (if_inv h).1 c10
            refine lv_aload_n hx hb dX11_line_98 rfl (lv_at hl 0 rfl) ?_
            refine r_getA (j := 49) C hG FX11_17 rfl rfl dX11_line_99 ?_
            refine lv_aload_n hx hb dX11_line_102 rfl (lv_at hl 0 rfl) ?_
            refine r_getI C hG FX11_119 rfl rfl dX11_line_103 ?_
            refine r_ild C hG (N := 402) rfl (by decide) dX11_line_106 h (fun x11 h => ?_)
            refine lv_bipush (v := 8) hx hb dX11_line_107 (by decide) ?_
            refine lv_bipush (v := 10) hx hb dX11_line_109 (by decide) ?_
            refine r_callSIP C hl.1 hG [.int x11, .int 8, .int 10] [] (m11_isIn E l x11 8 10 u5.2) LX11_67 rfl (rm_ok (by decide) (by decide)) (Nat.le_of_ble_eq_true rfl) ⟨Nat.le_refl _, Nat.le_refl _⟩ rfl dX11_line_111 h (fun u12 H locs hG h => ?_)
            refine lv_if_eq (tgt := 136) hx hb dX11_line_114 (by decide) (fun c13 => ?_) (fun c13 => ?_)
            · have h := (if_inv h).1 c13
              refine lv_aload_n hx hb dX11_line_136 rfl (lv_at hl 0 rfl) ?_
              refine r_callVV C hl.1 hG [] [] (m11_wrong E l u5.2) LX11_131 rfl KC11 rfl (rm_ok (by decide) (by decide)) (Nat.le_of_ble_eq_true rfl) ⟨Nat.le_refl _, Nat.le_refl _⟩ rfl dX11_line_137 h (fun g14 H locs hG h => ?_)
              exact r_vret C hG hr dX11_line_140 h
            · have h := (if_inv h).2 c13
              refine lv_aload_n hx hb dX11_line_117 rfl (lv_at hl 0 rfl) ?_
              refine lv_aload_n hx hb dX11_line_118 rfl (lv_at hl 0 rfl) ?_
              refine r_getA (j := 49) C hG FX11_17 rfl rfl dX11_line_119 ?_
              refine lv_aload_n hx hb dX11_line_122 rfl (lv_at hl 0 rfl) ?_
              refine r_getI C hG FX11_119 rfl rfl dX11_line_123 ?_
              refine r_ild C hG (N := 402) rfl (by decide) dX11_line_126 h (fun x15 h => ?_)
              refine lv_bipush (v := 8) hx hb dX11_line_127 (by decide) ?_
              refine lv_isub hx hb dX11_line_129 ?_
              refine r_callVV C hl.1 hG [.int (x15 - 8)] [] (m11_order E l (x15 - 8) u5.2) LX11_256 rfl KC11 rfl (rm_ok (by decide) (by decide)) (Nat.le_of_ble_eq_true rfl) ⟨Nat.le_refl _, Nat.le_refl _⟩ rfl dX11_line_130 h (fun g16 H locs hG h => ?_)
              refine lv_goto (tgt := 140) hx hb dX11_line_133 (by decide) ?_
              exact r_vret C hG hr dX11_line_140 h
          · have h := (if_inv h).2 c10
            refine lv_aload_n hx hb dX11_line_90 rfl (lv_at hl 0 rfl) ?_
            refine lv_iconst (v := 4) hx hb dX11_line_91 (by decide) ?_
            refine r_callVV C hl.1 hG [.int 4] [] (m11_order E l 4 u5.2) LX11_256 rfl KC11 rfl (rm_ok (by decide) (by decide)) (Nat.le_of_ble_eq_true rfl) ⟨Nat.le_refl _, Nat.le_refl _⟩ rfl dX11_line_92 h (fun g17 H locs hG h => ?_)
            refine lv_goto (tgt := 140) hx hb dX11_line_95 (by decide) ?_
            exact r_vret C hG hr dX11_line_140 h
        · have h := (if_inv h).2 c8
          refine lv_aload_n hx hb dX11_line_73 rfl (lv_at hl 0 rfl) ?_
          refine lv_iconst (v := 3) hx hb dX11_line_74 (by decide) ?_
          refine r_callVV C hl.1 hG [.int 3] [] (m11_order E l 3 u5.2) LX11_256 rfl KC11 rfl (rm_ok (by decide) (by decide)) (Nat.le_of_ble_eq_true rfl) ⟨Nat.le_refl _, Nat.le_refl _⟩ rfl dX11_line_75 h (fun g18 H locs hG h => ?_)
          refine lv_goto (tgt := 140) hx hb dX11_line_78 (by decide) ?_
          exact r_vret C hG hr dX11_line_140 h
      · have h := (if_inv h).2 c6
        refine lv_aload_n hx hb dX11_line_48 rfl (lv_at hl 0 rfl) ?_
        refine r_getA (j := 66) C hG FX11_39 rfl rfl dX11_line_49 ?_
        refine lv_aload_n hx hb dX11_line_52 rfl (lv_at hl 0 rfl) ?_
        refine lv_sipush (v := 10000) hx hb dX11_line_53 (by decide) ?_
        refine r_callVI C hl.1 hG [.int 10000] [.ref (E.ad 66)] (m11_numberTo E l 10000 u5.2) LX11_223 rfl KC11 rfl (rm_ok (by decide) (by decide)) (Nat.le_of_ble_eq_true rfl) ⟨Nat.le_refl _, Nat.le_refl _⟩ rfl dX11_line_56 h (fun u19 H locs hG h => ?_)
        refine r_putI C hG FX11_253 rfl rfl dX11_line_59 h (fun H locs g20 hG h => ?_)
        refine lv_goto (tgt := 140) hx hb dX11_line_62 (by decide) ?_
        exact r_vret C hG hr dX11_line_140 h
    · have h := (if_inv h).2 c4
      refine lv_aload_n hx hb dX11_line_23 rfl (lv_at hl 0 rfl) ?_
      refine r_getA (j := 66) C hG FX11_39 rfl rfl dX11_line_24 ?_
      refine lv_aload_n hx hb dX11_line_27 rfl (lv_at hl 0 rfl) ?_
      refine lv_sipush (v := 180) hx hb dX11_line_28 (by decide) ?_
      refine r_callVI C hl.1 hG [.int 180] [.ref (E.ad 66)] (m11_numberTo E l 180 u3.2) LX11_223 rfl KC11 rfl (rm_ok (by decide) (by decide)) (Nat.le_of_ble_eq_true rfl) ⟨Nat.le_refl _, Nat.le_refl _⟩ rfl dX11_line_31 h (fun u21 H locs hG h => ?_)
      refine r_putI C hG FX11_250 rfl rfl dX11_line_34 h (fun H locs g22 hG h => ?_)
      refine lv_goto (tgt := 140) hx hb dX11_line_37 (by decide) ?_
      exact r_vret C hG hr dX11_line_140 h
  · have h := (if_inv h).2 c2
    refine lv_aload_n hx hb dX11_line_8 rfl (lv_at hl 0 rfl) ?_
    refine r_callVV C hl.1 hG [] [] (m11_mirror E l u1.2) LX11_248 rfl KC11 rfl (rm_ok (by decide) (by decide)) (Nat.le_of_ble_eq_true rfl) ⟨Nat.le_refl _, Nat.le_refl _⟩ rfl dX11_line_9 h (fun g23 H locs hG h => ?_)
    refine lv_goto (tgt := 140) hx hb dX11_line_12 (by decide) ?_
    exact r_vret C hG hr dX11_line_140 h
def k11_train_0  : Nat → G → Option (G)
  | 0, _ => none
  | f + 1, g =>
        if (g 47 9) = 0 then
          ld g 49 402 (g 47 8) fun x2 =>
          if x2 = 33 then
            some g
          else
            (k11_line g).bind fun g4 =>
            (k11_take 53 g4).bind fun g5 =>
            k11_train_0 f g5
        else
          some g
def k11_train  (g : G) : Option (G) :=
  k11_train_0 FU g
set_option maxRecDepth 100000 in
set_option maxHeartbeats 4000000 in
theorem m11_train (E : EV) (l : Launch) (g : G) : ∀ u, k11_train g = some u → MV E l yX11_train cX11_train 1 none 107 0 0 [.ref (E.ad 47)] g u := by
  intro u h
  refine MG.of (by decide +kernel) (Nat.le_of_ble_eq_true rfl) ?_
  intro p e s m args below meth c C hr hnm ls hl hG
  have C : Cx p s m args meth c cX11_train 1 RX11 E := C
  have hx := C.1
  have hb := C.2.1
  have hl : lv_has ls 1 [(0, .ref (E.ad 47))] := hl
  unfold k11_train at h
  have j0 : ∀ f : Nat, ∀ (g : G) (H : Heap) (locs : List Loc) (ls : Array Slot), Gd E s H locs g [] → lv_has ls 1 [(0, .ref (E.ad 47))] → k11_train_0 f g = some u → W p l e (rmD 107 0 0) s m args below meth c H locs 0 0 (MQ below (QV E s.heap.size u) args s 0 0 (AA E s.heap.size)) (F0 m 0 ls []) := by
    intro f
    induction f with
    | zero =>
      intro g H locs ls hG hl h
      unfold k11_train_0 at h
      cases h
    | succ f ih =>
      intro g H locs ls hG hl h
      unfold k11_train_0 at h
      refine lv_aload_n hx hb dX11_train_0 rfl (lv_at hl 0 rfl) ?_
      refine r_getI C hG FX11_115 rfl rfl dX11_train_1 ?_
      refine lv_if_ne (tgt := 34) hx hb dX11_train_4 (by decide) (fun c1 => ?_) (fun c1 => ?_)
      · have h := (if_inv h).2 c1
        exact r_vret C hG hr dX11_train_34 h
      · have h := (if_inv h).1 c1
        refine lv_aload_n hx hb dX11_train_7 rfl (lv_at hl 0 rfl) ?_
        refine r_getA (j := 49) C hG FX11_17 rfl rfl dX11_train_8 ?_
        refine lv_aload_n hx hb dX11_train_11 rfl (lv_at hl 0 rfl) ?_
        refine r_getI C hG FX11_119 rfl rfl dX11_train_12 ?_
        refine r_ild C hG (N := 402) rfl (by decide) dX11_train_15 h (fun x2 h => ?_)
        refine lv_bipush (v := 33) hx hb dX11_train_16 (by decide) ?_
        refine lv_icmp_eq (tgt := 34) hx hb dX11_train_18 (by decide) (fun c3 => ?_) (fun c3 => ?_)
        · have h := (if_inv h).1 c3
          exact r_vret C hG hr dX11_train_34 h
        · have h := (if_inv h).2 c3
          refine lv_aload_n hx hb dX11_train_21 rfl (lv_at hl 0 rfl) ?_
          refine r_callVV C hl.1 hG [] [] (m11_line E l g) LX11_259 rfl KC11 rfl (rm_ok (by decide) (by decide)) (Nat.le_of_ble_eq_true rfl) ⟨Nat.le_refl _, Nat.le_refl _⟩ rfl dX11_train_22 h (fun g4 H locs hG h => ?_)
          refine lv_aload_n hx hb dX11_train_25 rfl (lv_at hl 0 rfl) ?_
          refine lv_bipush (v := 53) hx hb dX11_train_26 (by decide) ?_
          refine r_callVV C hl.1 hG [.int 53] [] (m11_take E l 53 g4) LX11_163 rfl KC11 rfl (rm_ok (by decide) (by decide)) (Nat.le_of_ble_eq_true rfl) ⟨Nat.le_refl _, Nat.le_refl _⟩ rfl dX11_train_28 h (fun g5 H locs hG h => ?_)
          refine lv_goto (tgt := 0) hx hb dX11_train_31 (by decide) ?_
          exact ih g5 _ _ _ hG (lv_sub hl [0] rfl) h
  exact j0 FU g _ _ _ hG (lv_sub hl [0] rfl) h
