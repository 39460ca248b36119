set_option maxRecDepth 100000 in
set_option maxHeartbeats 8000000 in
theorem jL_law_88 {E : EV} {l : Launch} (hst : l.stackTraces = false) {u : Int32 × ZS} {p : Program} {e : Env} {s : State} {m : MethodId} {args : Array Value} {below : List Frame} {meth : Method} {c : Code} {F : FT} {Q : State → Prop} (C : Cx p s m args meth c cL_law 28 RL E) (hA : CA F E s) (hU : F.uc = u.2.c ∧ F.uw = u.2.w) (hq : LQ p l e (F.R 1400) s m args below meth c E F u Q) : ∀ (K10 : Int32 → ZS → Option (Int32 × ZS)), (∀ (v2 : Int32) (S : ZS) (ad : Nat → Nat) (N : Nat) (H : Heap) (locs : List Loc) (ls : Array Slot) (cells slots : Nat), GL E s F H locs ad N S cells slots → lv_has ls 28 [(0, .ref E.sb), (1, .ref (E.ad 0)), (2, .int v2)] → K10 v2 S = some u → W p l e (F.R 1400) s m args below meth c H locs cells slots Q (F0 m 10 ls [])) → ∀ f : Nat, ∀ (v2 : Int32) (v3 : Nat) (v5 : Nat) (v6 : Int32) (S : ZS) (ad : Nat → Nat) (N : Nat) (bv3 : Nat) (bv5 : Nat) (H : Heap) (locs : List Loc) (ls : Array Slot) (cells slots : Nat), GL E s F H locs ad N S cells slots → RA E ad N v3 bv3 → RA E ad N v5 bv5 → lv_has ls 28 [(0, .ref E.sb), (1, .ref (E.ad 0)), (2, .int v2), (3, .ref bv3), (5, .ref bv5), (6, .int v6)] → kL_law_88 E.sL E.sx K10 f v2 v3 v5 v6 S = some u → W p l e (F.R 1400) s m args below meth c H locs cells slots Q (F0 m 88 ls []) := by
    have hx := C.1
    have hb := C.2.1
    intro K10 hK10 f
    induction f with
    | zero =>
      intro v2 v3 v5 v6 S ad N bv3 bv5 H locs ls cells slots hG hv3 hv5 hl h
      unfold kL_law_88 at h
      cases h
    | succ f ih =>
      intro v2 v3 v5 v6 S ad N bv3 bv5 H locs ls cells slots hG hv3 hv5 hl h
      unfold kL_law_88 at h
      refine lv_iload hx hb dL_law_88 (lv_at hl 5 rfl) ?_
      refine lv_bipush (v := 8) hx hb dL_law_90 (by decide) ?_
      refine lv_icmp_ge (tgt := 981) hx hb dL_law_92 (by decide) (fun g225 => ?_) (fun g225 => ?_)
      · have h := (if_inv h).1 g225
        refine lv_aload hx hb dL_law_981 (lv_at hl 4 rfl) ?_
        refine lv_aload_n hx hb dL_law_983 rfl (lv_at hl 1 rfl) ?_
        refine r2_cVI C hA hl.1 hG hv5 [.ref (E.ad 0)] [] (mX12_isSame E l hst v5 S (RAq hG hv5)) (by rw [hv5.1]) QLL_254 KP14 rfl (rm2 (by decide) (by decide)) (Nat.le_of_ble_eq_true rfl) rfl dL_law_984 hU h (fun x228 S226 H locs ad227 cells slots hG hx9 h => ?_)
        have hv3 := hv3.up hx9
        have hv5 := hv5.up hx9
        refine lv_if_ne (tgt := 992) hx hb dL_law_987 (by decide) (fun g229 => ?_) (fun g229 => ?_)
        · have h := (if_inv h).2 g229
          refine lv_aload_n hx hb dL_law_992 rfl (lv_at hl 3 rfl) ?_
          refine lv_bipush (v := 101) hx hb dL_law_993 (by decide) ?_
          refine r2_cVI C hA hl.1 hG hv3 [.int 101] [] (mX9_next E l v3 101 S226 (RAq hG hv3)) (by rw [hv3.1]) QLL_35 KP11 rfl (rm2 (by decide) (by decide)) (Nat.le_of_ble_eq_true rfl) rfl dL_law_995 hU h (fun x232 S230 H locs ad231 cells slots hG hx9 h => ?_)
          have hv3 := hv3.up hx9
          have hv5 := hv5.up hx9
          refine lv_istore (lv' := [(6, .int x232), (0, .ref E.sb), (1, .ref (E.ad 0)), (2, .int v2), (3, .ref bv3), (5, .ref bv5)]) hx hb dL_law_998 hl (by decide) rfl (fun ls hl => ?_)
          refine lv_iconst (v := 1) hx hb dL_law_1000 (by decide) ?_
          refine lv_aload_n hx hb dL_law_1001 rfl (lv_at hl 4 rfl) ?_
          refine lv_bipush (v := 99) hx hb dL_law_1002 (by decide) ?_
          refine r2_cVI C hA hl.1 hG hv3 [.int 99] [.int 1] (mX9_next E l v3 99 S230 (RAq hG hv3)) (by rw [hv3.1]) QLL_35 KP11 rfl (rm2 (by decide) (by decide)) (Nat.le_of_ble_eq_true rfl) rfl dL_law_1004 hU h (fun x235 S233 H locs ad234 cells slots hG hx9 h => ?_)
          have hv3 := hv3.up hx9
          have hv5 := hv5.up hx9
          refine lv_iadd hx hb dL_law_1007 ?_
          refine r_nm h (fun x236 h => ?_)
          refine lv_istore (lv' := [(7, .int x236), (6, .int x232), (0, .ref E.sb), (1, .ref (E.ad 0)), (2, .int v2), (3, .ref bv3), (5, .ref bv5)]) hx hb dL_law_1008 hl (by decide) rfl (fun ls hl => ?_)
          refine lv_aload_n hx hb dL_law_1010 rfl (lv_at hl 3 rfl) ?_
          refine r2_new C hA hG KP1 (mTBi 1655 (by decide +kernel) rfl) (mTBi 1502 (by decide +kernel) rfl) (mTBi 51 (by decide +kernel) rfl) (by decide +kernel) dL_law_1011 hU h (fun bc237 c237 H ad239 S238 cells slots hG hx9 h_c237 h => ?_)
          have hv3 := hv3.up hx9
          have hv5 := hv5.up hx9
          refine lv_dup hx hb dL_law_1014 rfl ?_
          refine r2_cIV C hA hl.1 hG [] [.ref bc237, .ref (E.ad 0)] (mJ4_init_da8c8 E l c237 S238 (RAq hG h_c237)) (by rw [h_c237.1]) QLL_160 rfl (rm2 (by decide) (by decide)) (Nat.le_of_ble_eq_true rfl) rfl dL_law_1015 hU h (fun S240 H locs ad241 cells slots hG hx9 h => ?_)
          have hv3 := hv3.up hx9
          have hv5 := hv5.up hx9
          have h_c237 := h_c237.up hx9
          refine r2_ldcw C 70 (by decide) ⟨rfl, rfl⟩ dL_law_1018 ?_
          refine r2_cVR C hA hl.1 hG h_c237 [.ref (E.aK 70)] [.ref (E.ad 0)] (mJ4_append_15ec4_S E l c237 70 S240 (RAq hG h_c237)) (by rw [h_c237.1]) QLL_46 KP1 rfl (rm2 (by decide) (by decide)) (Nat.le_of_ble_eq_true rfl) rfl dL_law_1021 hU h (fun bc244 c244 S242 H locs ad243 cells slots hG hx9 h_c244 h => ?_)
          have hv3 := hv3.up hx9
          have hv5 := hv5.up hx9
          refine lv_iload hx hb dL_law_1024 (lv_at hl 1 rfl) ?_
          refine r2_cVR C hA hl.1 hG h_c244 [.int x232] [.ref (E.ad 0)] (mJ4_append_bf812 E l c244 x232 S242 (RAq hG h_c244)) (by rw [h_c244.1]) QLL_52 KP1 rfl (rm2 (by decide) (by decide)) (Nat.le_of_ble_eq_true rfl) rfl dL_law_1026 hU h (fun bc247 c247 S245 H locs ad246 cells slots hG hx9 h_c247 h => ?_)
          have hv3 := hv3.up hx9
          have hv5 := hv5.up hx9
          refine r2_ldcw C 71 (by decide) ⟨rfl, rfl⟩ dL_law_1029 ?_
          refine r2_cVR C hA hl.1 hG h_c247 [.ref (E.aK 71)] [.ref (E.ad 0)] (mJ4_append_15ec4_S E l c247 71 S245 (RAq hG h_c247)) (by rw [h_c247.1]) QLL_46 KP1 rfl (rm2 (by decide) (by decide)) (Nat.le_of_ble_eq_true rfl) rfl dL_law_1032 hU h (fun bc250 c250 S248 H locs ad249 cells slots hG hx9 h_c250 h => ?_)
          have hv3 := hv3.up hx9
          have hv5 := hv5.up hx9
          refine lv_iload hx hb dL_law_1035 (lv_at hl 0 rfl) ?_
          refine r2_cVR C hA hl.1 hG h_c250 [.int x236] [.ref (E.ad 0)] (mJ4_append_bf812 E l c250 x236 S248 (RAq hG h_c250)) (by rw [h_c250.1]) QLL_52 KP1 rfl (rm2 (by decide) (by decide)) (Nat.le_of_ble_eq_true rfl) rfl dL_law_1037 hU h (fun bc253 c253 S251 H locs ad252 cells slots hG hx9 h_c253 h => ?_)
          have hv3 := hv3.up hx9
          have hv5 := hv5.up hx9
          refine r2_ldcw C 72 (by decide) ⟨rfl, rfl⟩ dL_law_1040 ?_
          refine r2_cVR C hA hl.1 hG h_c253 [.ref (E.aK 72)] [.ref (E.ad 0)] (mJ4_append_15ec4_S E l c253 72 S251 (RAq hG h_c253)) (by rw [h_c253.1]) QLL_46 KP1 rfl (rm2 (by decide) (by decide)) (Nat.le_of_ble_eq_true rfl) rfl dL_law_1043 hU h (fun bc256 c256 S254 H locs ad255 cells slots hG hx9 h_c256 h => ?_)
          have hv3 := hv3.up hx9
          have hv5 := hv5.up hx9
          refine r2_cVR C hA hl.1 hG h_c256 [] [.ref (E.ad 0)] (mJ4_toString_0e30d E l c256 S254 (RAq hG h_c256)) (by rw [h_c256.1]) QLL_165 KP1 rfl (rm2 (by decide) (by decide)) (Nat.le_of_ble_eq_true rfl) rfl dL_law_1046 hU h (fun bc259 c259 S257 H locs ad258 cells slots hG hx9 h_c259 h => ?_)
          have hv3 := hv3.up hx9
          have hv5 := hv5.up hx9
          refine r2_cSI C hA hl.1 hG [.ref (E.ad 0), .ref bc259] [] (mL_taught E l hst c259 S257 (RAq hG h_c259)) (by rw [h_c259.1]) QLL_168 rfl (rm2 (by decide) (by decide)) (Nat.le_of_ble_eq_true rfl) rfl dL_law_1049 hU h (fun x262 S260 H locs ad261 cells slots hG hx9 h => ?_)
          have hv3 := hv3.up hx9
          have hv5 := hv5.up hx9
          refine lv_if_eq (tgt := 1057) hx hb dL_law_1052 (by decide) (fun g263 => ?_) (fun g263 => ?_)
          · have h := (if_inv h).1 g263
            refine lv_aload_n hx hb dL_law_1057 rfl (lv_at hl 3 rfl) ?_
            refine r2_clI C hA hl.1 hG [] [] (m8_bestToClean E l S260.g) QCL_251.1 QCL_251.2 KC8 rfl (rm2 (by decide) (by decide)) (Nat.le_of_ble_eq_true rfl) rfl dL_law_1058 h (fun x264 S265 H locs hG h => ?_)
            refine lv_istore (lv' := [(8, .int x264), (7, .int x236), (6, .int x232), (0, .ref E.sb), (1, .ref (E.ad 0)), (2, .int v2), (3, .ref bv3), (5, .ref bv5)]) hx hb dL_law_1061 hl (by decide) rfl (fun ls hl => ?_)
            refine lv_aload_n hx hb dL_law_1063 rfl (lv_at hl 4 rfl) ?_
            refine r2_clI C hA hl.1 hG [] [] (m8_lightAtEnd E l S265.g) QCL_221.1 QCL_221.2 KC8 rfl (rm2 (by decide) (by decide)) (Nat.le_of_ble_eq_true rfl) rfl dL_law_1064 h (fun x266 S267 H locs hG h => ?_)
            refine lv_istore (lv' := [(9, .int x266), (8, .int x264), (7, .int x236), (6, .int x232), (0, .ref E.sb), (1, .ref (E.ad 0)), (2, .int v2), (3, .ref bv3), (5, .ref bv5)]) hx hb dL_law_1067 hl (by decide) rfl (fun ls hl => ?_)
            refine lv_iload hx hb dL_law_1069 (lv_at hl 1 rfl) ?_
            refine lv_if_lt (tgt := 1118) hx hb dL_law_1071 (by decide) (fun g268 => ?_) (fun g268 => ?_)
            · have h := (if_inv h).1 g268
              exact jL_law_1118 hst C hA hU hq K10 hK10 v2 x232 x264 x266 S267 _ _ _ _ _ _ _ hG (lv_sub hl [4, 5, 6, 3, 1, 0] rfl) h
            · have h := (if_inv h).2 g268
              refine lv_aload_n hx hb dL_law_1074 rfl (lv_at hl 5 rfl) ?_
              refine lv_iload hx hb dL_law_1075 (lv_at hl 1 rfl) ?_
              refine lv_iconst (v := 0) hx hb dL_law_1077 (by decide) ?_
              refine r2_clR C hA hl.1 hG [.int x264, .int 0] [] (m8_orderJob E l hst x264 0 S267.g) QCL_116.1 QCL_116.2 KC8 rfl (rm2 (by decide) (by decide)) (Nat.le_of_ble_eq_true rfl) rfl dL_law_1078 hU h (fun x269 S270 H locs cells slots hG h => ?_)
              refine lv_iconst (v := 1) hx hb dL_law_1081 (by decide) ?_
              refine lv_icmp_ne (tgt := 1135) hx hb dL_law_1082 (by decide) (fun g271 => ?_) (fun g271 => ?_)
              · have h := (if_inv h).2 g271
                refine lv_iconst (v := 0) hx hb dL_law_1135 (by decide) ?_
                exact lw9_ret hq hG dL_law_1136 h
              · have h := (if_inv h).1 g271
                refine lv_aload_n hx hb dL_law_1085 rfl (lv_at hl 5 rfl) ?_
                refine lv_aload_n hx hb dL_law_1086 rfl (lv_at hl 5 rfl) ?_
                refine lv_iconst (v := 0) hx hb dL_law_1087 (by decide) ?_
                refine r2_clR C hA hl.1 hG [.int 0] [.ref (E.ad 0)] (m8_minutesUntilDone E l hst 0 S270.g) QCL_240.1 QCL_240.2 KC8 rfl (rm2 (by decide) (by decide)) (Nat.le_of_ble_eq_true rfl) rfl dL_law_1088 hU h (fun x272 S273 H locs cells slots hG h => ?_)
                refine r2_clR C hA hl.1 hG [.int x272] [] (m8_passMinutes E l hst x272 S273.g) QCL_102.1 QCL_102.2 KC8 rfl (rm2 (by decide) (by decide)) (Nat.le_of_ble_eq_true rfl) rfl dL_law_1091 hU h (fun x274 S275 H locs cells slots hG h => ?_)
                refine lv_iconst (v := 1) hx hb dL_law_1094 (by decide) ?_
                refine lv_icmp_ne (tgt := 1135) hx hb dL_law_1095 (by decide) (fun g276 => ?_) (fun g276 => ?_)
                · have h := (if_inv h).2 g276
                  refine lv_iconst (v := 0) hx hb dL_law_1135 (by decide) ?_
                  exact lw9_ret hq hG dL_law_1136 h
                · have h := (if_inv h).1 g276
                  refine lv_aload_n hx hb dL_law_1098 rfl (lv_at hl 5 rfl) ?_
                  refine r2_clI C hA hl.1 hG [] [] (m8_lightAtEnd E l S275.g) QCL_221.1 QCL_221.2 KC8 rfl (rm2 (by decide) (by decide)) (Nat.le_of_ble_eq_true rfl) rfl dL_law_1099 h (fun x277 S278 H locs hG h => ?_)
                  refine lv_iload hx hb dL_law_1102 (lv_at hl 0 rfl) ?_
                  refine lv_icmp_le (tgt := 1135) hx hb dL_law_1104 (by decide) (fun g279 => ?_) (fun g279 => ?_)
                  · have h := (if_inv h).1 g279
                    refine lv_iconst (v := 0) hx hb dL_law_1135 (by decide) ?_
                    exact lw9_ret hq hG dL_law_1136 h
                  · have h := (if_inv h).2 g279
                    refine lv_aload_n hx hb dL_law_1107 rfl (lv_at hl 5 rfl) ?_
                    refine lv_iload hx hb dL_law_1108 (lv_at hl 1 rfl) ?_
                    refine r2_clR C hA hl.1 hG [.int x264] [] (m8_clarityOf E l hst x264 S278.g) QCL_210.1 QCL_210.2 KC8 rfl (rm2 (by decide) (by decide)) (Nat.le_of_ble_eq_true rfl) rfl dL_law_1110 hU h (fun x280 S281 H locs cells slots hG h => ?_)
                    refine lv_bipush (v := 100) hx hb dL_law_1113 (by decide) ?_
                    refine lv_icmp_ne (tgt := 1135) hx hb dL_law_1115 (by decide) (fun g282 => ?_) (fun g282 => ?_)
                    · have h := (if_inv h).2 g282
                      refine lv_iconst (v := 0) hx hb dL_law_1135 (by decide) ?_
                      exact lw9_ret hq hG dL_law_1136 h
                    · have h := (if_inv h).1 g282
                      exact jL_law_1118 hst C hA hU hq K10 hK10 v2 x232 x264 x266 S281 _ _ _ _ _ _ _ hG (lv_sub hl [4, 5, 6, 3, 1, 0] rfl) h
          · have h := (if_inv h).2 g263
            refine lv_iconst (v := 0) hx hb dL_law_1055 (by decide) ?_
            exact lw9_ret hq hG dL_law_1056 h
        · have h := (if_inv h).1 g229
          refine lv_iconst (v := 0) hx hb dL_law_990 (by decide) ?_
          exact lw9_ret hq hG dL_law_991 h
      · have h := (if_inv h).2 g225
        refine lv_iconst (v := 0) hx hb dL_law_95 (by decide) ?_
        refine lv_istore (lv' := [(7, .int 0), (0, .ref E.sb), (1, .ref (E.ad 0)), (2, .int v2), (3, .ref bv3), (5, .ref bv5), (6, .int v6)]) hx hb dL_law_96 hl (by decide) rfl (fun ls hl => ?_)
        exact jL_law_98 hst C hA hU hq (kL_law_88 E.sL E.sx K10 f) ih FU v2 v3 v5 v6 0 S _ _ _ _ _ _ _ _ _ hG hv3 hv5 (lv_sub hl [1, 2, 3, 4, 5, 6, 0] rfl) h
