set_option maxRecDepth 100000 in
set_option maxHeartbeats 8000000 in
theorem jL_law_154 {E : EV} {l : Launch} (hst : l.stackTraces = false) {u : Int32 × ZS} {p : Program} {e : Env} {s : State} {m : MethodId} {args : Array Value} {below : List Frame} {meth : Method} {c : Code} {F : FT} {Q : State → Prop} (C : Cx p s m args meth c cL_law 28 RL E) (hA : CA F E s) (hU : F.uc = u.2.c ∧ F.uw = u.2.w) (hq : LQ p l e (F.R 1400) s m args below meth c E F u Q) : ∀ (K88 : Int32 → Nat → Nat → Int32 → ZS → Option (Int32 × ZS)), (∀ (v2 : Int32) (v3 : Nat) (v5 : Nat) (v6 : Int32) (S : ZS) (ad : Nat → Nat) (N : Nat) (bv3 : Nat) (bv5 : Nat) (H : Heap) (locs : List Loc) (ls : Array Slot) (cells slots : Nat), GL E s F H locs ad N S cells slots → RA E ad N v3 bv3 → RA E ad N v5 bv5 → lv_has ls 28 [(0, .ref E.sb), (1, .ref (E.ad 0)), (2, .int v2), (3, .ref bv3), (5, .ref bv5), (6, .int v6)] → K88 v2 v3 v5 v6 S = some u → W p l e (F.R 1400) s m args below meth c H locs cells slots Q (F0 m 88 ls [])) → ∀ f : Nat, ∀ (v2 : Int32) (v3 : Nat) (v5 : Nat) (v6 : Int32) (v7 : Int64) (v9 : Int32) (v10 : Int32) (v11 : Int32) (v12 : Nat) (v13 : Int32) (v14 : Int32) (S : ZS) (ad : Nat → Nat) (N : Nat) (bv3 : Nat) (bv5 : Nat) (bv12 : Nat) (H : Heap) (locs : List Loc) (ls : Array Slot) (cells slots : Nat), GL E s F H locs ad N S cells slots → RA E ad N v3 bv3 → RA E ad N v5 bv5 → RA E ad N v12 bv12 → lv_has ls 28 [(0, .ref E.sb), (1, .ref (E.ad 0)), (2, .int v2), (3, .ref bv3), (5, .ref bv5), (6, .int v6), (7, .long v7), (9, .int v9), (10, .int v10), (11, .int v11), (12, .ref bv12), (13, .int v13), (14, .int v14)] → kL_law_154 E.sL E.sx K88 f v2 v3 v5 v6 v7 v9 v10 v11 v12 v13 v14 S = some u → W p l e (F.R 1400) s m args below meth c H locs cells slots Q (F0 m 154 ls []) := by
    have hx := C.1
    have hb := C.2.1
    intro K88 hK88 f
    induction f with
    | zero =>
      intro v2 v3 v5 v6 v7 v9 v10 v11 v12 v13 v14 S ad N bv3 bv5 bv12 H locs ls cells slots hG hv3 hv5 hv12 hl h
      unfold kL_law_154 at h
      cases h
    | succ f ih =>
      intro v2 v3 v5 v6 v7 v9 v10 v11 v12 v13 v14 S ad N bv3 bv5 bv12 H locs ls cells slots hG hv3 hv5 hv12 hl h
      unfold kL_law_154 at h
      refine lv_iload hx hb dL_law_154 (lv_at hl 12 rfl) ?_
      refine lv_iload hx hb dL_law_156 (lv_at hl 7 rfl) ?_
      refine lv_icmp_ge (tgt := 401) hx hb dL_law_158 (by decide) (fun g162 => ?_) (fun g162 => ?_)
      · have h := (if_inv h).1 g162
        refine lv_aload_n hx hb dL_law_401 rfl (lv_at hl 1 rfl) ?_
        refine r2_clP C hA hl.1 hG [] [] (m8_jobs E l S.g) QCL_219.1 QCL_219.2 KC8 rfl (rm2 (by decide) (by decide)) (Nat.le_of_ble_eq_true rfl) rfl dL_law_402 h (fun x163 H locs hG h => ?_)
        refine lv_istore (lv' := [(14, .int x163), (0, .ref E.sb), (1, .ref (E.ad 0)), (2, .int v2), (3, .ref bv3), (5, .ref bv5), (6, .int v6), (7, .long v7), (9, .int v9), (10, .int v10), (11, .int v11), (12, .ref bv12), (13, .int v13)]) hx hb dL_law_405 hl (by decide) rfl (fun ls hl => ?_)
        refine lv_iload hx hb dL_law_407 (lv_at hl 9 rfl) ?_
        refine lv_aload_n hx hb dL_law_409 rfl (lv_at hl 2 rfl) ?_
        refine r2_clI C hA hl.1 hG [] [.int v10] (m8_lightAtEnd E l S.g) QCL_221.1 QCL_221.2 KC8 rfl (rm2 (by decide) (by decide)) (Nat.le_of_ble_eq_true rfl) rfl dL_law_410 h (fun x164 S165 H locs hG h => ?_)
        refine lv_iadd hx hb dL_law_413 ?_
        refine lv_sipush (v := 10000) hx hb dL_law_414 (by decide) ?_
        refine lv_icmp_ne (tgt := 513) hx hb dL_law_417 (by decide) (fun g166 => ?_) (fun g166 => ?_)
        · have h := (if_inv h).2 g166
          refine lv_iconst (v := 0) hx hb dL_law_513 (by decide) ?_
          exact lw9_ret hq hG dL_law_514 h
        · have h := (if_inv h).1 g166
          refine lv_aload_n hx hb dL_law_420 rfl (lv_at hl 2 rfl) ?_
          refine r2_clI C hA hl.1 hG [] [] (m8_tiltAtEnd E l S165.g) QCL_224.1 QCL_224.2 KC8 rfl (rm2 (by decide) (by decide)) (Nat.le_of_ble_eq_true rfl) rfl dL_law_421 h (fun x167 S168 H locs hG h => ?_)
          refine lv_iconst (v := 2) hx hb dL_law_424 (by decide) ?_
          refine lv_iload hx hb dL_law_425 (lv_at hl 10 rfl) ?_
          refine lv_imul hx hb dL_law_427 ?_
          refine lv_icmp_ne (tgt := 513) hx hb dL_law_428 (by decide) (fun g169 => ?_) (fun g169 => ?_)
          · have h := (if_inv h).2 g169
            refine lv_iconst (v := 0) hx hb dL_law_513 (by decide) ?_
            exact lw9_ret hq hG dL_law_514 h
          · have h := (if_inv h).1 g169
            refine lv_iload hx hb dL_law_431 (lv_at hl 0 rfl) ?_
            refine lv_if_lt (tgt := 513) hx hb dL_law_433 (by decide) (fun g170 => ?_) (fun g170 => ?_)
            · have h := (if_inv h).1 g170
              refine lv_iconst (v := 0) hx hb dL_law_513 (by decide) ?_
              exact lw9_ret hq hG dL_law_514 h
            · have h := (if_inv h).2 g170
              refine lv_iload hx hb dL_law_436 (lv_at hl 0 rfl) ?_
              refine lv_bipush (v := 12) hx hb dL_law_438 (by decide) ?_
              refine lv_icmp_gt (tgt := 513) hx hb dL_law_440 (by decide) (fun g171 => ?_) (fun g171 => ?_)
              · have h := (if_inv h).1 g171
                refine lv_iconst (v := 0) hx hb dL_law_513 (by decide) ?_
                exact lw9_ret hq hG dL_law_514 h
              · have h := (if_inv h).2 g171
                refine lv_aload_n hx hb dL_law_443 rfl (lv_at hl 2 rfl) ?_
                refine r2_clP C hA hl.1 hG [] [] (m8_minutesToGo E l S168.g) QCL_204.1 QCL_204.2 KC8 rfl (rm2 (by decide) (by decide)) (Nat.le_of_ble_eq_true rfl) rfl dL_law_444 h (fun x172 H locs hG h => ?_)
                refine lv_if_le (tgt := 455) hx hb dL_law_447 (by decide) (fun g173 => ?_) (fun g173 => ?_)
                · have h := (if_inv h).1 g173
                  exact jL_law_455 hst C hA hU hq K88 hK88 v2 v3 v5 v6 v7 v9 x163 S168 _ _ _ _ _ _ _ _ _ hG hv3 hv5 (lv_sub hl [1, 2, 3, 4, 5, 6, 7, 8, 0] rfl) h
                · have h := (if_inv h).2 g173
                  refine lv_iload hx hb dL_law_450 (lv_at hl 0 rfl) ?_
                  refine lv_if_eq (tgt := 513) hx hb dL_law_452 (by decide) (fun g174 => ?_) (fun g174 => ?_)
                  · have h := (if_inv h).1 g174
                    refine lv_iconst (v := 0) hx hb dL_law_513 (by decide) ?_
                    exact lw9_ret hq hG dL_law_514 h
                  · have h := (if_inv h).2 g174
                    exact jL_law_455 hst C hA hU hq K88 hK88 v2 v3 v5 v6 v7 v9 x163 S168 _ _ _ _ _ _ _ _ _ hG hv3 hv5 (lv_sub hl [1, 2, 3, 4, 5, 6, 7, 8, 0] rfl) h
      · have h := (if_inv h).2 g162
        refine lv_aload_n hx hb dL_law_161 rfl (lv_at hl 1 rfl) ?_
        refine lv_iload hx hb dL_law_162 (lv_at hl 12 rfl) ?_
        refine r2_clR C hA hl.1 hG [.int v14] [] (m8_mirrorAt E l hst v14 S.g) QCL_182.1 QCL_182.2 KC8 rfl (rm2 (by decide) (by decide)) (Nat.le_of_ble_eq_true rfl) rfl dL_law_164 hU h (fun x175 S176 H locs cells slots hG h => ?_)
        refine lv_istore (lv' := [(15, .int x175), (0, .ref E.sb), (1, .ref (E.ad 0)), (2, .int v2), (3, .ref bv3), (5, .ref bv5), (6, .int v6), (7, .long v7), (9, .int v9), (10, .int v10), (11, .int v11), (12, .ref bv12), (13, .int v13), (14, .int v14)]) hx hb dL_law_167 hl (by decide) rfl (fun ls hl => ?_)
        refine lv_aload hx hb dL_law_169 (lv_at hl 11 rfl) ?_
        refine lv_iload hx hb dL_law_171 (lv_at hl 0 rfl) ?_
        refine r2_gAZ C hG hv12 dL_law_173 h (fun x177 h => ?_)
        refine lv_if_ne (tgt := 188) hx hb dL_law_174 (by decide) (fun g178 => ?_) (fun g178 => ?_)
        · have h := (if_inv h).2 g178
          refine lv_iconst (v := 0) hx hb dL_law_188 (by decide) ?_
          exact lw9_ret hq hG dL_law_189 h
        · have h := (if_inv h).1 g178
          refine lv_aload_n hx hb dL_law_177 rfl (lv_at hl 2 rfl) ?_
          refine lv_iload hx hb dL_law_178 (lv_at hl 0 rfl) ?_
          refine r2_clR C hA hl.1 hG [.int x175] [] (m8_placeOf E l hst x175 S176.g) QCL_185.1 QCL_185.2 KC8 rfl (rm2 (by decide) (by decide)) (Nat.le_of_ble_eq_true rfl) rfl dL_law_180 hU h (fun x179 S180 H locs cells slots hG h => ?_)
          refine lv_iload hx hb dL_law_183 (lv_at hl 13 rfl) ?_
          refine lv_icmp_eq (tgt := 190) hx hb dL_law_185 (by decide) (fun g181 => ?_) (fun g181 => ?_)
          · have h := (if_inv h).1 g181
            refine lv_aload hx hb dL_law_190 (lv_at hl 11 rfl) ?_
            refine lv_iload hx hb dL_law_192 (lv_at hl 0 rfl) ?_
            refine lv_iconst (v := 1) hx hb dL_law_194 (by decide) ?_
            refine r2_pAZ C hG hv12 (by decide) dL_law_195 h (fun H locs S182 hG h => ?_)
            refine lv_aload_n hx hb dL_law_196 rfl (lv_at hl 2 rfl) ?_
            refine lv_iload hx hb dL_law_197 (lv_at hl 0 rfl) ?_
            refine r2_clR C hA hl.1 hG [.int x175] [] (m8_lightBehind E l hst x175 S182.g) QCL_188.1 QCL_188.2 KC8 rfl (rm2 (by decide) (by decide)) (Nat.le_of_ble_eq_true rfl) rfl dL_law_199 hU h (fun x183 S184 H locs cells slots hG h => ?_)
            refine lv_istore (lv' := [(16, .int x183), (15, .int x175), (0, .ref E.sb), (1, .ref (E.ad 0)), (2, .int v2), (3, .ref bv3), (5, .ref bv5), (6, .int v6), (7, .long v7), (9, .int v9), (10, .int v10), (11, .int v11), (12, .ref bv12), (13, .int v13), (14, .int v14)]) hx hb dL_law_202 hl (by decide) rfl (fun ls hl => ?_)
            refine lv_iload hx hb dL_law_204 (lv_at hl 10 rfl) ?_
            refine lv_aload_n hx hb dL_law_206 rfl (lv_at hl 3 rfl) ?_
            refine lv_iload hx hb dL_law_207 (lv_at hl 1 rfl) ?_
            refine r2_clR C hA hl.1 hG [.int x175] [.int v10] (m8_lostAt E l hst x175 S184.g) QCL_191.1 QCL_191.2 KC8 rfl (rm2 (by decide) (by decide)) (Nat.le_of_ble_eq_true rfl) rfl dL_law_209 hU h (fun x185 S186 H locs cells slots hG h => ?_)
            refine lv_iadd hx hb dL_law_212 ?_
            refine r_nm h (fun x187 h => ?_)
            refine lv_istore (lv' := [(10, .int x187), (16, .int x183), (15, .int x175), (0, .ref E.sb), (1, .ref (E.ad 0)), (2, .int v2), (3, .ref bv3), (5, .ref bv5), (6, .int v6), (7, .long v7), (9, .int v9), (11, .int v11), (12, .ref bv12), (13, .int v13), (14, .int v14)]) hx hb dL_law_213 hl (by decide) rfl (fun ls hl => ?_)
            refine lv_iload hx hb dL_law_215 (lv_at hl 11 rfl) ?_
            refine lv_aload_n hx hb dL_law_217 rfl (lv_at hl 4 rfl) ?_
            refine lv_iload hx hb dL_law_218 (lv_at hl 2 rfl) ?_
            refine r2_clR C hA hl.1 hG [.int x175] [.int v11] (m8_offsetOf E l hst x175 S186.g) QCL_194.1 QCL_194.2 KC8 rfl (rm2 (by decide) (by decide)) (Nat.le_of_ble_eq_true rfl) rfl dL_law_220 hU h (fun x188 S189 H locs cells slots hG h => ?_)
            refine lv_iadd hx hb dL_law_223 ?_
            refine r_nm h (fun x190 h => ?_)
            refine lv_istore (lv' := [(11, .int x190), (10, .int x187), (16, .int x183), (15, .int x175), (0, .ref E.sb), (1, .ref (E.ad 0)), (2, .int v2), (3, .ref bv3), (5, .ref bv5), (6, .int v6), (7, .long v7), (9, .int v9), (12, .ref bv12), (13, .int v13), (14, .int v14)]) hx hb dL_law_224 hl (by decide) rfl (fun ls hl => ?_)
            refine lv_iload hx hb dL_law_226 (lv_at hl 2 rfl) ?_
            refine lv_if_lt (tgt := 389) hx hb dL_law_228 (by decide) (fun g191 => ?_) (fun g191 => ?_)
            · have h := (if_inv h).1 g191
              refine lv_iconst (v := 0) hx hb dL_law_389 (by decide) ?_
              exact lw9_ret hq hG dL_law_390 h
            · have h := (if_inv h).2 g191
              refine lv_iload hx hb dL_law_231 (lv_at hl 2 rfl) ?_
              refine lv_iload hx hb dL_law_233 (lv_at hl 13 rfl) ?_
              refine lv_icmp_gt (tgt := 389) hx hb dL_law_235 (by decide) (fun g192 => ?_) (fun g192 => ?_)
              · have h := (if_inv h).1 g192
                refine lv_iconst (v := 0) hx hb dL_law_389 (by decide) ?_
                exact lw9_ret hq hG dL_law_390 h
              · have h := (if_inv h).2 g192
                refine lv_aload_n hx hb dL_law_238 rfl (lv_at hl 5 rfl) ?_
                refine lv_iload hx hb dL_law_239 (lv_at hl 3 rfl) ?_
                refine r2_clR C hA hl.1 hG [.int x175] [] (m8_lostAt E l hst x175 S189.g) QCL_191.1 QCL_191.2 KC8 rfl (rm2 (by decide) (by decide)) (Nat.le_of_ble_eq_true rfl) rfl dL_law_241 hU h (fun x193 S194 H locs cells slots hG h => ?_)
                refine lv_iload hx hb dL_law_244 (lv_at hl 13 rfl) ?_
                refine lv_iload hx hb dL_law_246 (lv_at hl 2 rfl) ?_
                refine lv_isub hx hb dL_law_248 ?_
                refine lv_icmp_ne (tgt := 389) hx hb dL_law_249 (by decide) (fun g195 => ?_) (fun g195 => ?_)
                · have h := (if_inv h).2 g195
                  refine lv_iconst (v := 0) hx hb dL_law_389 (by decide) ?_
                  exact lw9_ret hq hG dL_law_390 h
                · have h := (if_inv h).1 g195
                  refine lv_aload_n hx hb dL_law_252 rfl (lv_at hl 5 rfl) ?_
                  refine lv_iload hx hb dL_law_253 (lv_at hl 3 rfl) ?_
                  refine r2_clR C hA hl.1 hG [.int x175] [] (m8_lostAt E l hst x175 S194.g) QCL_191.1 QCL_191.2 KC8 rfl (rm2 (by decide) (by decide)) (Nat.le_of_ble_eq_true rfl) rfl dL_law_255 hU h (fun x196 S197 H locs cells slots hG h => ?_)
                  refine lv_aload_n hx hb dL_law_258 rfl (lv_at hl 5 rfl) ?_
                  refine lv_aload_n hx hb dL_law_259 rfl (lv_at hl 5 rfl) ?_
                  refine r2_clR C hA hl.1 hG [] [.ref (E.ad 0), .int x196] (m8_worstMirror E l hst S197.g) QCL_197.1 QCL_197.2 KC8 rfl (rm2 (by decide) (by decide)) (Nat.le_of_ble_eq_true rfl) rfl dL_law_260 hU h (fun x198 S199 H locs cells slots hG h => ?_)
                  refine r2_clR C hA hl.1 hG [.int x198] [.int x196] (m8_lostAt E l hst x198 S199.g) QCL_191.1 QCL_191.2 KC8 rfl (rm2 (by decide) (by decide)) (Nat.le_of_ble_eq_true rfl) rfl dL_law_263 hU h (fun x200 S201 H locs cells slots hG h => ?_)
                  refine lv_icmp_gt (tgt := 389) hx hb dL_law_266 (by decide) (fun g202 => ?_) (fun g202 => ?_)
                  · have h := (if_inv h).1 g202
                    refine lv_iconst (v := 0) hx hb dL_law_389 (by decide) ?_
                    exact lw9_ret hq hG dL_law_390 h
                  · have h := (if_inv h).2 g202
                    refine lv_aload_n hx hb dL_law_269 rfl (lv_at hl 5 rfl) ?_
                    refine lv_iload hx hb dL_law_270 (lv_at hl 3 rfl) ?_
                    refine r2_clR C hA hl.1 hG [.int x175] [] (m8_isCovered E l hst x175 S201.g) QCL_200.1 QCL_200.2 KC8 rfl (rm2 (by decide) (by decide)) (Nat.le_of_ble_eq_true rfl) rfl dL_law_272 hU h (fun x203 S204 H locs cells slots hG h => ?_)
                    refine lv_if_eq (tgt := 283) hx hb dL_law_275 (by decide) (fun g205 => ?_) (fun g205 => ?_)
                    · have h := (if_inv h).1 g205
                      exact jL_law_283 hst C hA hU hq (kL_law_154 E.sL E.sx K88 f) ih v2 v3 v5 v6 v7 v9 x187 x190 v12 v14 x175 x183 S204 _ _ _ _ _ _ _ _ _ _ hG hv3 hv5 hv12 (lv_sub hl [4, 5, 6, 7, 8, 9, 10, 11, 1, 0, 12, 14, 3, 2] rfl) h
                    · have h := (if_inv h).2 g205
                      refine lv_iload hx hb dL_law_278 (lv_at hl 2 rfl) ?_
                      refine lv_if_gt (tgt := 389) hx hb dL_law_280 (by decide) (fun g206 => ?_) (fun g206 => ?_)
                      · have h := (if_inv h).1 g206
                        refine lv_iconst (v := 0) hx hb dL_law_389 (by decide) ?_
                        exact lw9_ret hq hG dL_law_390 h
                      · have h := (if_inv h).2 g206
                        exact jL_law_283 hst C hA hU hq (kL_law_154 E.sL E.sx K88 f) ih v2 v3 v5 v6 v7 v9 x187 x190 v12 v14 x175 x183 S204 _ _ _ _ _ _ _ _ _ _ hG hv3 hv5 hv12 (lv_sub hl [4, 5, 6, 7, 8, 9, 10, 11, 1, 0, 12, 14, 3, 2] rfl) h
          · have h := (if_inv h).2 g181
            refine lv_iconst (v := 0) hx hb dL_law_188 (by decide) ?_
            exact lw9_ret hq hG dL_law_189 h
