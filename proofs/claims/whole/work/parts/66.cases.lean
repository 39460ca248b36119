section CASES
variable {p : Program} {l : Launch} {e : Env} {s : State} {m : MethodId} {below : List Frame} {meth : Method} {c : Code} {H : Heap} {locs : List Loc} {Q : State → Prop} {E : EV} {tL : ClassId} {ao : Nat} {ls : Array Slot} {g : G} {f : Nat → Int64} {b L i n k sl : Nat} {sc : Nat → Int32} {I : Nat → G → Prop}
set_option maxRecDepth 100000 in
theorem cs_feed (hS : S_feed I) (hst : l.stackTraces = false) (C : Cx p s m #[Value.ref b] meth c cL_law 9 RL E) (hO : OT E tL ao s) (hao : s.heap.size ≤ ao) (hA9 : ¬ AA E s.heap.size b) (hX : va_X b L sc s s.heap) (hbl : b < s.heap.size) (hi : i + 5 < L) (hL : L ≤ 3072) (hI : I n g) (hG : Gd E s H locs g [oE tL ao f]) (hl : lv_has ls 9 [(0, .ref b), (1, .ref (E.ad 0)), (2, .ref (E.ad 47)), (3, .ref ao), (4, .int (nI i))]) (hk : k + 12 ≤ 601024 ∧ sl + 95 ≤ 7293034)
    (KK : ∀ (H1 : Heap) (locs1 : List Loc) (g1 : G) (f1 : Nat → Int64) (ls1 : Array Slot) (k1 s1 : Nat), k1 ≤ k + 12 → s1 ≤ sl + 95 → I (n + 1) g1 → Gd E s H1 locs1 g1 [oE tL ao f1] → lv_has ls1 9 [(0, .ref b), (1, .ref (E.ad 0)), (2, .ref (E.ad 47)), (3, .ref ao), (4, .int (nI i))] → W p l e room_1 s m #[Value.ref b] below meth c H1 locs1 k1 s1 Q (F0 m 1828 ls1 [])) : W p l e room_1 s m #[Value.ref b] below meth c H locs k sl Q (F0 m 212 ls []) := by
  have hx := C.1
  have hb := C.2.1
  obtain ⟨u, v, hu, hv, hth, hval, hI1⟩ := hS n g f (sc (i + 1)) (sc (i + 2)) (sc (i + 3)) (sc (i + 4)) (sc (i + 5)) hI
  refine lv_aload_n hx hb dL_law_212 rfl (lv_at hl 1 rfl) ?_
  refine r_arg (j := 1) C hX hbl hA9 hG.2.2 hl (k0 := 0) (k4 := 4) rfl rfl rfl (by omega) hL dL_law_213 dL_law_214 dL_law_216 dL_law_217 dL_law_218 ?_
  refine r_arg (j := 2) C hX hbl hA9 hG.2.2 hl (k0 := 0) (k4 := 4) rfl rfl rfl (by omega) hL dL_law_219 dL_law_220 dL_law_222 dL_law_223 dL_law_224 ?_
  refine r_arg (j := 3) C hX hbl hA9 hG.2.2 hl (k0 := 0) (k4 := 4) rfl rfl rfl (by omega) hL dL_law_225 dL_law_226 dL_law_228 dL_law_229 dL_law_230 ?_
  refine r_arg (j := 4) C hX hbl hA9 hG.2.2 hl (k0 := 0) (k4 := 4) rfl rfl rfl (by omega) hL dL_law_231 dL_law_232 dL_law_234 dL_law_235 dL_law_236 ?_
  refine r_arg (j := 5) C hX hbl hA9 hG.2.2 hl (k0 := 0) (k4 := 4) rfl rfl rfl (by omega) hL dL_law_237 dL_law_238 dL_law_240 dL_law_241 dL_law_242 ?_
  refine lv_aload_n hx hb dL_law_243 rfl (lv_at hl 3 rfl) ?_
  refine r_own C hl.1 hO hao hG [.ref (E.ad 0), .int (sc (i + 1)), .int (sc (i + 2)), .int (sc (i + 3)), .int (sc (i + 4)), .int (sc (i + 5)), .ref ao] [] (v_feed E tL ao l hst (sc (i + 1)) (sc (i + 2)) (sc (i + 3)) (sc (i + 4)) (sc (i + 5)) g f u hu) LS_93 rfl ⟨Nat.le_of_ble_eq_true rfl, Nat.le_of_ble_eq_true rfl⟩ (Nat.le_of_ble_eq_true rfl) ⟨by show k + 3 ≤ 601024; omega, by show sl + 18 ≤ 7293034; omega⟩ rfl dL_law_244 (fun H locs hG => ?_)
  refine lv_istore (lv' := [(5, .int u.1), (0, .ref b), (1, .ref (E.ad 0)), (2, .ref (E.ad 47)), (3, .ref ao), (4, .int (nI i))]) hx hb dL_law_247 hl (by decide) rfl (fun ls hl => ?_)
  refine lv_aload_n hx hb dL_law_249 rfl (lv_at hl 3 rfl) ?_
  refine r_arg (j := 1) C hX hbl hA9 hG.2.2 hl (k0 := 1) (k4 := 5) rfl rfl rfl (by omega) hL dL_law_250 dL_law_251 dL_law_253 dL_law_254 dL_law_255 ?_
  refine r_arg (j := 2) C hX hbl hA9 hG.2.2 hl (k0 := 1) (k4 := 5) rfl rfl rfl (by omega) hL dL_law_256 dL_law_257 dL_law_259 dL_law_260 dL_law_261 ?_
  refine r_arg (j := 3) C hX hbl hA9 hG.2.2 hl (k0 := 1) (k4 := 5) rfl rfl rfl (by omega) hL dL_law_262 dL_law_263 dL_law_265 dL_law_266 dL_law_267 ?_
  refine r_arg (j := 4) C hX hbl hA9 hG.2.2 hl (k0 := 1) (k4 := 5) rfl rfl rfl (by omega) hL dL_law_268 dL_law_269 dL_law_271 dL_law_272 dL_law_273 ?_
  refine r_arg (j := 5) C hX hbl hA9 hG.2.2 hl (k0 := 1) (k4 := 5) rfl rfl rfl (by omega) hL dL_law_274 dL_law_275 dL_law_277 dL_law_278 dL_law_279 ?_
  refine af_I hG (run_V C hl.1 hG (m11_feed E l (sc (i + 1)) (sc (i + 2)) (sc (i + 3)) (sc (i + 4)) (sc (i + 5)) u.2.1 v hv) (rest := []) LM_98 rfl KC11 rfl ⟨Nat.le_of_ble_eq_true rfl, Nat.le_of_ble_eq_true rfl⟩ (Nat.le_of_ble_eq_true rfl) ⟨by show k + 3 + 1 ≤ 601024; omega, by show sl + 18 + 5 ≤ 7293034; omega⟩ rfl dL_law_280) (fun H locs hG => ?_)
  refine lv_istore (lv' := [(6, .int v.1), (5, .int u.1), (0, .ref b), (1, .ref (E.ad 0)), (2, .ref (E.ad 47)), (3, .ref ao), (4, .int (nI i))]) hx hb dL_law_283 hl (by decide) rfl (fun ls hl => ?_)
  refine lv_aload_n hx hb dL_law_285 rfl (lv_at hl 4 rfl) ?_
  refine af_I hG (run_V C hl.1 hG (m11_thrown E l v.2 (v.2 47 0) rfl) (rest := []) LM_99 rfl KC11 rfl ⟨Nat.le_of_ble_eq_true rfl, Nat.le_of_ble_eq_true rfl⟩ (Nat.le_of_ble_eq_true rfl) ⟨by show k + 3 + 1 + 0 ≤ 601024; omega, by show sl + 18 + 5 + 0 ≤ 7293034; omega⟩ rfl dL_law_286) (fun H locs hG => ?_)
  refine lv_iload hx hb dL_law_289 (lv_at hl 1 rfl) ?_
  refine lv_icmp_eq (tgt := 296) hx hb dL_law_291 (by decide) (fun _ => ?_) (fun c1 => absurd hth c1)
  refine lv_iload hx hb dL_law_296 (lv_at hl 1 rfl) ?_
  refine lv_if_ne (tgt := 313) hx hb dL_law_298 (by decide) (fun _ => ?_) (fun h0 => ?_)
  · refine lv_goto (tgt := 1828) hx hb dL_law_313 (by decide) ?_
    exact KK _ _ _ _ _ _ _ (by omega) (by omega) hI1 hG (lv_sub hl [2, 3, 4, 5, 6] rfl)
  · skip
    refine lv_aload_n hx hb dL_law_301 rfl (lv_at hl 5 rfl) ?_
    refine lv_iconst (v := 0) hx hb dL_law_302 (by decide) ?_
    refine r_out C hO hG dL_law_303 ?_
    refine lv_iload hx hb dL_law_304 (lv_at hl 0 rfl) ?_
    refine lv_i2l hx hb dL_law_306 rfl ?_
    rw [hval h0]
    refine r_lcmpE C dL_law_307 ?_
    refine lv_if_eq (tgt := 313) hx hb dL_law_308 (by decide) (fun _ => ?_) (fun c9 => absurd rfl c9)
    refine lv_goto (tgt := 1828) hx hb dL_law_313 (by decide) ?_
    exact KK _ _ _ _ _ _ _ (by omega) (by omega) hI1 hG (lv_sub hl [2, 3, 4, 5, 6] rfl)
set_option maxRecDepth 100000 in
theorem cs_trim (hS : S_trim I) (hst : l.stackTraces = false) (C : Cx p s m #[Value.ref b] meth c cL_law 9 RL E) (hO : OT E tL ao s) (hao : s.heap.size ≤ ao) (hA9 : ¬ AA E s.heap.size b) (hX : va_X b L sc s s.heap) (hbl : b < s.heap.size) (hi : i + 5 < L) (hL : L ≤ 3072) (hI : I n g) (hG : Gd E s H locs g [oE tL ao f]) (hl : lv_has ls 9 [(0, .ref b), (1, .ref (E.ad 0)), (2, .ref (E.ad 47)), (3, .ref ao), (4, .int (nI i))]) (hk : k + 12 ≤ 601024 ∧ sl + 95 ≤ 7293034)
    (KK : ∀ (H1 : Heap) (locs1 : List Loc) (g1 : G) (f1 : Nat → Int64) (ls1 : Array Slot) (k1 s1 : Nat), k1 ≤ k + 12 → s1 ≤ sl + 95 → I (n + 1) g1 → Gd E s H1 locs1 g1 [oE tL ao f1] → lv_has ls1 9 [(0, .ref b), (1, .ref (E.ad 0)), (2, .ref (E.ad 47)), (3, .ref ao), (4, .int (nI i))] → W p l e room_1 s m #[Value.ref b] below meth c H1 locs1 k1 s1 Q (F0 m 1828 ls1 [])) : W p l e room_1 s m #[Value.ref b] below meth c H locs k sl Q (F0 m 316 ls []) := by
  have hx := C.1
  have hb := C.2.1
  obtain ⟨u, v, hu, hv, hth, hval, hI1⟩ := hS n g f (sc (i + 1)) hI
  refine lv_aload_n hx hb dL_law_316 rfl (lv_at hl 1 rfl) ?_
  refine r_arg (j := 1) C hX hbl hA9 hG.2.2 hl (k0 := 0) (k4 := 4) rfl rfl rfl (by omega) hL dL_law_317 dL_law_318 dL_law_320 dL_law_321 dL_law_322 ?_
  refine lv_aload_n hx hb dL_law_323 rfl (lv_at hl 3 rfl) ?_
  refine r_own C hl.1 hO hao hG [.ref (E.ad 0), .int (sc (i + 1)), .ref ao] [] (v_trim E tL ao l hst (sc (i + 1)) g f u hu) LS_102 rfl ⟨Nat.le_of_ble_eq_true rfl, Nat.le_of_ble_eq_true rfl⟩ (Nat.le_of_ble_eq_true rfl) ⟨by show k + 3 ≤ 601024; omega, by show sl + 18 ≤ 7293034; omega⟩ rfl dL_law_324 (fun H locs hG => ?_)
  refine lv_istore (lv' := [(5, .int u.1), (0, .ref b), (1, .ref (E.ad 0)), (2, .ref (E.ad 47)), (3, .ref ao), (4, .int (nI i))]) hx hb dL_law_327 hl (by decide) rfl (fun ls hl => ?_)
  refine lv_aload_n hx hb dL_law_329 rfl (lv_at hl 3 rfl) ?_
  refine r_arg (j := 1) C hX hbl hA9 hG.2.2 hl (k0 := 1) (k4 := 5) rfl rfl rfl (by omega) hL dL_law_330 dL_law_331 dL_law_333 dL_law_334 dL_law_335 ?_
  refine af_I hG (run_V C hl.1 hG (m11_trim E l (sc (i + 1)) u.2.1 v hv) (rest := []) LM_105 rfl KC11 rfl ⟨Nat.le_of_ble_eq_true rfl, Nat.le_of_ble_eq_true rfl⟩ (Nat.le_of_ble_eq_true rfl) ⟨by show k + 3 + 0 ≤ 601024; omega, by show sl + 18 + 0 ≤ 7293034; omega⟩ rfl dL_law_336) (fun H locs hG => ?_)
  refine lv_istore (lv' := [(6, .int v.1), (5, .int u.1), (0, .ref b), (1, .ref (E.ad 0)), (2, .ref (E.ad 47)), (3, .ref ao), (4, .int (nI i))]) hx hb dL_law_339 hl (by decide) rfl (fun ls hl => ?_)
  refine lv_aload_n hx hb dL_law_341 rfl (lv_at hl 4 rfl) ?_
  refine af_I hG (run_V C hl.1 hG (m11_thrown E l v.2 (v.2 47 0) rfl) (rest := []) LM_99 rfl KC11 rfl ⟨Nat.le_of_ble_eq_true rfl, Nat.le_of_ble_eq_true rfl⟩ (Nat.le_of_ble_eq_true rfl) ⟨by show k + 3 + 0 + 0 ≤ 601024; omega, by show sl + 18 + 0 + 0 ≤ 7293034; omega⟩ rfl dL_law_342) (fun H locs hG => ?_)
  refine lv_iload hx hb dL_law_345 (lv_at hl 1 rfl) ?_
  refine lv_icmp_eq (tgt := 352) hx hb dL_law_347 (by decide) (fun _ => ?_) (fun c1 => absurd hth c1)
  refine lv_iload hx hb dL_law_352 (lv_at hl 1 rfl) ?_
  refine lv_if_ne (tgt := 369) hx hb dL_law_354 (by decide) (fun _ => ?_) (fun h0 => ?_)
  · refine lv_goto (tgt := 1828) hx hb dL_law_369 (by decide) ?_
    exact KK _ _ _ _ _ _ _ (by omega) (by omega) hI1 hG (lv_sub hl [2, 3, 4, 5, 6] rfl)
  · skip
    refine lv_aload_n hx hb dL_law_357 rfl (lv_at hl 5 rfl) ?_
    refine lv_iconst (v := 0) hx hb dL_law_358 (by decide) ?_
    refine r_out C hO hG dL_law_359 ?_
    refine lv_iload hx hb dL_law_360 (lv_at hl 0 rfl) ?_
    refine lv_i2l hx hb dL_law_362 rfl ?_
    rw [hval h0]
    refine r_lcmpE C dL_law_363 ?_
    refine lv_if_eq (tgt := 369) hx hb dL_law_364 (by decide) (fun _ => ?_) (fun c9 => absurd rfl c9)
    refine lv_goto (tgt := 1828) hx hb dL_law_369 (by decide) ?_
    exact KK _ _ _ _ _ _ _ (by omega) (by omega) hI1 hG (lv_sub hl [2, 3, 4, 5, 6] rfl)
set_option maxRecDepth 100000 in
theorem cs_teach (hS : S_teach I) (hst : l.stackTraces = false) (C : Cx p s m #[Value.ref b] meth c cL_law 9 RL E) (hO : OT E tL ao s) (hao : s.heap.size ≤ ao) (hA9 : ¬ AA E s.heap.size b) (hX : va_X b L sc s s.heap) (hbl : b < s.heap.size) (hi : i + 5 < L) (hL : L ≤ 3072) (hI : I n g) (hG : Gd E s H locs g [oE tL ao f]) (hl : lv_has ls 9 [(0, .ref b), (1, .ref (E.ad 0)), (2, .ref (E.ad 47)), (3, .ref ao), (4, .int (nI i))]) (hk : k + 12 ≤ 601024 ∧ sl + 95 ≤ 7293034)
    (KK : ∀ (H1 : Heap) (locs1 : List Loc) (g1 : G) (f1 : Nat → Int64) (ls1 : Array Slot) (k1 s1 : Nat), k1 ≤ k + 12 → s1 ≤ sl + 95 → I (n + 1) g1 → Gd E s H1 locs1 g1 [oE tL ao f1] → lv_has ls1 9 [(0, .ref b), (1, .ref (E.ad 0)), (2, .ref (E.ad 47)), (3, .ref ao), (4, .int (nI i))] → W p l e room_1 s m #[Value.ref b] below meth c H1 locs1 k1 s1 Q (F0 m 1828 ls1 [])) : W p l e room_1 s m #[Value.ref b] below meth c H locs k sl Q (F0 m 372 ls []) := by
  have hx := C.1
  have hb := C.2.1
  obtain ⟨u, v, hu, hv, hval, hI1⟩ := hS n g hI
  refine lv_aload_n hx hb dL_law_372 rfl (lv_at hl 1 rfl) ?_
  refine af_I hG (run_V C hl.1 hG (m8_teach E l g u hu) (rest := []) LM_106 rfl KC8 rfl ⟨Nat.le_of_ble_eq_true rfl, Nat.le_of_ble_eq_true rfl⟩ (Nat.le_of_ble_eq_true rfl) ⟨by show k + 0 ≤ 601024; omega, by show sl + 0 ≤ 7293034; omega⟩ rfl dL_law_373) (fun H locs hG => ?_)
  refine lv_aload_n hx hb dL_law_376 rfl (lv_at hl 2 rfl) ?_
  refine af_I hG (run_V C hl.1 hG (m11_teach E l u.2 v hv) (rest := [.int u.1]) LM_109 rfl KC11 rfl ⟨Nat.le_of_ble_eq_true rfl, Nat.le_of_ble_eq_true rfl⟩ (Nat.le_of_ble_eq_true rfl) ⟨by show k + 0 + 0 ≤ 601024; omega, by show sl + 0 + 0 ≤ 7293034; omega⟩ rfl dL_law_377) (fun H locs hG => ?_)
  refine lv_icmp_eq (tgt := 1828) hx hb dL_law_380 (by decide) (fun _ => ?_) (fun c1 => absurd hval c1)
  exact KK _ _ _ _ _ _ _ (by omega) (by omega) hI1 hG (lv_sub hl [0, 1, 2, 3, 4] rfl)
set_option maxRecDepth 100000 in
theorem cs_errorAt (hS : S_errorAt I) (hst : l.stackTraces = false) (C : Cx p s m #[Value.ref b] meth c cL_law 9 RL E) (hO : OT E tL ao s) (hao : s.heap.size ≤ ao) (hA9 : ¬ AA E s.heap.size b) (hX : va_X b L sc s s.heap) (hbl : b < s.heap.size) (hi : i + 5 < L) (hL : L ≤ 3072) (hI : I n g) (hG : Gd E s H locs g [oE tL ao f]) (hl : lv_has ls 9 [(0, .ref b), (1, .ref (E.ad 0)), (2, .ref (E.ad 47)), (3, .ref ao), (4, .int (nI i))]) (hk : k + 12 ≤ 601024 ∧ sl + 95 ≤ 7293034)
    (KK : ∀ (H1 : Heap) (locs1 : List Loc) (g1 : G) (f1 : Nat → Int64) (ls1 : Array Slot) (k1 s1 : Nat), k1 ≤ k + 12 → s1 ≤ sl + 95 → I (n + 1) g1 → Gd E s H1 locs1 g1 [oE tL ao f1] → lv_has ls1 9 [(0, .ref b), (1, .ref (E.ad 0)), (2, .ref (E.ad 47)), (3, .ref ao), (4, .int (nI i))] → W p l e room_1 s m #[Value.ref b] below meth c H1 locs1 k1 s1 Q (F0 m 1828 ls1 [])) : W p l e room_1 s m #[Value.ref b] below meth c H locs k sl Q (F0 m 385 ls []) := by
  have hx := C.1
  have hb := C.2.1
  obtain ⟨u, v, hu, hv, hval, hI1⟩ := hS n g hI
  refine lv_aload_n hx hb dL_law_385 rfl (lv_at hl 1 rfl) ?_
  refine af_I hG (run_V C hl.1 hG (m8_errorAt E l g u hu) (rest := []) LM_110 rfl KC8 rfl ⟨Nat.le_of_ble_eq_true rfl, Nat.le_of_ble_eq_true rfl⟩ (Nat.le_of_ble_eq_true rfl) ⟨by show k + 0 ≤ 601024; omega, by show sl + 0 ≤ 7293034; omega⟩ rfl dL_law_386) (fun H locs hG => ?_)
  refine lv_aload_n hx hb dL_law_389 rfl (lv_at hl 2 rfl) ?_
  refine af_I hG (run_V C hl.1 hG (m11_errorAt E l g v hv) (rest := [.int u]) LM_113 rfl KC11 rfl ⟨Nat.le_of_ble_eq_true rfl, Nat.le_of_ble_eq_true rfl⟩ (Nat.le_of_ble_eq_true rfl) ⟨by show k + 0 + 0 ≤ 601024; omega, by show sl + 0 + 0 ≤ 7293034; omega⟩ rfl dL_law_390) (fun H locs hG => ?_)
  refine lv_icmp_eq (tgt := 1828) hx hb dL_law_393 (by decide) (fun _ => ?_) (fun c1 => absurd hval c1)
  exact KK _ _ _ _ _ _ _ (by omega) (by omega) hI1 hG (lv_sub hl [0, 1, 2, 3, 4] rfl)
set_option maxRecDepth 100000 in
theorem cs_mirrors (hS : S_mirrors I) (hst : l.stackTraces = false) (C : Cx p s m #[Value.ref b] meth c cL_law 9 RL E) (hO : OT E tL ao s) (hao : s.heap.size ≤ ao) (hA9 : ¬ AA E s.heap.size b) (hX : va_X b L sc s s.heap) (hbl : b < s.heap.size) (hi : i + 5 < L) (hL : L ≤ 3072) (hI : I n g) (hG : Gd E s H locs g [oE tL ao f]) (hl : lv_has ls 9 [(0, .ref b), (1, .ref (E.ad 0)), (2, .ref (E.ad 47)), (3, .ref ao), (4, .int (nI i))]) (hk : k + 12 ≤ 601024 ∧ sl + 95 ≤ 7293034)
    (KK : ∀ (H1 : Heap) (locs1 : List Loc) (g1 : G) (f1 : Nat → Int64) (ls1 : Array Slot) (k1 s1 : Nat), k1 ≤ k + 12 → s1 ≤ sl + 95 → I (n + 1) g1 → Gd E s H1 locs1 g1 [oE tL ao f1] → lv_has ls1 9 [(0, .ref b), (1, .ref (E.ad 0)), (2, .ref (E.ad 47)), (3, .ref ao), (4, .int (nI i))] → W p l e room_1 s m #[Value.ref b] below meth c H1 locs1 k1 s1 Q (F0 m 1828 ls1 [])) : W p l e room_1 s m #[Value.ref b] below meth c H locs k sl Q (F0 m 398 ls []) := by
  have hx := C.1
  have hb := C.2.1
  obtain ⟨u, v, hu, hv, hval, hI1⟩ := hS n g hI
  refine lv_aload_n hx hb dL_law_398 rfl (lv_at hl 1 rfl) ?_
  refine af_I hG (run_V C hl.1 hG (m8_mirrors E l g u hu) (rest := []) LM_114 rfl KC8 rfl ⟨Nat.le_of_ble_eq_true rfl, Nat.le_of_ble_eq_true rfl⟩ (Nat.le_of_ble_eq_true rfl) ⟨by show k + 0 ≤ 601024; omega, by show sl + 0 ≤ 7293034; omega⟩ rfl dL_law_399) (fun H locs hG => ?_)
  refine lv_aload_n hx hb dL_law_402 rfl (lv_at hl 2 rfl) ?_
  refine af_I hG (run_V C hl.1 hG (m11_mirrors E l g v hv) (rest := [.int u]) LM_117 rfl KC11 rfl ⟨Nat.le_of_ble_eq_true rfl, Nat.le_of_ble_eq_true rfl⟩ (Nat.le_of_ble_eq_true rfl) ⟨by show k + 0 + 0 ≤ 601024; omega, by show sl + 0 + 0 ≤ 7293034; omega⟩ rfl dL_law_403) (fun H locs hG => ?_)
  refine lv_icmp_eq (tgt := 1828) hx hb dL_law_406 (by decide) (fun _ => ?_) (fun c1 => absurd hval c1)
  exact KK _ _ _ _ _ _ _ (by omega) (by omega) hI1 hG (lv_sub hl [0, 1, 2, 3, 4] rfl)
set_option maxRecDepth 100000 in
theorem cs_orders (hS : S_orders I) (hst : l.stackTraces = false) (C : Cx p s m #[Value.ref b] meth c cL_law 9 RL E) (hO : OT E tL ao s) (hao : s.heap.size ≤ ao) (hA9 : ¬ AA E s.heap.size b) (hX : va_X b L sc s s.heap) (hbl : b < s.heap.size) (hi : i + 5 < L) (hL : L ≤ 3072) (hI : I n g) (hG : Gd E s H locs g [oE tL ao f]) (hl : lv_has ls 9 [(0, .ref b), (1, .ref (E.ad 0)), (2, .ref (E.ad 47)), (3, .ref ao), (4, .int (nI i))]) (hk : k + 12 ≤ 601024 ∧ sl + 95 ≤ 7293034)
    (KK : ∀ (H1 : Heap) (locs1 : List Loc) (g1 : G) (f1 : Nat → Int64) (ls1 : Array Slot) (k1 s1 : Nat), k1 ≤ k + 12 → s1 ≤ sl + 95 → I (n + 1) g1 → Gd E s H1 locs1 g1 [oE tL ao f1] → lv_has ls1 9 [(0, .ref b), (1, .ref (E.ad 0)), (2, .ref (E.ad 47)), (3, .ref ao), (4, .int (nI i))] → W p l e room_1 s m #[Value.ref b] below meth c H1 locs1 k1 s1 Q (F0 m 1828 ls1 [])) : W p l e room_1 s m #[Value.ref b] below meth c H locs k sl Q (F0 m 411 ls []) := by
  have hx := C.1
  have hb := C.2.1
  obtain ⟨u, v, hu, hv, hval, hI1⟩ := hS n g hI
  refine lv_aload_n hx hb dL_law_411 rfl (lv_at hl 1 rfl) ?_
  refine af_I hG (run_V C hl.1 hG (m8_orders E l g u hu) (rest := []) LM_118 rfl KC8 rfl ⟨Nat.le_of_ble_eq_true rfl, Nat.le_of_ble_eq_true rfl⟩ (Nat.le_of_ble_eq_true rfl) ⟨by show k + 0 ≤ 601024; omega, by show sl + 0 ≤ 7293034; omega⟩ rfl dL_law_412) (fun H locs hG => ?_)
  refine lv_aload_n hx hb dL_law_415 rfl (lv_at hl 2 rfl) ?_
  refine af_I hG (run_V C hl.1 hG (m11_orders E l g v hv) (rest := [.int u]) LM_121 rfl KC11 rfl ⟨Nat.le_of_ble_eq_true rfl, Nat.le_of_ble_eq_true rfl⟩ (Nat.le_of_ble_eq_true rfl) ⟨by show k + 0 + 0 ≤ 601024; omega, by show sl + 0 + 0 ≤ 7293034; omega⟩ rfl dL_law_416) (fun H locs hG => ?_)
  refine lv_icmp_eq (tgt := 1828) hx hb dL_law_419 (by decide) (fun _ => ?_) (fun c1 => absurd hval c1)
  exact KK _ _ _ _ _ _ _ (by omega) (by omega) hI1 hG (lv_sub hl [0, 1, 2, 3, 4] rfl)
set_option maxRecDepth 100000 in
theorem cs_minutes (hS : S_minutes I) (hst : l.stackTraces = false) (C : Cx p s m #[Value.ref b] meth c cL_law 9 RL E) (hO : OT E tL ao s) (hao : s.heap.size ≤ ao) (hA9 : ¬ AA E s.heap.size b) (hX : va_X b L sc s s.heap) (hbl : b < s.heap.size) (hi : i + 5 < L) (hL : L ≤ 3072) (hI : I n g) (hG : Gd E s H locs g [oE tL ao f]) (hl : lv_has ls 9 [(0, .ref b), (1, .ref (E.ad 0)), (2, .ref (E.ad 47)), (3, .ref ao), (4, .int (nI i))]) (hk : k + 12 ≤ 601024 ∧ sl + 95 ≤ 7293034)
    (KK : ∀ (H1 : Heap) (locs1 : List Loc) (g1 : G) (f1 : Nat → Int64) (ls1 : Array Slot) (k1 s1 : Nat), k1 ≤ k + 12 → s1 ≤ sl + 95 → I (n + 1) g1 → Gd E s H1 locs1 g1 [oE tL ao f1] → lv_has ls1 9 [(0, .ref b), (1, .ref (E.ad 0)), (2, .ref (E.ad 47)), (3, .ref ao), (4, .int (nI i))] → W p l e room_1 s m #[Value.ref b] below meth c H1 locs1 k1 s1 Q (F0 m 1828 ls1 [])) : W p l e room_1 s m #[Value.ref b] below meth c H locs k sl Q (F0 m 424 ls []) := by
  have hx := C.1
  have hb := C.2.1
  obtain ⟨u, v, hu, hv, hval, hI1⟩ := hS n g hI
  refine lv_aload_n hx hb dL_law_424 rfl (lv_at hl 1 rfl) ?_
  refine af_I hG (run_V C hl.1 hG (m8_minutes E l g u hu) (rest := []) LM_122 rfl KC8 rfl ⟨Nat.le_of_ble_eq_true rfl, Nat.le_of_ble_eq_true rfl⟩ (Nat.le_of_ble_eq_true rfl) ⟨by show k + 0 ≤ 601024; omega, by show sl + 0 ≤ 7293034; omega⟩ rfl dL_law_425) (fun H locs hG => ?_)
  refine lv_aload_n hx hb dL_law_428 rfl (lv_at hl 2 rfl) ?_
  refine af_I hG (run_V C hl.1 hG (m11_minutes E l g v hv) (rest := [.int u]) LM_125 rfl KC11 rfl ⟨Nat.le_of_ble_eq_true rfl, Nat.le_of_ble_eq_true rfl⟩ (Nat.le_of_ble_eq_true rfl) ⟨by show k + 0 + 0 ≤ 601024; omega, by show sl + 0 + 0 ≤ 7293034; omega⟩ rfl dL_law_429) (fun H locs hG => ?_)
  refine lv_icmp_eq (tgt := 1828) hx hb dL_law_432 (by decide) (fun _ => ?_) (fun c1 => absurd hval c1)
  exact KK _ _ _ _ _ _ _ (by omega) (by omega) hI1 hG (lv_sub hl [0, 1, 2, 3, 4] rfl)
set_option maxRecDepth 100000 in
theorem cs_tapeBytes (hS : S_tapeBytes I) (hst : l.stackTraces = false) (C : Cx p s m #[Value.ref b] meth c cL_law 9 RL E) (hO : OT E tL ao s) (hao : s.heap.size ≤ ao) (hA9 : ¬ AA E s.heap.size b) (hX : va_X b L sc s s.heap) (hbl : b < s.heap.size) (hi : i + 5 < L) (hL : L ≤ 3072) (hI : I n g) (hG : Gd E s H locs g [oE tL ao f]) (hl : lv_has ls 9 [(0, .ref b), (1, .ref (E.ad 0)), (2, .ref (E.ad 47)), (3, .ref ao), (4, .int (nI i))]) (hk : k + 12 ≤ 601024 ∧ sl + 95 ≤ 7293034)
    (KK : ∀ (H1 : Heap) (locs1 : List Loc) (g1 : G) (f1 : Nat → Int64) (ls1 : Array Slot) (k1 s1 : Nat), k1 ≤ k + 12 → s1 ≤ sl + 95 → I (n + 1) g1 → Gd E s H1 locs1 g1 [oE tL ao f1] → lv_has ls1 9 [(0, .ref b), (1, .ref (E.ad 0)), (2, .ref (E.ad 47)), (3, .ref ao), (4, .int (nI i))] → W p l e room_1 s m #[Value.ref b] below meth c H1 locs1 k1 s1 Q (F0 m 1828 ls1 [])) : W p l e room_1 s m #[Value.ref b] below meth c H locs k sl Q (F0 m 437 ls []) := by
  have hx := C.1
  have hb := C.2.1
  obtain ⟨u, v, hu, hv, hval, hI1⟩ := hS n g hI
  refine lv_aload_n hx hb dL_law_437 rfl (lv_at hl 1 rfl) ?_
  refine af_I hG (run_V C hl.1 hG (m8_tapeBytes E l g u hu) (rest := []) LM_126 rfl KC8 rfl ⟨Nat.le_of_ble_eq_true rfl, Nat.le_of_ble_eq_true rfl⟩ (Nat.le_of_ble_eq_true rfl) ⟨by show k + 0 ≤ 601024; omega, by show sl + 0 ≤ 7293034; omega⟩ rfl dL_law_438) (fun H locs hG => ?_)
  refine lv_aload_n hx hb dL_law_441 rfl (lv_at hl 2 rfl) ?_
  refine af_I hG (run_V C hl.1 hG (m11_tapeBytes E l g v hv) (rest := [.int u]) LM_129 rfl KC11 rfl ⟨Nat.le_of_ble_eq_true rfl, Nat.le_of_ble_eq_true rfl⟩ (Nat.le_of_ble_eq_true rfl) ⟨by show k + 0 + 0 ≤ 601024; omega, by show sl + 0 + 0 ≤ 7293034; omega⟩ rfl dL_law_442) (fun H locs hG => ?_)
  refine lv_icmp_eq (tgt := 1828) hx hb dL_law_445 (by decide) (fun _ => ?_) (fun c1 => absurd hval c1)
  exact KK _ _ _ _ _ _ _ (by omega) (by omega) hI1 hG (lv_sub hl [0, 1, 2, 3, 4] rfl)
set_option maxRecDepth 100000 in
theorem cs_lightAtEnd (hS : S_lightAtEnd I) (hst : l.stackTraces = false) (C : Cx p s m #[Value.ref b] meth c cL_law 9 RL E) (hO : OT E tL ao s) (hao : s.heap.size ≤ ao) (hA9 : ¬ AA E s.heap.size b) (hX : va_X b L sc s s.heap) (hbl : b < s.heap.size) (hi : i + 5 < L) (hL : L ≤ 3072) (hI : I n g) (hG : Gd E s H locs g [oE tL ao f]) (hl : lv_has ls 9 [(0, .ref b), (1, .ref (E.ad 0)), (2, .ref (E.ad 47)), (3, .ref ao), (4, .int (nI i))]) (hk : k + 12 ≤ 601024 ∧ sl + 95 ≤ 7293034)
    (KK : ∀ (H1 : Heap) (locs1 : List Loc) (g1 : G) (f1 : Nat → Int64) (ls1 : Array Slot) (k1 s1 : Nat), k1 ≤ k + 12 → s1 ≤ sl + 95 → I (n + 1) g1 → Gd E s H1 locs1 g1 [oE tL ao f1] → lv_has ls1 9 [(0, .ref b), (1, .ref (E.ad 0)), (2, .ref (E.ad 47)), (3, .ref ao), (4, .int (nI i))] → W p l e room_1 s m #[Value.ref b] below meth c H1 locs1 k1 s1 Q (F0 m 1828 ls1 [])) : W p l e room_1 s m #[Value.ref b] below meth c H locs k sl Q (F0 m 450 ls []) := by
  have hx := C.1
  have hb := C.2.1
  obtain ⟨u, v, hu, hv, hval, hI1⟩ := hS n g hI
  refine lv_aload_n hx hb dL_law_450 rfl (lv_at hl 1 rfl) ?_
  refine af_I hG (run_V C hl.1 hG (m8_lightAtEnd E l g u hu) (rest := []) LM_130 rfl KC8 rfl ⟨Nat.le_of_ble_eq_true rfl, Nat.le_of_ble_eq_true rfl⟩ (Nat.le_of_ble_eq_true rfl) ⟨by show k + 0 ≤ 601024; omega, by show sl + 0 ≤ 7293034; omega⟩ rfl dL_law_451) (fun H locs hG => ?_)
  refine lv_aload_n hx hb dL_law_454 rfl (lv_at hl 2 rfl) ?_
  refine af_I hG (run_V C hl.1 hG (m11_lightAtEnd E l u.2 v hv) (rest := [.int u.1]) LM_133 rfl KC11 rfl ⟨Nat.le_of_ble_eq_true rfl, Nat.le_of_ble_eq_true rfl⟩ (Nat.le_of_ble_eq_true rfl) ⟨by show k + 0 + 0 ≤ 601024; omega, by show sl + 0 + 0 ≤ 7293034; omega⟩ rfl dL_law_455) (fun H locs hG => ?_)
  refine lv_icmp_eq (tgt := 1828) hx hb dL_law_458 (by decide) (fun _ => ?_) (fun c1 => absurd hval c1)
  exact KK _ _ _ _ _ _ _ (by omega) (by omega) hI1 hG (lv_sub hl [0, 1, 2, 3, 4] rfl)
set_option maxRecDepth 100000 in
theorem cs_tiltAtEnd (hS : S_tiltAtEnd I) (hst : l.stackTraces = false) (C : Cx p s m #[Value.ref b] meth c cL_law 9 RL E) (hO : OT E tL ao s) (hao : s.heap.size ≤ ao) (hA9 : ¬ AA E s.heap.size b) (hX : va_X b L sc s s.heap) (hbl : b < s.heap.size) (hi : i + 5 < L) (hL : L ≤ 3072) (hI : I n g) (hG : Gd E s H locs g [oE tL ao f]) (hl : lv_has ls 9 [(0, .ref b), (1, .ref (E.ad 0)), (2, .ref (E.ad 47)), (3, .ref ao), (4, .int (nI i))]) (hk : k + 12 ≤ 601024 ∧ sl + 95 ≤ 7293034)
    (KK : ∀ (H1 : Heap) (locs1 : List Loc) (g1 : G) (f1 : Nat → Int64) (ls1 : Array Slot) (k1 s1 : Nat), k1 ≤ k + 12 → s1 ≤ sl + 95 → I (n + 1) g1 → Gd E s H1 locs1 g1 [oE tL ao f1] → lv_has ls1 9 [(0, .ref b), (1, .ref (E.ad 0)), (2, .ref (E.ad 47)), (3, .ref ao), (4, .int (nI i))] → W p l e room_1 s m #[Value.ref b] below meth c H1 locs1 k1 s1 Q (F0 m 1828 ls1 [])) : W p l e room_1 s m #[Value.ref b] below meth c H locs k sl Q (F0 m 463 ls []) := by
  have hx := C.1
  have hb := C.2.1
  obtain ⟨u, v, hu, hv, hval, hI1⟩ := hS n g hI
  refine lv_aload_n hx hb dL_law_463 rfl (lv_at hl 1 rfl) ?_
  refine af_I hG (run_V C hl.1 hG (m8_tiltAtEnd E l g u hu) (rest := []) LM_134 rfl KC8 rfl ⟨Nat.le_of_ble_eq_true rfl, Nat.le_of_ble_eq_true rfl⟩ (Nat.le_of_ble_eq_true rfl) ⟨by show k + 0 ≤ 601024; omega, by show sl + 0 ≤ 7293034; omega⟩ rfl dL_law_464) (fun H locs hG => ?_)
  refine lv_aload_n hx hb dL_law_467 rfl (lv_at hl 2 rfl) ?_
  refine af_I hG (run_V C hl.1 hG (m11_tiltAtEnd E l u.2 v hv) (rest := [.int u.1]) LM_137 rfl KC11 rfl ⟨Nat.le_of_ble_eq_true rfl, Nat.le_of_ble_eq_true rfl⟩ (Nat.le_of_ble_eq_true rfl) ⟨by show k + 0 + 0 ≤ 601024; omega, by show sl + 0 + 0 ≤ 7293034; omega⟩ rfl dL_law_468) (fun H locs hG => ?_)
  refine lv_icmp_eq (tgt := 1828) hx hb dL_law_471 (by decide) (fun _ => ?_) (fun c1 => absurd hval c1)
  exact KK _ _ _ _ _ _ _ (by omega) (by omega) hI1 hG (lv_sub hl [0, 1, 2, 3, 4] rfl)
set_option maxRecDepth 100000 in
theorem cs_isSeen (hS : S_isSeen I) (hst : l.stackTraces = false) (C : Cx p s m #[Value.ref b] meth c cL_law 9 RL E) (hO : OT E tL ao s) (hao : s.heap.size ≤ ao) (hA9 : ¬ AA E s.heap.size b) (hX : va_X b L sc s s.heap) (hbl : b < s.heap.size) (hi : i + 5 < L) (hL : L ≤ 3072) (hI : I n g) (hG : Gd E s H locs g [oE tL ao f]) (hl : lv_has ls 9 [(0, .ref b), (1, .ref (E.ad 0)), (2, .ref (E.ad 47)), (3, .ref ao), (4, .int (nI i))]) (hk : k + 12 ≤ 601024 ∧ sl + 95 ≤ 7293034)
    (KK : ∀ (H1 : Heap) (locs1 : List Loc) (g1 : G) (f1 : Nat → Int64) (ls1 : Array Slot) (k1 s1 : Nat), k1 ≤ k + 12 → s1 ≤ sl + 95 → I (n + 1) g1 → Gd E s H1 locs1 g1 [oE tL ao f1] → lv_has ls1 9 [(0, .ref b), (1, .ref (E.ad 0)), (2, .ref (E.ad 47)), (3, .ref ao), (4, .int (nI i))] → W p l e room_1 s m #[Value.ref b] below meth c H1 locs1 k1 s1 Q (F0 m 1828 ls1 [])) : W p l e room_1 s m #[Value.ref b] below meth c H locs k sl Q (F0 m 476 ls []) := by
  have hx := C.1
  have hb := C.2.1
  obtain ⟨u, v, hu, hv, hval, hI1⟩ := hS n g hI
  refine lv_aload_n hx hb dL_law_476 rfl (lv_at hl 1 rfl) ?_
  refine af_I hG (run_V C hl.1 hG (m8_isSeen E l g u hu) (rest := []) LM_138 rfl KC8 rfl ⟨Nat.le_of_ble_eq_true rfl, Nat.le_of_ble_eq_true rfl⟩ (Nat.le_of_ble_eq_true rfl) ⟨by show k + 0 ≤ 601024; omega, by show sl + 0 ≤ 7293034; omega⟩ rfl dL_law_477) (fun H locs hG => ?_)
  refine lv_aload_n hx hb dL_law_480 rfl (lv_at hl 2 rfl) ?_
  refine af_I hG (run_V C hl.1 hG (m11_isSeen E l u.2 v hv) (rest := [.int u.1]) LM_142 rfl KC11 rfl ⟨Nat.le_of_ble_eq_true rfl, Nat.le_of_ble_eq_true rfl⟩ (Nat.le_of_ble_eq_true rfl) ⟨by show k + 0 + 0 ≤ 601024; omega, by show sl + 0 + 0 ≤ 7293034; omega⟩ rfl dL_law_481) (fun H locs hG => ?_)
  refine lv_icmp_eq (tgt := 1828) hx hb dL_law_484 (by decide) (fun _ => ?_) (fun c1 => absurd hval c1)
  exact KK _ _ _ _ _ _ _ (by omega) (by omega) hI1 hG (lv_sub hl [0, 1, 2, 3, 4] rfl)
set_option maxRecDepth 100000 in
theorem cs_worstMirror (hS : S_worstMirror I) (hst : l.stackTraces = false) (C : Cx p s m #[Value.ref b] meth c cL_law 9 RL E) (hO : OT E tL ao s) (hao : s.heap.size ≤ ao) (hA9 : ¬ AA E s.heap.size b) (hX : va_X b L sc s s.heap) (hbl : b < s.heap.size) (hi : i + 5 < L) (hL : L ≤ 3072) (hI : I n g) (hG : Gd E s H locs g [oE tL ao f]) (hl : lv_has ls 9 [(0, .ref b), (1, .ref (E.ad 0)), (2, .ref (E.ad 47)), (3, .ref ao), (4, .int (nI i))]) (hk : k + 12 ≤ 601024 ∧ sl + 95 ≤ 7293034)
    (KK : ∀ (H1 : Heap) (locs1 : List Loc) (g1 : G) (f1 : Nat → Int64) (ls1 : Array Slot) (k1 s1 : Nat), k1 ≤ k + 12 → s1 ≤ sl + 95 → I (n + 1) g1 → Gd E s H1 locs1 g1 [oE tL ao f1] → lv_has ls1 9 [(0, .ref b), (1, .ref (E.ad 0)), (2, .ref (E.ad 47)), (3, .ref ao), (4, .int (nI i))] → W p l e room_1 s m #[Value.ref b] below meth c H1 locs1 k1 s1 Q (F0 m 1828 ls1 [])) : W p l e room_1 s m #[Value.ref b] below meth c H locs k sl Q (F0 m 489 ls []) := by
  have hx := C.1
  have hb := C.2.1
  obtain ⟨u, v, hu, hv, hth, hval, hI1⟩ := hS n g f hI
  refine lv_aload_n hx hb dL_law_489 rfl (lv_at hl 1 rfl) ?_
  refine lv_aload_n hx hb dL_law_490 rfl (lv_at hl 3 rfl) ?_
  refine r_own C hl.1 hO hao hG [.ref (E.ad 0), .ref ao] [] (v_worstMirror E tL ao l hst g f u hu) LS_143 rfl ⟨Nat.le_of_ble_eq_true rfl, Nat.le_of_ble_eq_true rfl⟩ (Nat.le_of_ble_eq_true rfl) ⟨by show k + 3 ≤ 601024; omega, by show sl + 18 ≤ 7293034; omega⟩ rfl dL_law_491 (fun H locs hG => ?_)
  refine lv_istore (lv' := [(5, .int u.1), (0, .ref b), (1, .ref (E.ad 0)), (2, .ref (E.ad 47)), (3, .ref ao), (4, .int (nI i))]) hx hb dL_law_494 hl (by decide) rfl (fun ls hl => ?_)
  refine lv_aload_n hx hb dL_law_496 rfl (lv_at hl 3 rfl) ?_
  refine af_I hG (run_V C hl.1 hG (m11_worstMirror E l u.2.1 v hv) (rest := []) LM_146 rfl KC11 rfl ⟨Nat.le_of_ble_eq_true rfl, Nat.le_of_ble_eq_true rfl⟩ (Nat.le_of_ble_eq_true rfl) ⟨by show k + 3 + 0 ≤ 601024; omega, by show sl + 18 + 0 ≤ 7293034; omega⟩ rfl dL_law_497) (fun H locs hG => ?_)
  refine lv_istore (lv' := [(6, .int v.1), (5, .int u.1), (0, .ref b), (1, .ref (E.ad 0)), (2, .ref (E.ad 47)), (3, .ref ao), (4, .int (nI i))]) hx hb dL_law_500 hl (by decide) rfl (fun ls hl => ?_)
  refine lv_aload_n hx hb dL_law_502 rfl (lv_at hl 4 rfl) ?_
  refine af_I hG (run_V C hl.1 hG (m11_thrown E l v.2 (v.2 47 0) rfl) (rest := []) LM_99 rfl KC11 rfl ⟨Nat.le_of_ble_eq_true rfl, Nat.le_of_ble_eq_true rfl⟩ (Nat.le_of_ble_eq_true rfl) ⟨by show k + 3 + 0 + 0 ≤ 601024; omega, by show sl + 18 + 0 + 0 ≤ 7293034; omega⟩ rfl dL_law_503) (fun H locs hG => ?_)
  refine lv_iload hx hb dL_law_506 (lv_at hl 1 rfl) ?_
  refine lv_icmp_eq (tgt := 513) hx hb dL_law_508 (by decide) (fun _ => ?_) (fun c1 => absurd hth c1)
  refine lv_iload hx hb dL_law_513 (lv_at hl 1 rfl) ?_
  refine lv_if_ne (tgt := 530) hx hb dL_law_515 (by decide) (fun _ => ?_) (fun h0 => ?_)
  · refine lv_goto (tgt := 1828) hx hb dL_law_530 (by decide) ?_
    exact KK _ _ _ _ _ _ _ (by omega) (by omega) hI1 hG (lv_sub hl [2, 3, 4, 5, 6] rfl)
  · skip
    refine lv_aload_n hx hb dL_law_518 rfl (lv_at hl 5 rfl) ?_
    refine lv_iconst (v := 0) hx hb dL_law_519 (by decide) ?_
    refine r_out C hO hG dL_law_520 ?_
    refine lv_iload hx hb dL_law_521 (lv_at hl 0 rfl) ?_
    refine lv_i2l hx hb dL_law_523 rfl ?_
    rw [hval h0]
    refine r_lcmpE C dL_law_524 ?_
    refine lv_if_eq (tgt := 530) hx hb dL_law_525 (by decide) (fun _ => ?_) (fun c9 => absurd rfl c9)
    refine lv_goto (tgt := 1828) hx hb dL_law_530 (by decide) ?_
    exact KK _ _ _ _ _ _ _ (by omega) (by omega) hI1 hG (lv_sub hl [2, 3, 4, 5, 6] rfl)
set_option maxRecDepth 100000 in
theorem cs_clarityOf (hS : S_clarityOf I) (hst : l.stackTraces = false) (C : Cx p s m #[Value.ref b] meth c cL_law 9 RL E) (hO : OT E tL ao s) (hao : s.heap.size ≤ ao) (hA9 : ¬ AA E s.heap.size b) (hX : va_X b L sc s s.heap) (hbl : b < s.heap.size) (hi : i + 5 < L) (hL : L ≤ 3072) (hI : I n g) (hG : Gd E s H locs g [oE tL ao f]) (hl : lv_has ls 9 [(0, .ref b), (1, .ref (E.ad 0)), (2, .ref (E.ad 47)), (3, .ref ao), (4, .int (nI i))]) (hk : k + 12 ≤ 601024 ∧ sl + 95 ≤ 7293034)
    (KK : ∀ (H1 : Heap) (locs1 : List Loc) (g1 : G) (f1 : Nat → Int64) (ls1 : Array Slot) (k1 s1 : Nat), k1 ≤ k + 12 → s1 ≤ sl + 95 → I (n + 1) g1 → Gd E s H1 locs1 g1 [oE tL ao f1] → lv_has ls1 9 [(0, .ref b), (1, .ref (E.ad 0)), (2, .ref (E.ad 47)), (3, .ref ao), (4, .int (nI i))] → W p l e room_1 s m #[Value.ref b] below meth c H1 locs1 k1 s1 Q (F0 m 1828 ls1 [])) : W p l e room_1 s m #[Value.ref b] below meth c H locs k sl Q (F0 m 533 ls []) := by
  have hx := C.1
  have hb := C.2.1
  obtain ⟨u, v, hu, hv, hth, hval, hI1⟩ := hS n g f (sc (i + 1)) hI
  refine lv_aload_n hx hb dL_law_533 rfl (lv_at hl 1 rfl) ?_
  refine r_arg (j := 1) C hX hbl hA9 hG.2.2 hl (k0 := 0) (k4 := 4) rfl rfl rfl (by omega) hL dL_law_534 dL_law_535 dL_law_537 dL_law_538 dL_law_539 ?_
  refine lv_aload_n hx hb dL_law_540 rfl (lv_at hl 3 rfl) ?_
  refine r_own C hl.1 hO hao hG [.ref (E.ad 0), .int (sc (i + 1)), .ref ao] [] (v_clarityOf E tL ao l hst (sc (i + 1)) g f u hu) LS_147 rfl ⟨Nat.le_of_ble_eq_true rfl, Nat.le_of_ble_eq_true rfl⟩ (Nat.le_of_ble_eq_true rfl) ⟨by show k + 3 ≤ 601024; omega, by show sl + 18 ≤ 7293034; omega⟩ rfl dL_law_541 (fun H locs hG => ?_)
  refine lv_istore (lv' := [(5, .int u.1), (0, .ref b), (1, .ref (E.ad 0)), (2, .ref (E.ad 47)), (3, .ref ao), (4, .int (nI i))]) hx hb dL_law_544 hl (by decide) rfl (fun ls hl => ?_)
  refine lv_aload_n hx hb dL_law_546 rfl (lv_at hl 3 rfl) ?_
  refine r_arg (j := 1) C hX hbl hA9 hG.2.2 hl (k0 := 1) (k4 := 5) rfl rfl rfl (by omega) hL dL_law_547 dL_law_548 dL_law_550 dL_law_551 dL_law_552 ?_
  refine af_I hG (run_V C hl.1 hG (m11_clarityOf E l (sc (i + 1)) u.2.1 v hv) (rest := []) LM_149 rfl KC11 rfl ⟨Nat.le_of_ble_eq_true rfl, Nat.le_of_ble_eq_true rfl⟩ (Nat.le_of_ble_eq_true rfl) ⟨by show k + 3 + 0 ≤ 601024; omega, by show sl + 18 + 0 ≤ 7293034; omega⟩ rfl dL_law_553) (fun H locs hG => ?_)
  refine lv_istore (lv' := [(6, .int v.1), (5, .int u.1), (0, .ref b), (1, .ref (E.ad 0)), (2, .ref (E.ad 47)), (3, .ref ao), (4, .int (nI i))]) hx hb dL_law_556 hl (by decide) rfl (fun ls hl => ?_)
  refine lv_aload_n hx hb dL_law_558 rfl (lv_at hl 4 rfl) ?_
  refine af_I hG (run_V C hl.1 hG (m11_thrown E l v.2 (v.2 47 0) rfl) (rest := []) LM_99 rfl KC11 rfl ⟨Nat.le_of_ble_eq_true rfl, Nat.le_of_ble_eq_true rfl⟩ (Nat.le_of_ble_eq_true rfl) ⟨by show k + 3 + 0 + 0 ≤ 601024; omega, by show sl + 18 + 0 + 0 ≤ 7293034; omega⟩ rfl dL_law_559) (fun H locs hG => ?_)
  refine lv_iload hx hb dL_law_562 (lv_at hl 1 rfl) ?_
  refine lv_icmp_eq (tgt := 569) hx hb dL_law_564 (by decide) (fun _ => ?_) (fun c1 => absurd hth c1)
  refine lv_iload hx hb dL_law_569 (lv_at hl 1 rfl) ?_
  refine lv_if_ne (tgt := 586) hx hb dL_law_571 (by decide) (fun _ => ?_) (fun h0 => ?_)
  · refine lv_goto (tgt := 1828) hx hb dL_law_586 (by decide) ?_
    exact KK _ _ _ _ _ _ _ (by omega) (by omega) hI1 hG (lv_sub hl [2, 3, 4, 5, 6] rfl)
  · skip
    refine lv_aload_n hx hb dL_law_574 rfl (lv_at hl 5 rfl) ?_
    refine lv_iconst (v := 0) hx hb dL_law_575 (by decide) ?_
    refine r_out C hO hG dL_law_576 ?_
    refine lv_iload hx hb dL_law_577 (lv_at hl 0 rfl) ?_
    refine lv_i2l hx hb dL_law_579 rfl ?_
    rw [hval h0]
    refine r_lcmpE C dL_law_580 ?_
    refine lv_if_eq (tgt := 586) hx hb dL_law_581 (by decide) (fun _ => ?_) (fun c9 => absurd rfl c9)
    refine lv_goto (tgt := 1828) hx hb dL_law_586 (by decide) ?_
    exact KK _ _ _ _ _ _ _ (by omega) (by omega) hI1 hG (lv_sub hl [2, 3, 4, 5, 6] rfl)
set_option maxRecDepth 100000 in
theorem cs_bestClarityOf (hS : S_bestClarityOf I) (hst : l.stackTraces = false) (C : Cx p s m #[Value.ref b] meth c cL_law 9 RL E) (hO : OT E tL ao s) (hao : s.heap.size ≤ ao) (hA9 : ¬ AA E s.heap.size b) (hX : va_X b L sc s s.heap) (hbl : b < s.heap.size) (hi : i + 5 < L) (hL : L ≤ 3072) (hI : I n g) (hG : Gd E s H locs g [oE tL ao f]) (hl : lv_has ls 9 [(0, .ref b), (1, .ref (E.ad 0)), (2, .ref (E.ad 47)), (3, .ref ao), (4, .int (nI i))]) (hk : k + 12 ≤ 601024 ∧ sl + 95 ≤ 7293034)
    (KK : ∀ (H1 : Heap) (locs1 : List Loc) (g1 : G) (f1 : Nat → Int64) (ls1 : Array Slot) (k1 s1 : Nat), k1 ≤ k + 12 → s1 ≤ sl + 95 → I (n + 1) g1 → Gd E s H1 locs1 g1 [oE tL ao f1] → lv_has ls1 9 [(0, .ref b), (1, .ref (E.ad 0)), (2, .ref (E.ad 47)), (3, .ref ao), (4, .int (nI i))] → W p l e room_1 s m #[Value.ref b] below meth c H1 locs1 k1 s1 Q (F0 m 1828 ls1 [])) : W p l e room_1 s m #[Value.ref b] below meth c H locs k sl Q (F0 m 589 ls []) := by
  have hx := C.1
  have hb := C.2.1
  obtain ⟨u, v, hu, hv, hth, hval, hI1⟩ := hS n g f (sc (i + 1)) hI
  refine lv_aload_n hx hb dL_law_589 rfl (lv_at hl 1 rfl) ?_
  refine r_arg (j := 1) C hX hbl hA9 hG.2.2 hl (k0 := 0) (k4 := 4) rfl rfl rfl (by omega) hL dL_law_590 dL_law_591 dL_law_593 dL_law_594 dL_law_595 ?_
  refine lv_aload_n hx hb dL_law_596 rfl (lv_at hl 3 rfl) ?_
  refine r_own C hl.1 hO hao hG [.ref (E.ad 0), .int (sc (i + 1)), .ref ao] [] (v_bestClarityOf E tL ao l hst (sc (i + 1)) g f u hu) LS_150 rfl ⟨Nat.le_of_ble_eq_true rfl, Nat.le_of_ble_eq_true rfl⟩ (Nat.le_of_ble_eq_true rfl) ⟨by show k + 3 ≤ 601024; omega, by show sl + 18 ≤ 7293034; omega⟩ rfl dL_law_597 (fun H locs hG => ?_)
  refine lv_istore (lv' := [(5, .int u.1), (0, .ref b), (1, .ref (E.ad 0)), (2, .ref (E.ad 47)), (3, .ref ao), (4, .int (nI i))]) hx hb dL_law_600 hl (by decide) rfl (fun ls hl => ?_)
  refine lv_aload_n hx hb dL_law_602 rfl (lv_at hl 3 rfl) ?_
  refine r_arg (j := 1) C hX hbl hA9 hG.2.2 hl (k0 := 1) (k4 := 5) rfl rfl rfl (by omega) hL dL_law_603 dL_law_604 dL_law_606 dL_law_607 dL_law_608 ?_
  refine af_I hG (run_V C hl.1 hG (m11_bestClarityOf E l (sc (i + 1)) u.2.1 v hv) (rest := []) LM_152 rfl KC11 rfl ⟨Nat.le_of_ble_eq_true rfl, Nat.le_of_ble_eq_true rfl⟩ (Nat.le_of_ble_eq_true rfl) ⟨by show k + 3 + 0 ≤ 601024; omega, by show sl + 18 + 0 ≤ 7293034; omega⟩ rfl dL_law_609) (fun H locs hG => ?_)
  refine lv_istore (lv' := [(6, .int v.1), (5, .int u.1), (0, .ref b), (1, .ref (E.ad 0)), (2, .ref (E.ad 47)), (3, .ref ao), (4, .int (nI i))]) hx hb dL_law_612 hl (by decide) rfl (fun ls hl => ?_)
  refine lv_aload_n hx hb dL_law_614 rfl (lv_at hl 4 rfl) ?_
  refine af_I hG (run_V C hl.1 hG (m11_thrown E l v.2 (v.2 47 0) rfl) (rest := []) LM_99 rfl KC11 rfl ⟨Nat.le_of_ble_eq_true rfl, Nat.le_of_ble_eq_true rfl⟩ (Nat.le_of_ble_eq_true rfl) ⟨by show k + 3 + 0 + 0 ≤ 601024; omega, by show sl + 18 + 0 + 0 ≤ 7293034; omega⟩ rfl dL_law_615) (fun H locs hG => ?_)
  refine lv_iload hx hb dL_law_618 (lv_at hl 1 rfl) ?_
  refine lv_icmp_eq (tgt := 625) hx hb dL_law_620 (by decide) (fun _ => ?_) (fun c1 => absurd hth c1)
  refine lv_iload hx hb dL_law_625 (lv_at hl 1 rfl) ?_
  refine lv_if_ne (tgt := 642) hx hb dL_law_627 (by decide) (fun _ => ?_) (fun h0 => ?_)
  · refine lv_goto (tgt := 1828) hx hb dL_law_642 (by decide) ?_
    exact KK _ _ _ _ _ _ _ (by omega) (by omega) hI1 hG (lv_sub hl [2, 3, 4, 5, 6] rfl)
  · skip
    refine lv_aload_n hx hb dL_law_630 rfl (lv_at hl 5 rfl) ?_
    refine lv_iconst (v := 0) hx hb dL_law_631 (by decide) ?_
    refine r_out C hO hG dL_law_632 ?_
    refine lv_iload hx hb dL_law_633 (lv_at hl 0 rfl) ?_
    refine lv_i2l hx hb dL_law_635 rfl ?_
    rw [hval h0]
    refine r_lcmpE C dL_law_636 ?_
    refine lv_if_eq (tgt := 642) hx hb dL_law_637 (by decide) (fun _ => ?_) (fun c9 => absurd rfl c9)
    refine lv_goto (tgt := 1828) hx hb dL_law_642 (by decide) ?_
    exact KK _ _ _ _ _ _ _ (by omega) (by omega) hI1 hG (lv_sub hl [2, 3, 4, 5, 6] rfl)
set_option maxRecDepth 100000 in
theorem cs_offsetOf (hS : S_offsetOf I) (hst : l.stackTraces = false) (C : Cx p s m #[Value.ref b] meth c cL_law 9 RL E) (hO : OT E tL ao s) (hao : s.heap.size ≤ ao) (hA9 : ¬ AA E s.heap.size b) (hX : va_X b L sc s s.heap) (hbl : b < s.heap.size) (hi : i + 5 < L) (hL : L ≤ 3072) (hI : I n g) (hG : Gd E s H locs g [oE tL ao f]) (hl : lv_has ls 9 [(0, .ref b), (1, .ref (E.ad 0)), (2, .ref (E.ad 47)), (3, .ref ao), (4, .int (nI i))]) (hk : k + 12 ≤ 601024 ∧ sl + 95 ≤ 7293034)
    (KK : ∀ (H1 : Heap) (locs1 : List Loc) (g1 : G) (f1 : Nat → Int64) (ls1 : Array Slot) (k1 s1 : Nat), k1 ≤ k + 12 → s1 ≤ sl + 95 → I (n + 1) g1 → Gd E s H1 locs1 g1 [oE tL ao f1] → lv_has ls1 9 [(0, .ref b), (1, .ref (E.ad 0)), (2, .ref (E.ad 47)), (3, .ref ao), (4, .int (nI i))] → W p l e room_1 s m #[Value.ref b] below meth c H1 locs1 k1 s1 Q (F0 m 1828 ls1 [])) : W p l e room_1 s m #[Value.ref b] below meth c H locs k sl Q (F0 m 645 ls []) := by
  have hx := C.1
  have hb := C.2.1
  obtain ⟨u, v, hu, hv, hth, hval, hI1⟩ := hS n g f (sc (i + 1)) hI
  refine lv_aload_n hx hb dL_law_645 rfl (lv_at hl 1 rfl) ?_
  refine r_arg (j := 1) C hX hbl hA9 hG.2.2 hl (k0 := 0) (k4 := 4) rfl rfl rfl (by omega) hL dL_law_646 dL_law_647 dL_law_649 dL_law_650 dL_law_651 ?_
  refine lv_aload_n hx hb dL_law_652 rfl (lv_at hl 3 rfl) ?_
  refine r_own C hl.1 hO hao hG [.ref (E.ad 0), .int (sc (i + 1)), .ref ao] [] (v_offsetOf E tL ao l hst (sc (i + 1)) g f u hu) LS_153 rfl ⟨Nat.le_of_ble_eq_true rfl, Nat.le_of_ble_eq_true rfl⟩ (Nat.le_of_ble_eq_true rfl) ⟨by show k + 3 ≤ 601024; omega, by show sl + 18 ≤ 7293034; omega⟩ rfl dL_law_653 (fun H locs hG => ?_)
  refine lv_istore (lv' := [(5, .int u.1), (0, .ref b), (1, .ref (E.ad 0)), (2, .ref (E.ad 47)), (3, .ref ao), (4, .int (nI i))]) hx hb dL_law_656 hl (by decide) rfl (fun ls hl => ?_)
  refine lv_aload_n hx hb dL_law_658 rfl (lv_at hl 3 rfl) ?_
  refine r_arg (j := 1) C hX hbl hA9 hG.2.2 hl (k0 := 1) (k4 := 5) rfl rfl rfl (by omega) hL dL_law_659 dL_law_660 dL_law_662 dL_law_663 dL_law_664 ?_
  refine af_I hG (run_V C hl.1 hG (m11_offsetOf E l (sc (i + 1)) u.2.1 v hv) (rest := []) LM_155 rfl KC11 rfl ⟨Nat.le_of_ble_eq_true rfl, Nat.le_of_ble_eq_true rfl⟩ (Nat.le_of_ble_eq_true rfl) ⟨by show k + 3 + 0 ≤ 601024; omega, by show sl + 18 + 0 ≤ 7293034; omega⟩ rfl dL_law_665) (fun H locs hG => ?_)
  refine lv_istore (lv' := [(6, .int v.1), (5, .int u.1), (0, .ref b), (1, .ref (E.ad 0)), (2, .ref (E.ad 47)), (3, .ref ao), (4, .int (nI i))]) hx hb dL_law_668 hl (by decide) rfl (fun ls hl => ?_)
  refine lv_aload_n hx hb dL_law_670 rfl (lv_at hl 4 rfl) ?_
  refine af_I hG (run_V C hl.1 hG (m11_thrown E l v.2 (v.2 47 0) rfl) (rest := []) LM_99 rfl KC11 rfl ⟨Nat.le_of_ble_eq_true rfl, Nat.le_of_ble_eq_true rfl⟩ (Nat.le_of_ble_eq_true rfl) ⟨by show k + 3 + 0 + 0 ≤ 601024; omega, by show sl + 18 + 0 + 0 ≤ 7293034; omega⟩ rfl dL_law_671) (fun H locs hG => ?_)
  refine lv_iload hx hb dL_law_674 (lv_at hl 1 rfl) ?_
  refine lv_icmp_eq (tgt := 681) hx hb dL_law_676 (by decide) (fun _ => ?_) (fun c1 => absurd hth c1)
  refine lv_iload hx hb dL_law_681 (lv_at hl 1 rfl) ?_
  refine lv_if_ne (tgt := 698) hx hb dL_law_683 (by decide) (fun _ => ?_) (fun h0 => ?_)
  · refine lv_goto (tgt := 1828) hx hb dL_law_698 (by decide) ?_
    exact KK _ _ _ _ _ _ _ (by omega) (by omega) hI1 hG (lv_sub hl [2, 3, 4, 5, 6] rfl)
  · skip
    refine lv_aload_n hx hb dL_law_686 rfl (lv_at hl 5 rfl) ?_
    refine lv_iconst (v := 0) hx hb dL_law_687 (by decide) ?_
    refine r_out C hO hG dL_law_688 ?_
    refine lv_iload hx hb dL_law_689 (lv_at hl 0 rfl) ?_
    refine lv_i2l hx hb dL_law_691 rfl ?_
    rw [hval h0]
    refine r_lcmpE C dL_law_692 ?_
    refine lv_if_eq (tgt := 698) hx hb dL_law_693 (by decide) (fun _ => ?_) (fun c9 => absurd rfl c9)
    refine lv_goto (tgt := 1828) hx hb dL_law_698 (by decide) ?_
    exact KK _ _ _ _ _ _ _ (by omega) (by omega) hI1 hG (lv_sub hl [2, 3, 4, 5, 6] rfl)
set_option maxRecDepth 100000 in
theorem cs_placeOf (hS : S_placeOf I) (hst : l.stackTraces = false) (C : Cx p s m #[Value.ref b] meth c cL_law 9 RL E) (hO : OT E tL ao s) (hao : s.heap.size ≤ ao) (hA9 : ¬ AA E s.heap.size b) (hX : va_X b L sc s s.heap) (hbl : b < s.heap.size) (hi : i + 5 < L) (hL : L ≤ 3072) (hI : I n g) (hG : Gd E s H locs g [oE tL ao f]) (hl : lv_has ls 9 [(0, .ref b), (1, .ref (E.ad 0)), (2, .ref (E.ad 47)), (3, .ref ao), (4, .int (nI i))]) (hk : k + 12 ≤ 601024 ∧ sl + 95 ≤ 7293034)
    (KK : ∀ (H1 : Heap) (locs1 : List Loc) (g1 : G) (f1 : Nat → Int64) (ls1 : Array Slot) (k1 s1 : Nat), k1 ≤ k + 12 → s1 ≤ sl + 95 → I (n + 1) g1 → Gd E s H1 locs1 g1 [oE tL ao f1] → lv_has ls1 9 [(0, .ref b), (1, .ref (E.ad 0)), (2, .ref (E.ad 47)), (3, .ref ao), (4, .int (nI i))] → W p l e room_1 s m #[Value.ref b] below meth c H1 locs1 k1 s1 Q (F0 m 1828 ls1 [])) : W p l e room_1 s m #[Value.ref b] below meth c H locs k sl Q (F0 m 701 ls []) := by
  have hx := C.1
  have hb := C.2.1
  obtain ⟨u, v, hu, hv, hth, hval, hI1⟩ := hS n g f (sc (i + 1)) hI
  refine lv_aload_n hx hb dL_law_701 rfl (lv_at hl 1 rfl) ?_
  refine r_arg (j := 1) C hX hbl hA9 hG.2.2 hl (k0 := 0) (k4 := 4) rfl rfl rfl (by omega) hL dL_law_702 dL_law_703 dL_law_705 dL_law_706 dL_law_707 ?_
  refine lv_aload_n hx hb dL_law_708 rfl (lv_at hl 3 rfl) ?_
  refine r_own C hl.1 hO hao hG [.ref (E.ad 0), .int (sc (i + 1)), .ref ao] [] (v_placeOf E tL ao l hst (sc (i + 1)) g f u hu) LS_156 rfl ⟨Nat.le_of_ble_eq_true rfl, Nat.le_of_ble_eq_true rfl⟩ (Nat.le_of_ble_eq_true rfl) ⟨by show k + 3 ≤ 601024; omega, by show sl + 18 ≤ 7293034; omega⟩ rfl dL_law_709 (fun H locs hG => ?_)
  refine lv_istore (lv' := [(5, .int u.1), (0, .ref b), (1, .ref (E.ad 0)), (2, .ref (E.ad 47)), (3, .ref ao), (4, .int (nI i))]) hx hb dL_law_712 hl (by decide) rfl (fun ls hl => ?_)
  refine lv_aload_n hx hb dL_law_714 rfl (lv_at hl 3 rfl) ?_
  refine r_arg (j := 1) C hX hbl hA9 hG.2.2 hl (k0 := 1) (k4 := 5) rfl rfl rfl (by omega) hL dL_law_715 dL_law_716 dL_law_718 dL_law_719 dL_law_720 ?_
  refine af_I hG (run_V C hl.1 hG (m11_placeOf E l (sc (i + 1)) u.2.1 v hv) (rest := []) LM_158 rfl KC11 rfl ⟨Nat.le_of_ble_eq_true rfl, Nat.le_of_ble_eq_true rfl⟩ (Nat.le_of_ble_eq_true rfl) ⟨by show k + 3 + 0 ≤ 601024; omega, by show sl + 18 + 0 ≤ 7293034; omega⟩ rfl dL_law_721) (fun H locs hG => ?_)
  refine lv_istore (lv' := [(6, .int v.1), (5, .int u.1), (0, .ref b), (1, .ref (E.ad 0)), (2, .ref (E.ad 47)), (3, .ref ao), (4, .int (nI i))]) hx hb dL_law_724 hl (by decide) rfl (fun ls hl => ?_)
  refine lv_aload_n hx hb dL_law_726 rfl (lv_at hl 4 rfl) ?_
  refine af_I hG (run_V C hl.1 hG (m11_thrown E l v.2 (v.2 47 0) rfl) (rest := []) LM_99 rfl KC11 rfl ⟨Nat.le_of_ble_eq_true rfl, Nat.le_of_ble_eq_true rfl⟩ (Nat.le_of_ble_eq_true rfl) ⟨by show k + 3 + 0 + 0 ≤ 601024; omega, by show sl + 18 + 0 + 0 ≤ 7293034; omega⟩ rfl dL_law_727) (fun H locs hG => ?_)
  refine lv_iload hx hb dL_law_730 (lv_at hl 1 rfl) ?_
  refine lv_icmp_eq (tgt := 737) hx hb dL_law_732 (by decide) (fun _ => ?_) (fun c1 => absurd hth c1)
  refine lv_iload hx hb dL_law_737 (lv_at hl 1 rfl) ?_
  refine lv_if_ne (tgt := 754) hx hb dL_law_739 (by decide) (fun _ => ?_) (fun h0 => ?_)
  · refine lv_goto (tgt := 1828) hx hb dL_law_754 (by decide) ?_
    exact KK _ _ _ _ _ _ _ (by omega) (by omega) hI1 hG (lv_sub hl [2, 3, 4, 5, 6] rfl)
  · skip
    refine lv_aload_n hx hb dL_law_742 rfl (lv_at hl 5 rfl) ?_
    refine lv_iconst (v := 0) hx hb dL_law_743 (by decide) ?_
    refine r_out C hO hG dL_law_744 ?_
    refine lv_iload hx hb dL_law_745 (lv_at hl 0 rfl) ?_
    refine lv_i2l hx hb dL_law_747 rfl ?_
    rw [hval h0]
    refine r_lcmpE C dL_law_748 ?_
    refine lv_if_eq (tgt := 754) hx hb dL_law_749 (by decide) (fun _ => ?_) (fun c9 => absurd rfl c9)
    refine lv_goto (tgt := 1828) hx hb dL_law_754 (by decide) ?_
    exact KK _ _ _ _ _ _ _ (by omega) (by omega) hI1 hG (lv_sub hl [2, 3, 4, 5, 6] rfl)
set_option maxRecDepth 100000 in
theorem cs_lightBehind (hS : S_lightBehind I) (hst : l.stackTraces = false) (C : Cx p s m #[Value.ref b] meth c cL_law 9 RL E) (hO : OT E tL ao s) (hao : s.heap.size ≤ ao) (hA9 : ¬ AA E s.heap.size b) (hX : va_X b L sc s s.heap) (hbl : b < s.heap.size) (hi : i + 5 < L) (hL : L ≤ 3072) (hI : I n g) (hG : Gd E s H locs g [oE tL ao f]) (hl : lv_has ls 9 [(0, .ref b), (1, .ref (E.ad 0)), (2, .ref (E.ad 47)), (3, .ref ao), (4, .int (nI i))]) (hk : k + 12 ≤ 601024 ∧ sl + 95 ≤ 7293034)
    (KK : ∀ (H1 : Heap) (locs1 : List Loc) (g1 : G) (f1 : Nat → Int64) (ls1 : Array Slot) (k1 s1 : Nat), k1 ≤ k + 12 → s1 ≤ sl + 95 → I (n + 1) g1 → Gd E s H1 locs1 g1 [oE tL ao f1] → lv_has ls1 9 [(0, .ref b), (1, .ref (E.ad 0)), (2, .ref (E.ad 47)), (3, .ref ao), (4, .int (nI i))] → W p l e room_1 s m #[Value.ref b] below meth c H1 locs1 k1 s1 Q (F0 m 1828 ls1 [])) : W p l e room_1 s m #[Value.ref b] below meth c H locs k sl Q (F0 m 757 ls []) := by
  have hx := C.1
  have hb := C.2.1
  obtain ⟨u, v, hu, hv, hth, hval, hI1⟩ := hS n g f (sc (i + 1)) hI
  refine lv_aload_n hx hb dL_law_757 rfl (lv_at hl 1 rfl) ?_
  refine r_arg (j := 1) C hX hbl hA9 hG.2.2 hl (k0 := 0) (k4 := 4) rfl rfl rfl (by omega) hL dL_law_758 dL_law_759 dL_law_761 dL_law_762 dL_law_763 ?_
  refine lv_aload_n hx hb dL_law_764 rfl (lv_at hl 3 rfl) ?_
  refine r_own C hl.1 hO hao hG [.ref (E.ad 0), .int (sc (i + 1)), .ref ao] [] (v_lightBehind E tL ao l hst (sc (i + 1)) g f u hu) LS_159 rfl ⟨Nat.le_of_ble_eq_true rfl, Nat.le_of_ble_eq_true rfl⟩ (Nat.le_of_ble_eq_true rfl) ⟨by show k + 3 ≤ 601024; omega, by show sl + 18 ≤ 7293034; omega⟩ rfl dL_law_765 (fun H locs hG => ?_)
  refine lv_istore (lv' := [(5, .int u.1), (0, .ref b), (1, .ref (E.ad 0)), (2, .ref (E.ad 47)), (3, .ref ao), (4, .int (nI i))]) hx hb dL_law_768 hl (by decide) rfl (fun ls hl => ?_)
  refine lv_aload_n hx hb dL_law_770 rfl (lv_at hl 3 rfl) ?_
  refine r_arg (j := 1) C hX hbl hA9 hG.2.2 hl (k0 := 1) (k4 := 5) rfl rfl rfl (by omega) hL dL_law_771 dL_law_772 dL_law_774 dL_law_775 dL_law_776 ?_
  refine af_I hG (run_V C hl.1 hG (m11_lightBehind E l (sc (i + 1)) u.2.1 v hv) (rest := []) LM_161 rfl KC11 rfl ⟨Nat.le_of_ble_eq_true rfl, Nat.le_of_ble_eq_true rfl⟩ (Nat.le_of_ble_eq_true rfl) ⟨by show k + 3 + 0 ≤ 601024; omega, by show sl + 18 + 0 ≤ 7293034; omega⟩ rfl dL_law_777) (fun H locs hG => ?_)
  refine lv_istore (lv' := [(6, .int v.1), (5, .int u.1), (0, .ref b), (1, .ref (E.ad 0)), (2, .ref (E.ad 47)), (3, .ref ao), (4, .int (nI i))]) hx hb dL_law_780 hl (by decide) rfl (fun ls hl => ?_)
  refine lv_aload_n hx hb dL_law_782 rfl (lv_at hl 4 rfl) ?_
  refine af_I hG (run_V C hl.1 hG (m11_thrown E l v.2 (v.2 47 0) rfl) (rest := []) LM_99 rfl KC11 rfl ⟨Nat.le_of_ble_eq_true rfl, Nat.le_of_ble_eq_true rfl⟩ (Nat.le_of_ble_eq_true rfl) ⟨by show k + 3 + 0 + 0 ≤ 601024; omega, by show sl + 18 + 0 + 0 ≤ 7293034; omega⟩ rfl dL_law_783) (fun H locs hG => ?_)
  refine lv_iload hx hb dL_law_786 (lv_at hl 1 rfl) ?_
  refine lv_icmp_eq (tgt := 793) hx hb dL_law_788 (by decide) (fun _ => ?_) (fun c1 => absurd hth c1)
  refine lv_iload hx hb dL_law_793 (lv_at hl 1 rfl) ?_
  refine lv_if_ne (tgt := 810) hx hb dL_law_795 (by decide) (fun _ => ?_) (fun h0 => ?_)
  · refine lv_goto (tgt := 1828) hx hb dL_law_810 (by decide) ?_
    exact KK _ _ _ _ _ _ _ (by omega) (by omega) hI1 hG (lv_sub hl [2, 3, 4, 5, 6] rfl)
  · skip
    refine lv_aload_n hx hb dL_law_798 rfl (lv_at hl 5 rfl) ?_
    refine lv_iconst (v := 0) hx hb dL_law_799 (by decide) ?_
    refine r_out C hO hG dL_law_800 ?_
    refine lv_iload hx hb dL_law_801 (lv_at hl 0 rfl) ?_
    refine lv_i2l hx hb dL_law_803 rfl ?_
    rw [hval h0]
    refine r_lcmpE C dL_law_804 ?_
    refine lv_if_eq (tgt := 810) hx hb dL_law_805 (by decide) (fun _ => ?_) (fun c9 => absurd rfl c9)
    refine lv_goto (tgt := 1828) hx hb dL_law_810 (by decide) ?_
    exact KK _ _ _ _ _ _ _ (by omega) (by omega) hI1 hG (lv_sub hl [2, 3, 4, 5, 6] rfl)
set_option maxRecDepth 100000 in
theorem cs_lostAt (hS : S_lostAt I) (hst : l.stackTraces = false) (C : Cx p s m #[Value.ref b] meth c cL_law 9 RL E) (hO : OT E tL ao s) (hao : s.heap.size ≤ ao) (hA9 : ¬ AA E s.heap.size b) (hX : va_X b L sc s s.heap) (hbl : b < s.heap.size) (hi : i + 5 < L) (hL : L ≤ 3072) (hI : I n g) (hG : Gd E s H locs g [oE tL ao f]) (hl : lv_has ls 9 [(0, .ref b), (1, .ref (E.ad 0)), (2, .ref (E.ad 47)), (3, .ref ao), (4, .int (nI i))]) (hk : k + 12 ≤ 601024 ∧ sl + 95 ≤ 7293034)
    (KK : ∀ (H1 : Heap) (locs1 : List Loc) (g1 : G) (f1 : Nat → Int64) (ls1 : Array Slot) (k1 s1 : Nat), k1 ≤ k + 12 → s1 ≤ sl + 95 → I (n + 1) g1 → Gd E s H1 locs1 g1 [oE tL ao f1] → lv_has ls1 9 [(0, .ref b), (1, .ref (E.ad 0)), (2, .ref (E.ad 47)), (3, .ref ao), (4, .int (nI i))] → W p l e room_1 s m #[Value.ref b] below meth c H1 locs1 k1 s1 Q (F0 m 1828 ls1 [])) : W p l e room_1 s m #[Value.ref b] below meth c H locs k sl Q (F0 m 813 ls []) := by
  have hx := C.1
  have hb := C.2.1
  obtain ⟨u, v, hu, hv, hth, hval, hI1⟩ := hS n g f (sc (i + 1)) hI
  refine lv_aload_n hx hb dL_law_813 rfl (lv_at hl 1 rfl) ?_
  refine r_arg (j := 1) C hX hbl hA9 hG.2.2 hl (k0 := 0) (k4 := 4) rfl rfl rfl (by omega) hL dL_law_814 dL_law_815 dL_law_817 dL_law_818 dL_law_819 ?_
  refine lv_aload_n hx hb dL_law_820 rfl (lv_at hl 3 rfl) ?_
  refine r_own C hl.1 hO hao hG [.ref (E.ad 0), .int (sc (i + 1)), .ref ao] [] (v_lostAt E tL ao l hst (sc (i + 1)) g f u hu) LS_162 rfl ⟨Nat.le_of_ble_eq_true rfl, Nat.le_of_ble_eq_true rfl⟩ (Nat.le_of_ble_eq_true rfl) ⟨by show k + 3 ≤ 601024; omega, by show sl + 18 ≤ 7293034; omega⟩ rfl dL_law_821 (fun H locs hG => ?_)
  refine lv_istore (lv' := [(5, .int u.1), (0, .ref b), (1, .ref (E.ad 0)), (2, .ref (E.ad 47)), (3, .ref ao), (4, .int (nI i))]) hx hb dL_law_824 hl (by decide) rfl (fun ls hl => ?_)
  refine lv_aload_n hx hb dL_law_826 rfl (lv_at hl 3 rfl) ?_
  refine r_arg (j := 1) C hX hbl hA9 hG.2.2 hl (k0 := 1) (k4 := 5) rfl rfl rfl (by omega) hL dL_law_827 dL_law_828 dL_law_830 dL_law_831 dL_law_832 ?_
  refine af_I hG (run_V C hl.1 hG (m11_lostAt E l (sc (i + 1)) u.2.1 v hv) (rest := []) LM_164 rfl KC11 rfl ⟨Nat.le_of_ble_eq_true rfl, Nat.le_of_ble_eq_true rfl⟩ (Nat.le_of_ble_eq_true rfl) ⟨by show k + 3 + 0 ≤ 601024; omega, by show sl + 18 + 0 ≤ 7293034; omega⟩ rfl dL_law_833) (fun H locs hG => ?_)
  refine lv_istore (lv' := [(6, .int v.1), (5, .int u.1), (0, .ref b), (1, .ref (E.ad 0)), (2, .ref (E.ad 47)), (3, .ref ao), (4, .int (nI i))]) hx hb dL_law_836 hl (by decide) rfl (fun ls hl => ?_)
  refine lv_aload_n hx hb dL_law_838 rfl (lv_at hl 4 rfl) ?_
  refine af_I hG (run_V C hl.1 hG (m11_thrown E l v.2 (v.2 47 0) rfl) (rest := []) LM_99 rfl KC11 rfl ⟨Nat.le_of_ble_eq_true rfl, Nat.le_of_ble_eq_true rfl⟩ (Nat.le_of_ble_eq_true rfl) ⟨by show k + 3 + 0 + 0 ≤ 601024; omega, by show sl + 18 + 0 + 0 ≤ 7293034; omega⟩ rfl dL_law_839) (fun H locs hG => ?_)
  refine lv_iload hx hb dL_law_842 (lv_at hl 1 rfl) ?_
  refine lv_icmp_eq (tgt := 849) hx hb dL_law_844 (by decide) (fun _ => ?_) (fun c1 => absurd hth c1)
  refine lv_iload hx hb dL_law_849 (lv_at hl 1 rfl) ?_
  refine lv_if_ne (tgt := 866) hx hb dL_law_851 (by decide) (fun _ => ?_) (fun h0 => ?_)
  · refine lv_goto (tgt := 1828) hx hb dL_law_866 (by decide) ?_
    exact KK _ _ _ _ _ _ _ (by omega) (by omega) hI1 hG (lv_sub hl [2, 3, 4, 5, 6] rfl)
  · skip
    refine lv_aload_n hx hb dL_law_854 rfl (lv_at hl 5 rfl) ?_
    refine lv_iconst (v := 0) hx hb dL_law_855 (by decide) ?_
    refine r_out C hO hG dL_law_856 ?_
    refine lv_iload hx hb dL_law_857 (lv_at hl 0 rfl) ?_
    refine lv_i2l hx hb dL_law_859 rfl ?_
    rw [hval h0]
    refine r_lcmpE C dL_law_860 ?_
    refine lv_if_eq (tgt := 866) hx hb dL_law_861 (by decide) (fun _ => ?_) (fun c9 => absurd rfl c9)
    refine lv_goto (tgt := 1828) hx hb dL_law_866 (by decide) ?_
    exact KK _ _ _ _ _ _ _ (by omega) (by omega) hI1 hG (lv_sub hl [2, 3, 4, 5, 6] rfl)
set_option maxRecDepth 100000 in
theorem cs_tiltBehind (hS : S_tiltBehind I) (hst : l.stackTraces = false) (C : Cx p s m #[Value.ref b] meth c cL_law 9 RL E) (hO : OT E tL ao s) (hao : s.heap.size ≤ ao) (hA9 : ¬ AA E s.heap.size b) (hX : va_X b L sc s s.heap) (hbl : b < s.heap.size) (hi : i + 5 < L) (hL : L ≤ 3072) (hI : I n g) (hG : Gd E s H locs g [oE tL ao f]) (hl : lv_has ls 9 [(0, .ref b), (1, .ref (E.ad 0)), (2, .ref (E.ad 47)), (3, .ref ao), (4, .int (nI i))]) (hk : k + 12 ≤ 601024 ∧ sl + 95 ≤ 7293034)
    (KK : ∀ (H1 : Heap) (locs1 : List Loc) (g1 : G) (f1 : Nat → Int64) (ls1 : Array Slot) (k1 s1 : Nat), k1 ≤ k + 12 → s1 ≤ sl + 95 → I (n + 1) g1 → Gd E s H1 locs1 g1 [oE tL ao f1] → lv_has ls1 9 [(0, .ref b), (1, .ref (E.ad 0)), (2, .ref (E.ad 47)), (3, .ref ao), (4, .int (nI i))] → W p l e room_1 s m #[Value.ref b] below meth c H1 locs1 k1 s1 Q (F0 m 1828 ls1 [])) : W p l e room_1 s m #[Value.ref b] below meth c H locs k sl Q (F0 m 869 ls []) := by
  have hx := C.1
  have hb := C.2.1
  obtain ⟨u, v, hu, hv, hth, hval, hI1⟩ := hS n g f (sc (i + 1)) hI
  refine lv_aload_n hx hb dL_law_869 rfl (lv_at hl 1 rfl) ?_
  refine r_arg (j := 1) C hX hbl hA9 hG.2.2 hl (k0 := 0) (k4 := 4) rfl rfl rfl (by omega) hL dL_law_870 dL_law_871 dL_law_873 dL_law_874 dL_law_875 ?_
  refine lv_aload_n hx hb dL_law_876 rfl (lv_at hl 3 rfl) ?_
  refine r_own C hl.1 hO hao hG [.ref (E.ad 0), .int (sc (i + 1)), .ref ao] [] (v_tiltBehind E tL ao l hst (sc (i + 1)) g f u hu) LS_165 rfl ⟨Nat.le_of_ble_eq_true rfl, Nat.le_of_ble_eq_true rfl⟩ (Nat.le_of_ble_eq_true rfl) ⟨by show k + 3 ≤ 601024; omega, by show sl + 18 ≤ 7293034; omega⟩ rfl dL_law_877 (fun H locs hG => ?_)
  refine lv_istore (lv' := [(5, .int u.1), (0, .ref b), (1, .ref (E.ad 0)), (2, .ref (E.ad 47)), (3, .ref ao), (4, .int (nI i))]) hx hb dL_law_880 hl (by decide) rfl (fun ls hl => ?_)
  refine lv_aload_n hx hb dL_law_882 rfl (lv_at hl 3 rfl) ?_
  refine r_arg (j := 1) C hX hbl hA9 hG.2.2 hl (k0 := 1) (k4 := 5) rfl rfl rfl (by omega) hL dL_law_883 dL_law_884 dL_law_886 dL_law_887 dL_law_888 ?_
  refine af_I hG (run_V C hl.1 hG (m11_tiltBehind E l (sc (i + 1)) u.2.1 v hv) (rest := []) LM_167 rfl KC11 rfl ⟨Nat.le_of_ble_eq_true rfl, Nat.le_of_ble_eq_true rfl⟩ (Nat.le_of_ble_eq_true rfl) ⟨by show k + 3 + 0 ≤ 601024; omega, by show sl + 18 + 0 ≤ 7293034; omega⟩ rfl dL_law_889) (fun H locs hG => ?_)
  refine lv_istore (lv' := [(6, .int v.1), (5, .int u.1), (0, .ref b), (1, .ref (E.ad 0)), (2, .ref (E.ad 47)), (3, .ref ao), (4, .int (nI i))]) hx hb dL_law_892 hl (by decide) rfl (fun ls hl => ?_)
  refine lv_aload_n hx hb dL_law_894 rfl (lv_at hl 4 rfl) ?_
  refine af_I hG (run_V C hl.1 hG (m11_thrown E l v.2 (v.2 47 0) rfl) (rest := []) LM_99 rfl KC11 rfl ⟨Nat.le_of_ble_eq_true rfl, Nat.le_of_ble_eq_true rfl⟩ (Nat.le_of_ble_eq_true rfl) ⟨by show k + 3 + 0 + 0 ≤ 601024; omega, by show sl + 18 + 0 + 0 ≤ 7293034; omega⟩ rfl dL_law_895) (fun H locs hG => ?_)
  refine lv_iload hx hb dL_law_898 (lv_at hl 1 rfl) ?_
  refine lv_icmp_eq (tgt := 905) hx hb dL_law_900 (by decide) (fun _ => ?_) (fun c1 => absurd hth c1)
  refine lv_iload hx hb dL_law_905 (lv_at hl 1 rfl) ?_
  refine lv_if_ne (tgt := 922) hx hb dL_law_907 (by decide) (fun _ => ?_) (fun h0 => ?_)
  · refine lv_goto (tgt := 1828) hx hb dL_law_922 (by decide) ?_
    exact KK _ _ _ _ _ _ _ (by omega) (by omega) hI1 hG (lv_sub hl [2, 3, 4, 5, 6] rfl)
  · skip
    refine lv_aload_n hx hb dL_law_910 rfl (lv_at hl 5 rfl) ?_
    refine lv_iconst (v := 0) hx hb dL_law_911 (by decide) ?_
    refine r_out C hO hG dL_law_912 ?_
    refine lv_iload hx hb dL_law_913 (lv_at hl 0 rfl) ?_
    refine lv_i2l hx hb dL_law_915 rfl ?_
    rw [hval h0]
    refine r_lcmpE C dL_law_916 ?_
    refine lv_if_eq (tgt := 922) hx hb dL_law_917 (by decide) (fun _ => ?_) (fun c9 => absurd rfl c9)
    refine lv_goto (tgt := 1828) hx hb dL_law_922 (by decide) ?_
    exact KK _ _ _ _ _ _ _ (by omega) (by omega) hI1 hG (lv_sub hl [2, 3, 4, 5, 6] rfl)
set_option maxRecDepth 100000 in
theorem cs_isCovered (hS : S_isCovered I) (hst : l.stackTraces = false) (C : Cx p s m #[Value.ref b] meth c cL_law 9 RL E) (hO : OT E tL ao s) (hao : s.heap.size ≤ ao) (hA9 : ¬ AA E s.heap.size b) (hX : va_X b L sc s s.heap) (hbl : b < s.heap.size) (hi : i + 5 < L) (hL : L ≤ 3072) (hI : I n g) (hG : Gd E s H locs g [oE tL ao f]) (hl : lv_has ls 9 [(0, .ref b), (1, .ref (E.ad 0)), (2, .ref (E.ad 47)), (3, .ref ao), (4, .int (nI i))]) (hk : k + 12 ≤ 601024 ∧ sl + 95 ≤ 7293034)
    (KK : ∀ (H1 : Heap) (locs1 : List Loc) (g1 : G) (f1 : Nat → Int64) (ls1 : Array Slot) (k1 s1 : Nat), k1 ≤ k + 12 → s1 ≤ sl + 95 → I (n + 1) g1 → Gd E s H1 locs1 g1 [oE tL ao f1] → lv_has ls1 9 [(0, .ref b), (1, .ref (E.ad 0)), (2, .ref (E.ad 47)), (3, .ref ao), (4, .int (nI i))] → W p l e room_1 s m #[Value.ref b] below meth c H1 locs1 k1 s1 Q (F0 m 1828 ls1 [])) : W p l e room_1 s m #[Value.ref b] below meth c H locs k sl Q (F0 m 925 ls []) := by
  have hx := C.1
  have hb := C.2.1
  obtain ⟨u, v, hu, hv, hth, hval, hI1⟩ := hS n g f (sc (i + 1)) hI
  refine lv_aload_n hx hb dL_law_925 rfl (lv_at hl 1 rfl) ?_
  refine r_arg (j := 1) C hX hbl hA9 hG.2.2 hl (k0 := 0) (k4 := 4) rfl rfl rfl (by omega) hL dL_law_926 dL_law_927 dL_law_929 dL_law_930 dL_law_931 ?_
  refine lv_aload_n hx hb dL_law_932 rfl (lv_at hl 3 rfl) ?_
  refine r_own C hl.1 hO hao hG [.ref (E.ad 0), .int (sc (i + 1)), .ref ao] [] (v_isCovered E tL ao l hst (sc (i + 1)) g f u hu) LS_168 rfl ⟨Nat.le_of_ble_eq_true rfl, Nat.le_of_ble_eq_true rfl⟩ (Nat.le_of_ble_eq_true rfl) ⟨by show k + 3 ≤ 601024; omega, by show sl + 18 ≤ 7293034; omega⟩ rfl dL_law_933 (fun H locs hG => ?_)
  refine lv_istore (lv' := [(5, .int u.1), (0, .ref b), (1, .ref (E.ad 0)), (2, .ref (E.ad 47)), (3, .ref ao), (4, .int (nI i))]) hx hb dL_law_936 hl (by decide) rfl (fun ls hl => ?_)
  refine lv_aload_n hx hb dL_law_938 rfl (lv_at hl 3 rfl) ?_
  refine r_arg (j := 1) C hX hbl hA9 hG.2.2 hl (k0 := 1) (k4 := 5) rfl rfl rfl (by omega) hL dL_law_939 dL_law_940 dL_law_942 dL_law_943 dL_law_944 ?_
  refine af_I hG (run_V C hl.1 hG (m11_isCovered E l (sc (i + 1)) u.2.1 v hv) (rest := []) LM_170 rfl KC11 rfl ⟨Nat.le_of_ble_eq_true rfl, Nat.le_of_ble_eq_true rfl⟩ (Nat.le_of_ble_eq_true rfl) ⟨by show k + 3 + 0 ≤ 601024; omega, by show sl + 18 + 0 ≤ 7293034; omega⟩ rfl dL_law_945) (fun H locs hG => ?_)
  refine lv_istore (lv' := [(6, .int v.1), (5, .int u.1), (0, .ref b), (1, .ref (E.ad 0)), (2, .ref (E.ad 47)), (3, .ref ao), (4, .int (nI i))]) hx hb dL_law_948 hl (by decide) rfl (fun ls hl => ?_)
  refine lv_aload_n hx hb dL_law_950 rfl (lv_at hl 4 rfl) ?_
  refine af_I hG (run_V C hl.1 hG (m11_thrown E l v.2 (v.2 47 0) rfl) (rest := []) LM_99 rfl KC11 rfl ⟨Nat.le_of_ble_eq_true rfl, Nat.le_of_ble_eq_true rfl⟩ (Nat.le_of_ble_eq_true rfl) ⟨by show k + 3 + 0 + 0 ≤ 601024; omega, by show sl + 18 + 0 + 0 ≤ 7293034; omega⟩ rfl dL_law_951) (fun H locs hG => ?_)
  refine lv_iload hx hb dL_law_954 (lv_at hl 1 rfl) ?_
  refine lv_icmp_eq (tgt := 961) hx hb dL_law_956 (by decide) (fun _ => ?_) (fun c1 => absurd hth c1)
  refine lv_iload hx hb dL_law_961 (lv_at hl 1 rfl) ?_
  refine lv_if_ne (tgt := 985) hx hb dL_law_963 (by decide) (fun _ => ?_) (fun h0 => ?_)
  · refine lv_goto (tgt := 1828) hx hb dL_law_985 (by decide) ?_
    exact KK _ _ _ _ _ _ _ (by omega) (by omega) hI1 hG (lv_sub hl [2, 3, 4, 5, 6] rfl)
  · skip
    refine lv_aload_n hx hb dL_law_966 rfl (lv_at hl 5 rfl) ?_
    refine lv_iconst (v := 0) hx hb dL_law_967 (by decide) ?_
    refine r_out C hO hG dL_law_968 ?_
    refine lv_iload hx hb dL_law_969 (lv_at hl 0 rfl) ?_
    have hval := hval h0
    refine lv_if_eq (tgt := 978) hx hb dL_law_971 (by decide) (fun c2 => ?_) (fun c2 => ?_)
    · rw [if_pos c2] at hval
      refine lv_lconst (v := 0) hx hb dL_law_978 (by decide) ?_
      rw [hval]
      refine r_lcmpE C dL_law_979 ?_
      refine lv_if_eq (tgt := 985) hx hb dL_law_980 (by decide) (fun _ => ?_) (fun c9 => absurd rfl c9)
      refine lv_goto (tgt := 1828) hx hb dL_law_985 (by decide) ?_
      exact KK _ _ _ _ _ _ _ (by omega) (by omega) hI1 hG (lv_sub hl [2, 3, 4, 5, 6] rfl)
    · rw [if_neg c2] at hval
      refine lv_lconst (v := 1) hx hb dL_law_974 (by decide) ?_
      refine lv_goto (tgt := 979) hx hb dL_law_975 (by decide) ?_
      rw [hval]
      refine r_lcmpE C dL_law_979 ?_
      refine lv_if_eq (tgt := 985) hx hb dL_law_980 (by decide) (fun _ => ?_) (fun c9 => absurd rfl c9)
      refine lv_goto (tgt := 1828) hx hb dL_law_985 (by decide) ?_
      exact KK _ _ _ _ _ _ _ (by omega) (by omega) hI1 hG (lv_sub hl [2, 3, 4, 5, 6] rfl)
set_option maxRecDepth 100000 in
theorem cs_mirrorAt (hS : S_mirrorAt I) (hst : l.stackTraces = false) (C : Cx p s m #[Value.ref b] meth c cL_law 9 RL E) (hO : OT E tL ao s) (hao : s.heap.size ≤ ao) (hA9 : ¬ AA E s.heap.size b) (hX : va_X b L sc s s.heap) (hbl : b < s.heap.size) (hi : i + 5 < L) (hL : L ≤ 3072) (hI : I n g) (hG : Gd E s H locs g [oE tL ao f]) (hl : lv_has ls 9 [(0, .ref b), (1, .ref (E.ad 0)), (2, .ref (E.ad 47)), (3, .ref ao), (4, .int (nI i))]) (hk : k + 12 ≤ 601024 ∧ sl + 95 ≤ 7293034)
    (KK : ∀ (H1 : Heap) (locs1 : List Loc) (g1 : G) (f1 : Nat → Int64) (ls1 : Array Slot) (k1 s1 : Nat), k1 ≤ k + 12 → s1 ≤ sl + 95 → I (n + 1) g1 → Gd E s H1 locs1 g1 [oE tL ao f1] → lv_has ls1 9 [(0, .ref b), (1, .ref (E.ad 0)), (2, .ref (E.ad 47)), (3, .ref ao), (4, .int (nI i))] → W p l e room_1 s m #[Value.ref b] below meth c H1 locs1 k1 s1 Q (F0 m 1828 ls1 [])) : W p l e room_1 s m #[Value.ref b] below meth c H locs k sl Q (F0 m 988 ls []) := by
  have hx := C.1
  have hb := C.2.1
  obtain ⟨u, v, hu, hv, hth, hval, hI1⟩ := hS n g f (sc (i + 1)) hI
  refine lv_aload_n hx hb dL_law_988 rfl (lv_at hl 1 rfl) ?_
  refine r_arg (j := 1) C hX hbl hA9 hG.2.2 hl (k0 := 0) (k4 := 4) rfl rfl rfl (by omega) hL dL_law_989 dL_law_990 dL_law_992 dL_law_993 dL_law_994 ?_
  refine lv_aload_n hx hb dL_law_995 rfl (lv_at hl 3 rfl) ?_
  refine r_own C hl.1 hO hao hG [.ref (E.ad 0), .int (sc (i + 1)), .ref ao] [] (v_mirrorAt E tL ao l hst (sc (i + 1)) g f u hu) LS_171 rfl ⟨Nat.le_of_ble_eq_true rfl, Nat.le_of_ble_eq_true rfl⟩ (Nat.le_of_ble_eq_true rfl) ⟨by show k + 3 ≤ 601024; omega, by show sl + 18 ≤ 7293034; omega⟩ rfl dL_law_996 (fun H locs hG => ?_)
  refine lv_istore (lv' := [(5, .int u.1), (0, .ref b), (1, .ref (E.ad 0)), (2, .ref (E.ad 47)), (3, .ref ao), (4, .int (nI i))]) hx hb dL_law_999 hl (by decide) rfl (fun ls hl => ?_)
  refine lv_aload_n hx hb dL_law_1001 rfl (lv_at hl 3 rfl) ?_
  refine r_arg (j := 1) C hX hbl hA9 hG.2.2 hl (k0 := 1) (k4 := 5) rfl rfl rfl (by omega) hL dL_law_1002 dL_law_1003 dL_law_1005 dL_law_1006 dL_law_1007 ?_
  refine af_I hG (run_V C hl.1 hG (m11_mirrorAt E l (sc (i + 1)) u.2.1 v hv) (rest := []) LM_173 rfl KC11 rfl ⟨Nat.le_of_ble_eq_true rfl, Nat.le_of_ble_eq_true rfl⟩ (Nat.le_of_ble_eq_true rfl) ⟨by show k + 3 + 0 ≤ 601024; omega, by show sl + 18 + 0 ≤ 7293034; omega⟩ rfl dL_law_1008) (fun H locs hG => ?_)
  refine lv_istore (lv' := [(6, .int v.1), (5, .int u.1), (0, .ref b), (1, .ref (E.ad 0)), (2, .ref (E.ad 47)), (3, .ref ao), (4, .int (nI i))]) hx hb dL_law_1011 hl (by decide) rfl (fun ls hl => ?_)
  refine lv_aload_n hx hb dL_law_1013 rfl (lv_at hl 4 rfl) ?_
  refine af_I hG (run_V C hl.1 hG (m11_thrown E l v.2 (v.2 47 0) rfl) (rest := []) LM_99 rfl KC11 rfl ⟨Nat.le_of_ble_eq_true rfl, Nat.le_of_ble_eq_true rfl⟩ (Nat.le_of_ble_eq_true rfl) ⟨by show k + 3 + 0 + 0 ≤ 601024; omega, by show sl + 18 + 0 + 0 ≤ 7293034; omega⟩ rfl dL_law_1014) (fun H locs hG => ?_)
  refine lv_iload hx hb dL_law_1017 (lv_at hl 1 rfl) ?_
  refine lv_icmp_eq (tgt := 1024) hx hb dL_law_1019 (by decide) (fun _ => ?_) (fun c1 => absurd hth c1)
  refine lv_iload hx hb dL_law_1024 (lv_at hl 1 rfl) ?_
  refine lv_if_ne (tgt := 1041) hx hb dL_law_1026 (by decide) (fun _ => ?_) (fun h0 => ?_)
  · refine lv_goto (tgt := 1828) hx hb dL_law_1041 (by decide) ?_
    exact KK _ _ _ _ _ _ _ (by omega) (by omega) hI1 hG (lv_sub hl [2, 3, 4, 5, 6] rfl)
  · skip
    refine lv_aload_n hx hb dL_law_1029 rfl (lv_at hl 5 rfl) ?_
    refine lv_iconst (v := 0) hx hb dL_law_1030 (by decide) ?_
    refine r_out C hO hG dL_law_1031 ?_
    refine lv_iload hx hb dL_law_1032 (lv_at hl 0 rfl) ?_
    refine lv_i2l hx hb dL_law_1034 rfl ?_
    rw [hval h0]
    refine r_lcmpE C dL_law_1035 ?_
    refine lv_if_eq (tgt := 1041) hx hb dL_law_1036 (by decide) (fun _ => ?_) (fun c9 => absurd rfl c9)
    refine lv_goto (tgt := 1828) hx hb dL_law_1041 (by decide) ?_
    exact KK _ _ _ _ _ _ _ (by omega) (by omega) hI1 hG (lv_sub hl [2, 3, 4, 5, 6] rfl)
set_option maxRecDepth 100000 in
theorem cs_jobs (hS : S_jobs I) (hst : l.stackTraces = false) (C : Cx p s m #[Value.ref b] meth c cL_law 9 RL E) (hO : OT E tL ao s) (hao : s.heap.size ≤ ao) (hA9 : ¬ AA E s.heap.size b) (hX : va_X b L sc s s.heap) (hbl : b < s.heap.size) (hi : i + 5 < L) (hL : L ≤ 3072) (hI : I n g) (hG : Gd E s H locs g [oE tL ao f]) (hl : lv_has ls 9 [(0, .ref b), (1, .ref (E.ad 0)), (2, .ref (E.ad 47)), (3, .ref ao), (4, .int (nI i))]) (hk : k + 12 ≤ 601024 ∧ sl + 95 ≤ 7293034)
    (KK : ∀ (H1 : Heap) (locs1 : List Loc) (g1 : G) (f1 : Nat → Int64) (ls1 : Array Slot) (k1 s1 : Nat), k1 ≤ k + 12 → s1 ≤ sl + 95 → I (n + 1) g1 → Gd E s H1 locs1 g1 [oE tL ao f1] → lv_has ls1 9 [(0, .ref b), (1, .ref (E.ad 0)), (2, .ref (E.ad 47)), (3, .ref ao), (4, .int (nI i))] → W p l e room_1 s m #[Value.ref b] below meth c H1 locs1 k1 s1 Q (F0 m 1828 ls1 [])) : W p l e room_1 s m #[Value.ref b] below meth c H locs k sl Q (F0 m 1044 ls []) := by
  have hx := C.1
  have hb := C.2.1
  obtain ⟨u, v, hu, hv, hval, hI1⟩ := hS n g hI
  refine lv_aload_n hx hb dL_law_1044 rfl (lv_at hl 1 rfl) ?_
  refine af_I hG (run_V C hl.1 hG (m8_jobs E l g u hu) (rest := []) LM_174 rfl KC8 rfl ⟨Nat.le_of_ble_eq_true rfl, Nat.le_of_ble_eq_true rfl⟩ (Nat.le_of_ble_eq_true rfl) ⟨by show k + 0 ≤ 601024; omega, by show sl + 0 ≤ 7293034; omega⟩ rfl dL_law_1045) (fun H locs hG => ?_)
  refine lv_aload_n hx hb dL_law_1048 rfl (lv_at hl 2 rfl) ?_
  refine af_I hG (run_V C hl.1 hG (m11_jobs E l g v hv) (rest := [.int u]) LM_177 rfl KC11 rfl ⟨Nat.le_of_ble_eq_true rfl, Nat.le_of_ble_eq_true rfl⟩ (Nat.le_of_ble_eq_true rfl) ⟨by show k + 0 + 0 ≤ 601024; omega, by show sl + 0 + 0 ≤ 7293034; omega⟩ rfl dL_law_1049) (fun H locs hG => ?_)
  refine lv_icmp_eq (tgt := 1828) hx hb dL_law_1052 (by decide) (fun _ => ?_) (fun c1 => absurd hval c1)
  exact KK _ _ _ _ _ _ _ (by omega) (by omega) hI1 hG (lv_sub hl [0, 1, 2, 3, 4] rfl)
set_option maxRecDepth 100000 in
theorem cs_jobsDone (hS : S_jobsDone I) (hst : l.stackTraces = false) (C : Cx p s m #[Value.ref b] meth c cL_law 9 RL E) (hO : OT E tL ao s) (hao : s.heap.size ≤ ao) (hA9 : ¬ AA E s.heap.size b) (hX : va_X b L sc s s.heap) (hbl : b < s.heap.size) (hi : i + 5 < L) (hL : L ≤ 3072) (hI : I n g) (hG : Gd E s H locs g [oE tL ao f]) (hl : lv_has ls 9 [(0, .ref b), (1, .ref (E.ad 0)), (2, .ref (E.ad 47)), (3, .ref ao), (4, .int (nI i))]) (hk : k + 12 ≤ 601024 ∧ sl + 95 ≤ 7293034)
    (KK : ∀ (H1 : Heap) (locs1 : List Loc) (g1 : G) (f1 : Nat → Int64) (ls1 : Array Slot) (k1 s1 : Nat), k1 ≤ k + 12 → s1 ≤ sl + 95 → I (n + 1) g1 → Gd E s H1 locs1 g1 [oE tL ao f1] → lv_has ls1 9 [(0, .ref b), (1, .ref (E.ad 0)), (2, .ref (E.ad 47)), (3, .ref ao), (4, .int (nI i))] → W p l e room_1 s m #[Value.ref b] below meth c H1 locs1 k1 s1 Q (F0 m 1828 ls1 [])) : W p l e room_1 s m #[Value.ref b] below meth c H locs k sl Q (F0 m 1057 ls []) := by
  have hx := C.1
  have hb := C.2.1
  obtain ⟨u, v, hu, hv, hval, hI1⟩ := hS n g hI
  refine lv_aload_n hx hb dL_law_1057 rfl (lv_at hl 1 rfl) ?_
  refine af_I hG (run_V C hl.1 hG (m8_jobsDone E l g u hu) (rest := []) LM_178 rfl KC8 rfl ⟨Nat.le_of_ble_eq_true rfl, Nat.le_of_ble_eq_true rfl⟩ (Nat.le_of_ble_eq_true rfl) ⟨by show k + 0 ≤ 601024; omega, by show sl + 0 ≤ 7293034; omega⟩ rfl dL_law_1058) (fun H locs hG => ?_)
  refine lv_aload_n hx hb dL_law_1061 rfl (lv_at hl 2 rfl) ?_
  refine af_I hG (run_V C hl.1 hG (m11_jobsDone E l g v hv) (rest := [.int u]) LM_181 rfl KC11 rfl ⟨Nat.le_of_ble_eq_true rfl, Nat.le_of_ble_eq_true rfl⟩ (Nat.le_of_ble_eq_true rfl) ⟨by show k + 0 + 0 ≤ 601024; omega, by show sl + 0 + 0 ≤ 7293034; omega⟩ rfl dL_law_1062) (fun H locs hG => ?_)
  refine lv_icmp_eq (tgt := 1828) hx hb dL_law_1065 (by decide) (fun _ => ?_) (fun c1 => absurd hval c1)
  exact KK _ _ _ _ _ _ _ (by omega) (by omega) hI1 hG (lv_sub hl [0, 1, 2, 3, 4] rfl)
set_option maxRecDepth 100000 in
theorem cs_kindOfJob (hS : S_kindOfJob I) (hst : l.stackTraces = false) (C : Cx p s m #[Value.ref b] meth c cL_law 9 RL E) (hO : OT E tL ao s) (hao : s.heap.size ≤ ao) (hA9 : ¬ AA E s.heap.size b) (hX : va_X b L sc s s.heap) (hbl : b < s.heap.size) (hi : i + 5 < L) (hL : L ≤ 3072) (hI : I n g) (hG : Gd E s H locs g [oE tL ao f]) (hl : lv_has ls 9 [(0, .ref b), (1, .ref (E.ad 0)), (2, .ref (E.ad 47)), (3, .ref ao), (4, .int (nI i))]) (hk : k + 12 ≤ 601024 ∧ sl + 95 ≤ 7293034)
    (KK : ∀ (H1 : Heap) (locs1 : List Loc) (g1 : G) (f1 : Nat → Int64) (ls1 : Array Slot) (k1 s1 : Nat), k1 ≤ k + 12 → s1 ≤ sl + 95 → I (n + 1) g1 → Gd E s H1 locs1 g1 [oE tL ao f1] → lv_has ls1 9 [(0, .ref b), (1, .ref (E.ad 0)), (2, .ref (E.ad 47)), (3, .ref ao), (4, .int (nI i))] → W p l e room_1 s m #[Value.ref b] below meth c H1 locs1 k1 s1 Q (F0 m 1828 ls1 [])) : W p l e room_1 s m #[Value.ref b] below meth c H locs k sl Q (F0 m 1070 ls []) := by
  have hx := C.1
  have hb := C.2.1
  obtain ⟨u, v, hu, hv, hth, hval, hI1⟩ := hS n g f (sc (i + 1)) hI
  refine lv_aload_n hx hb dL_law_1070 rfl (lv_at hl 1 rfl) ?_
  refine r_arg (j := 1) C hX hbl hA9 hG.2.2 hl (k0 := 0) (k4 := 4) rfl rfl rfl (by omega) hL dL_law_1071 dL_law_1072 dL_law_1074 dL_law_1075 dL_law_1076 ?_
  refine lv_aload_n hx hb dL_law_1077 rfl (lv_at hl 3 rfl) ?_
  refine r_own C hl.1 hO hao hG [.ref (E.ad 0), .int (sc (i + 1)), .ref ao] [] (v_kindOfJob E tL ao l hst (sc (i + 1)) g f u hu) LS_182 rfl ⟨Nat.le_of_ble_eq_true rfl, Nat.le_of_ble_eq_true rfl⟩ (Nat.le_of_ble_eq_true rfl) ⟨by show k + 3 ≤ 601024; omega, by show sl + 18 ≤ 7293034; omega⟩ rfl dL_law_1078 (fun H locs hG => ?_)
  refine lv_istore (lv' := [(5, .int u.1), (0, .ref b), (1, .ref (E.ad 0)), (2, .ref (E.ad 47)), (3, .ref ao), (4, .int (nI i))]) hx hb dL_law_1081 hl (by decide) rfl (fun ls hl => ?_)
  refine lv_aload_n hx hb dL_law_1083 rfl (lv_at hl 3 rfl) ?_
  refine r_arg (j := 1) C hX hbl hA9 hG.2.2 hl (k0 := 1) (k4 := 5) rfl rfl rfl (by omega) hL dL_law_1084 dL_law_1085 dL_law_1087 dL_law_1088 dL_law_1089 ?_
  refine af_I hG (run_V C hl.1 hG (m11_kindOfJob E l (sc (i + 1)) u.2.1 v hv) (rest := []) LM_184 rfl KC11 rfl ⟨Nat.le_of_ble_eq_true rfl, Nat.le_of_ble_eq_true rfl⟩ (Nat.le_of_ble_eq_true rfl) ⟨by show k + 3 + 0 ≤ 601024; omega, by show sl + 18 + 0 ≤ 7293034; omega⟩ rfl dL_law_1090) (fun H locs hG => ?_)
  refine lv_istore (lv' := [(6, .int v.1), (5, .int u.1), (0, .ref b), (1, .ref (E.ad 0)), (2, .ref (E.ad 47)), (3, .ref ao), (4, .int (nI i))]) hx hb dL_law_1093 hl (by decide) rfl (fun ls hl => ?_)
  refine lv_aload_n hx hb dL_law_1095 rfl (lv_at hl 4 rfl) ?_
  refine af_I hG (run_V C hl.1 hG (m11_thrown E l v.2 (v.2 47 0) rfl) (rest := []) LM_99 rfl KC11 rfl ⟨Nat.le_of_ble_eq_true rfl, Nat.le_of_ble_eq_true rfl⟩ (Nat.le_of_ble_eq_true rfl) ⟨by show k + 3 + 0 + 0 ≤ 601024; omega, by show sl + 18 + 0 + 0 ≤ 7293034; omega⟩ rfl dL_law_1096) (fun H locs hG => ?_)
  refine lv_iload hx hb dL_law_1099 (lv_at hl 1 rfl) ?_
  refine lv_icmp_eq (tgt := 1106) hx hb dL_law_1101 (by decide) (fun _ => ?_) (fun c1 => absurd hth c1)
  refine lv_iload hx hb dL_law_1106 (lv_at hl 1 rfl) ?_
  refine lv_if_ne (tgt := 1123) hx hb dL_law_1108 (by decide) (fun _ => ?_) (fun h0 => ?_)
  · refine lv_goto (tgt := 1828) hx hb dL_law_1123 (by decide) ?_
    exact KK _ _ _ _ _ _ _ (by omega) (by omega) hI1 hG (lv_sub hl [2, 3, 4, 5, 6] rfl)
  · skip
    refine lv_aload_n hx hb dL_law_1111 rfl (lv_at hl 5 rfl) ?_
    refine lv_iconst (v := 0) hx hb dL_law_1112 (by decide) ?_
    refine r_out C hO hG dL_law_1113 ?_
    refine lv_iload hx hb dL_law_1114 (lv_at hl 0 rfl) ?_
    refine lv_i2l hx hb dL_law_1116 rfl ?_
    rw [hval h0]
    refine r_lcmpE C dL_law_1117 ?_
    refine lv_if_eq (tgt := 1123) hx hb dL_law_1118 (by decide) (fun _ => ?_) (fun c9 => absurd rfl c9)
    refine lv_goto (tgt := 1828) hx hb dL_law_1123 (by decide) ?_
    exact KK _ _ _ _ _ _ _ (by omega) (by omega) hI1 hG (lv_sub hl [2, 3, 4, 5, 6] rfl)
set_option maxRecDepth 100000 in
theorem cs_mirrorOfJob (hS : S_mirrorOfJob I) (hst : l.stackTraces = false) (C : Cx p s m #[Value.ref b] meth c cL_law 9 RL E) (hO : OT E tL ao s) (hao : s.heap.size ≤ ao) (hA9 : ¬ AA E s.heap.size b) (hX : va_X b L sc s s.heap) (hbl : b < s.heap.size) (hi : i + 5 < L) (hL : L ≤ 3072) (hI : I n g) (hG : Gd E s H locs g [oE tL ao f]) (hl : lv_has ls 9 [(0, .ref b), (1, .ref (E.ad 0)), (2, .ref (E.ad 47)), (3, .ref ao), (4, .int (nI i))]) (hk : k + 12 ≤ 601024 ∧ sl + 95 ≤ 7293034)
    (KK : ∀ (H1 : Heap) (locs1 : List Loc) (g1 : G) (f1 : Nat → Int64) (ls1 : Array Slot) (k1 s1 : Nat), k1 ≤ k + 12 → s1 ≤ sl + 95 → I (n + 1) g1 → Gd E s H1 locs1 g1 [oE tL ao f1] → lv_has ls1 9 [(0, .ref b), (1, .ref (E.ad 0)), (2, .ref (E.ad 47)), (3, .ref ao), (4, .int (nI i))] → W p l e room_1 s m #[Value.ref b] below meth c H1 locs1 k1 s1 Q (F0 m 1828 ls1 [])) : W p l e room_1 s m #[Value.ref b] below meth c H locs k sl Q (F0 m 1126 ls []) := by
  have hx := C.1
  have hb := C.2.1
  obtain ⟨u, v, hu, hv, hth, hval, hI1⟩ := hS n g f (sc (i + 1)) hI
  refine lv_aload_n hx hb dL_law_1126 rfl (lv_at hl 1 rfl) ?_
  refine r_arg (j := 1) C hX hbl hA9 hG.2.2 hl (k0 := 0) (k4 := 4) rfl rfl rfl (by omega) hL dL_law_1127 dL_law_1128 dL_law_1130 dL_law_1131 dL_law_1132 ?_
  refine lv_aload_n hx hb dL_law_1133 rfl (lv_at hl 3 rfl) ?_
  refine r_own C hl.1 hO hao hG [.ref (E.ad 0), .int (sc (i + 1)), .ref ao] [] (v_mirrorOfJob E tL ao l hst (sc (i + 1)) g f u hu) LS_185 rfl ⟨Nat.le_of_ble_eq_true rfl, Nat.le_of_ble_eq_true rfl⟩ (Nat.le_of_ble_eq_true rfl) ⟨by show k + 3 ≤ 601024; omega, by show sl + 18 ≤ 7293034; omega⟩ rfl dL_law_1134 (fun H locs hG => ?_)
  refine lv_istore (lv' := [(5, .int u.1), (0, .ref b), (1, .ref (E.ad 0)), (2, .ref (E.ad 47)), (3, .ref ao), (4, .int (nI i))]) hx hb dL_law_1137 hl (by decide) rfl (fun ls hl => ?_)
  refine lv_aload_n hx hb dL_law_1139 rfl (lv_at hl 3 rfl) ?_
  refine r_arg (j := 1) C hX hbl hA9 hG.2.2 hl (k0 := 1) (k4 := 5) rfl rfl rfl (by omega) hL dL_law_1140 dL_law_1141 dL_law_1143 dL_law_1144 dL_law_1145 ?_
  refine af_I hG (run_V C hl.1 hG (m11_mirrorOfJob E l (sc (i + 1)) u.2.1 v hv) (rest := []) LM_187 rfl KC11 rfl ⟨Nat.le_of_ble_eq_true rfl, Nat.le_of_ble_eq_true rfl⟩ (Nat.le_of_ble_eq_true rfl) ⟨by show k + 3 + 0 ≤ 601024; omega, by show sl + 18 + 0 ≤ 7293034; omega⟩ rfl dL_law_1146) (fun H locs hG => ?_)
  refine lv_istore (lv' := [(6, .int v.1), (5, .int u.1), (0, .ref b), (1, .ref (E.ad 0)), (2, .ref (E.ad 47)), (3, .ref ao), (4, .int (nI i))]) hx hb dL_law_1149 hl (by decide) rfl (fun ls hl => ?_)
  refine lv_aload_n hx hb dL_law_1151 rfl (lv_at hl 4 rfl) ?_
  refine af_I hG (run_V C hl.1 hG (m11_thrown E l v.2 (v.2 47 0) rfl) (rest := []) LM_99 rfl KC11 rfl ⟨Nat.le_of_ble_eq_true rfl, Nat.le_of_ble_eq_true rfl⟩ (Nat.le_of_ble_eq_true rfl) ⟨by show k + 3 + 0 + 0 ≤ 601024; omega, by show sl + 18 + 0 + 0 ≤ 7293034; omega⟩ rfl dL_law_1152) (fun H locs hG => ?_)
  refine lv_iload hx hb dL_law_1155 (lv_at hl 1 rfl) ?_
  refine lv_icmp_eq (tgt := 1162) hx hb dL_law_1157 (by decide) (fun _ => ?_) (fun c1 => absurd hth c1)
  refine lv_iload hx hb dL_law_1162 (lv_at hl 1 rfl) ?_
  refine lv_if_ne (tgt := 1179) hx hb dL_law_1164 (by decide) (fun _ => ?_) (fun h0 => ?_)
  · refine lv_goto (tgt := 1828) hx hb dL_law_1179 (by decide) ?_
    exact KK _ _ _ _ _ _ _ (by omega) (by omega) hI1 hG (lv_sub hl [2, 3, 4, 5, 6] rfl)
  · skip
    refine lv_aload_n hx hb dL_law_1167 rfl (lv_at hl 5 rfl) ?_
    refine lv_iconst (v := 0) hx hb dL_law_1168 (by decide) ?_
    refine r_out C hO hG dL_law_1169 ?_
    refine lv_iload hx hb dL_law_1170 (lv_at hl 0 rfl) ?_
    refine lv_i2l hx hb dL_law_1172 rfl ?_
    rw [hval h0]
    refine r_lcmpE C dL_law_1173 ?_
    refine lv_if_eq (tgt := 1179) hx hb dL_law_1174 (by decide) (fun _ => ?_) (fun c9 => absurd rfl c9)
    refine lv_goto (tgt := 1828) hx hb dL_law_1179 (by decide) ?_
    exact KK _ _ _ _ _ _ _ (by omega) (by omega) hI1 hG (lv_sub hl [2, 3, 4, 5, 6] rfl)
set_option maxRecDepth 100000 in
theorem cs_minutesToGo (hS : S_minutesToGo I) (hst : l.stackTraces = false) (C : Cx p s m #[Value.ref b] meth c cL_law 9 RL E) (hO : OT E tL ao s) (hao : s.heap.size ≤ ao) (hA9 : ¬ AA E s.heap.size b) (hX : va_X b L sc s s.heap) (hbl : b < s.heap.size) (hi : i + 5 < L) (hL : L ≤ 3072) (hI : I n g) (hG : Gd E s H locs g [oE tL ao f]) (hl : lv_has ls 9 [(0, .ref b), (1, .ref (E.ad 0)), (2, .ref (E.ad 47)), (3, .ref ao), (4, .int (nI i))]) (hk : k + 12 ≤ 601024 ∧ sl + 95 ≤ 7293034)
    (KK : ∀ (H1 : Heap) (locs1 : List Loc) (g1 : G) (f1 : Nat → Int64) (ls1 : Array Slot) (k1 s1 : Nat), k1 ≤ k + 12 → s1 ≤ sl + 95 → I (n + 1) g1 → Gd E s H1 locs1 g1 [oE tL ao f1] → lv_has ls1 9 [(0, .ref b), (1, .ref (E.ad 0)), (2, .ref (E.ad 47)), (3, .ref ao), (4, .int (nI i))] → W p l e room_1 s m #[Value.ref b] below meth c H1 locs1 k1 s1 Q (F0 m 1828 ls1 [])) : W p l e room_1 s m #[Value.ref b] below meth c H locs k sl Q (F0 m 1182 ls []) := by
  have hx := C.1
  have hb := C.2.1
  obtain ⟨u, v, hu, hv, hval, hI1⟩ := hS n g hI
  refine lv_aload_n hx hb dL_law_1182 rfl (lv_at hl 1 rfl) ?_
  refine af_I hG (run_V C hl.1 hG (m8_minutesToGo E l g u hu) (rest := []) LM_188 rfl KC8 rfl ⟨Nat.le_of_ble_eq_true rfl, Nat.le_of_ble_eq_true rfl⟩ (Nat.le_of_ble_eq_true rfl) ⟨by show k + 0 ≤ 601024; omega, by show sl + 0 ≤ 7293034; omega⟩ rfl dL_law_1183) (fun H locs hG => ?_)
  refine lv_aload_n hx hb dL_law_1186 rfl (lv_at hl 2 rfl) ?_
  refine af_I hG (run_V C hl.1 hG (m11_minutesToGo E l g v hv) (rest := [.int u]) LM_191 rfl KC11 rfl ⟨Nat.le_of_ble_eq_true rfl, Nat.le_of_ble_eq_true rfl⟩ (Nat.le_of_ble_eq_true rfl) ⟨by show k + 0 + 0 ≤ 601024; omega, by show sl + 0 + 0 ≤ 7293034; omega⟩ rfl dL_law_1187) (fun H locs hG => ?_)
  refine lv_icmp_eq (tgt := 1828) hx hb dL_law_1190 (by decide) (fun _ => ?_) (fun c1 => absurd hval c1)
  exact KK _ _ _ _ _ _ _ (by omega) (by omega) hI1 hG (lv_sub hl [0, 1, 2, 3, 4] rfl)
set_option maxRecDepth 100000 in
theorem cs_orderJob (hS : S_orderJob I) (hst : l.stackTraces = false) (C : Cx p s m #[Value.ref b] meth c cL_law 9 RL E) (hO : OT E tL ao s) (hao : s.heap.size ≤ ao) (hA9 : ¬ AA E s.heap.size b) (hX : va_X b L sc s s.heap) (hbl : b < s.heap.size) (hi : i + 5 < L) (hL : L ≤ 3072) (hI : I n g) (hG : Gd E s H locs g [oE tL ao f]) (hl : lv_has ls 9 [(0, .ref b), (1, .ref (E.ad 0)), (2, .ref (E.ad 47)), (3, .ref ao), (4, .int (nI i))]) (hk : k + 12 ≤ 601024 ∧ sl + 95 ≤ 7293034)
    (KK : ∀ (H1 : Heap) (locs1 : List Loc) (g1 : G) (f1 : Nat → Int64) (ls1 : Array Slot) (k1 s1 : Nat), k1 ≤ k + 12 → s1 ≤ sl + 95 → I (n + 1) g1 → Gd E s H1 locs1 g1 [oE tL ao f1] → lv_has ls1 9 [(0, .ref b), (1, .ref (E.ad 0)), (2, .ref (E.ad 47)), (3, .ref ao), (4, .int (nI i))] → W p l e room_1 s m #[Value.ref b] below meth c H1 locs1 k1 s1 Q (F0 m 1828 ls1 [])) : W p l e room_1 s m #[Value.ref b] below meth c H locs k sl Q (F0 m 1195 ls []) := by
  have hx := C.1
  have hb := C.2.1
  obtain ⟨u, v, hu, hv, hth, hval, hI1⟩ := hS n g f (sc (i + 1)) (sc (i + 2)) hI
  refine lv_aload_n hx hb dL_law_1195 rfl (lv_at hl 1 rfl) ?_
  refine r_arg (j := 1) C hX hbl hA9 hG.2.2 hl (k0 := 0) (k4 := 4) rfl rfl rfl (by omega) hL dL_law_1196 dL_law_1197 dL_law_1199 dL_law_1200 dL_law_1201 ?_
  refine r_arg (j := 2) C hX hbl hA9 hG.2.2 hl (k0 := 0) (k4 := 4) rfl rfl rfl (by omega) hL dL_law_1202 dL_law_1203 dL_law_1205 dL_law_1206 dL_law_1207 ?_
  refine lv_aload_n hx hb dL_law_1208 rfl (lv_at hl 3 rfl) ?_
  refine r_own C hl.1 hO hao hG [.ref (E.ad 0), .int (sc (i + 1)), .int (sc (i + 2)), .ref ao] [] (v_orderJob E tL ao l hst (sc (i + 1)) (sc (i + 2)) g f u hu) LS_192 rfl ⟨Nat.le_of_ble_eq_true rfl, Nat.le_of_ble_eq_true rfl⟩ (Nat.le_of_ble_eq_true rfl) ⟨by show k + 3 ≤ 601024; omega, by show sl + 18 ≤ 7293034; omega⟩ rfl dL_law_1209 (fun H locs hG => ?_)
  refine lv_istore (lv' := [(5, .int u.1), (0, .ref b), (1, .ref (E.ad 0)), (2, .ref (E.ad 47)), (3, .ref ao), (4, .int (nI i))]) hx hb dL_law_1212 hl (by decide) rfl (fun ls hl => ?_)
  refine lv_aload_n hx hb dL_law_1214 rfl (lv_at hl 3 rfl) ?_
  refine r_arg (j := 1) C hX hbl hA9 hG.2.2 hl (k0 := 1) (k4 := 5) rfl rfl rfl (by omega) hL dL_law_1215 dL_law_1216 dL_law_1218 dL_law_1219 dL_law_1220 ?_
  refine r_arg (j := 2) C hX hbl hA9 hG.2.2 hl (k0 := 1) (k4 := 5) rfl rfl rfl (by omega) hL dL_law_1221 dL_law_1222 dL_law_1224 dL_law_1225 dL_law_1226 ?_
  refine af_I hG (run_V C hl.1 hG (m11_orderJob E l (sc (i + 1)) (sc (i + 2)) u.2.1 v hv) (rest := []) LM_195 rfl KC11 rfl ⟨Nat.le_of_ble_eq_true rfl, Nat.le_of_ble_eq_true rfl⟩ (Nat.le_of_ble_eq_true rfl) ⟨by show k + 3 + 0 ≤ 601024; omega, by show sl + 18 + 0 ≤ 7293034; omega⟩ rfl dL_law_1227) (fun H locs hG => ?_)
  refine lv_istore (lv' := [(6, .int v.1), (5, .int u.1), (0, .ref b), (1, .ref (E.ad 0)), (2, .ref (E.ad 47)), (3, .ref ao), (4, .int (nI i))]) hx hb dL_law_1230 hl (by decide) rfl (fun ls hl => ?_)
  refine lv_aload_n hx hb dL_law_1232 rfl (lv_at hl 4 rfl) ?_
  refine af_I hG (run_V C hl.1 hG (m11_thrown E l v.2 (v.2 47 0) rfl) (rest := []) LM_99 rfl KC11 rfl ⟨Nat.le_of_ble_eq_true rfl, Nat.le_of_ble_eq_true rfl⟩ (Nat.le_of_ble_eq_true rfl) ⟨by show k + 3 + 0 + 0 ≤ 601024; omega, by show sl + 18 + 0 + 0 ≤ 7293034; omega⟩ rfl dL_law_1233) (fun H locs hG => ?_)
  refine lv_iload hx hb dL_law_1236 (lv_at hl 1 rfl) ?_
  refine lv_icmp_eq (tgt := 1243) hx hb dL_law_1238 (by decide) (fun _ => ?_) (fun c1 => absurd hth c1)
  refine lv_iload hx hb dL_law_1243 (lv_at hl 1 rfl) ?_
  refine lv_if_ne (tgt := 1260) hx hb dL_law_1245 (by decide) (fun _ => ?_) (fun h0 => ?_)
  · refine lv_goto (tgt := 1828) hx hb dL_law_1260 (by decide) ?_
    exact KK _ _ _ _ _ _ _ (by omega) (by omega) hI1 hG (lv_sub hl [2, 3, 4, 5, 6] rfl)
  · skip
    refine lv_aload_n hx hb dL_law_1248 rfl (lv_at hl 5 rfl) ?_
    refine lv_iconst (v := 0) hx hb dL_law_1249 (by decide) ?_
    refine r_out C hO hG dL_law_1250 ?_
    refine lv_iload hx hb dL_law_1251 (lv_at hl 0 rfl) ?_
    refine lv_i2l hx hb dL_law_1253 rfl ?_
    rw [hval h0]
    refine r_lcmpE C dL_law_1254 ?_
    refine lv_if_eq (tgt := 1260) hx hb dL_law_1255 (by decide) (fun _ => ?_) (fun c9 => absurd rfl c9)
    refine lv_goto (tgt := 1828) hx hb dL_law_1260 (by decide) ?_
    exact KK _ _ _ _ _ _ _ (by omega) (by omega) hI1 hG (lv_sub hl [2, 3, 4, 5, 6] rfl)
set_option maxRecDepth 100000 in
theorem cs_cancelJob (hS : S_cancelJob I) (hst : l.stackTraces = false) (C : Cx p s m #[Value.ref b] meth c cL_law 9 RL E) (hO : OT E tL ao s) (hao : s.heap.size ≤ ao) (hA9 : ¬ AA E s.heap.size b) (hX : va_X b L sc s s.heap) (hbl : b < s.heap.size) (hi : i + 5 < L) (hL : L ≤ 3072) (hI : I n g) (hG : Gd E s H locs g [oE tL ao f]) (hl : lv_has ls 9 [(0, .ref b), (1, .ref (E.ad 0)), (2, .ref (E.ad 47)), (3, .ref ao), (4, .int (nI i))]) (hk : k + 12 ≤ 601024 ∧ sl + 95 ≤ 7293034)
    (KK : ∀ (H1 : Heap) (locs1 : List Loc) (g1 : G) (f1 : Nat → Int64) (ls1 : Array Slot) (k1 s1 : Nat), k1 ≤ k + 12 → s1 ≤ sl + 95 → I (n + 1) g1 → Gd E s H1 locs1 g1 [oE tL ao f1] → lv_has ls1 9 [(0, .ref b), (1, .ref (E.ad 0)), (2, .ref (E.ad 47)), (3, .ref ao), (4, .int (nI i))] → W p l e room_1 s m #[Value.ref b] below meth c H1 locs1 k1 s1 Q (F0 m 1828 ls1 [])) : W p l e room_1 s m #[Value.ref b] below meth c H locs k sl Q (F0 m 1263 ls []) := by
  have hx := C.1
  have hb := C.2.1
  obtain ⟨u, v, hu, hv, hth, hval, hI1⟩ := hS n g f (sc (i + 1)) hI
  refine lv_aload_n hx hb dL_law_1263 rfl (lv_at hl 1 rfl) ?_
  refine r_arg (j := 1) C hX hbl hA9 hG.2.2 hl (k0 := 0) (k4 := 4) rfl rfl rfl (by omega) hL dL_law_1264 dL_law_1265 dL_law_1267 dL_law_1268 dL_law_1269 ?_
  refine lv_aload_n hx hb dL_law_1270 rfl (lv_at hl 3 rfl) ?_
  refine r_own C hl.1 hO hao hG [.ref (E.ad 0), .int (sc (i + 1)), .ref ao] [] (v_cancelJob E tL ao l hst (sc (i + 1)) g f u hu) LS_196 rfl ⟨Nat.le_of_ble_eq_true rfl, Nat.le_of_ble_eq_true rfl⟩ (Nat.le_of_ble_eq_true rfl) ⟨by show k + 3 ≤ 601024; omega, by show sl + 18 ≤ 7293034; omega⟩ rfl dL_law_1271 (fun H locs hG => ?_)
  refine lv_istore (lv' := [(5, .int u.1), (0, .ref b), (1, .ref (E.ad 0)), (2, .ref (E.ad 47)), (3, .ref ao), (4, .int (nI i))]) hx hb dL_law_1274 hl (by decide) rfl (fun ls hl => ?_)
  refine lv_aload_n hx hb dL_law_1276 rfl (lv_at hl 3 rfl) ?_
  refine r_arg (j := 1) C hX hbl hA9 hG.2.2 hl (k0 := 1) (k4 := 5) rfl rfl rfl (by omega) hL dL_law_1277 dL_law_1278 dL_law_1280 dL_law_1281 dL_law_1282 ?_
  refine af_I hG (run_V C hl.1 hG (m11_cancelJob E l (sc (i + 1)) u.2.1 v hv) (rest := []) LM_198 rfl KC11 rfl ⟨Nat.le_of_ble_eq_true rfl, Nat.le_of_ble_eq_true rfl⟩ (Nat.le_of_ble_eq_true rfl) ⟨by show k + 3 + 0 ≤ 601024; omega, by show sl + 18 + 0 ≤ 7293034; omega⟩ rfl dL_law_1283) (fun H locs hG => ?_)
  refine lv_istore (lv' := [(6, .int v.1), (5, .int u.1), (0, .ref b), (1, .ref (E.ad 0)), (2, .ref (E.ad 47)), (3, .ref ao), (4, .int (nI i))]) hx hb dL_law_1286 hl (by decide) rfl (fun ls hl => ?_)
  refine lv_aload_n hx hb dL_law_1288 rfl (lv_at hl 4 rfl) ?_
  refine af_I hG (run_V C hl.1 hG (m11_thrown E l v.2 (v.2 47 0) rfl) (rest := []) LM_99 rfl KC11 rfl ⟨Nat.le_of_ble_eq_true rfl, Nat.le_of_ble_eq_true rfl⟩ (Nat.le_of_ble_eq_true rfl) ⟨by show k + 3 + 0 + 0 ≤ 601024; omega, by show sl + 18 + 0 + 0 ≤ 7293034; omega⟩ rfl dL_law_1289) (fun H locs hG => ?_)
  refine lv_iload hx hb dL_law_1292 (lv_at hl 1 rfl) ?_
  refine lv_icmp_eq (tgt := 1299) hx hb dL_law_1294 (by decide) (fun _ => ?_) (fun c1 => absurd hth c1)
  refine lv_iload hx hb dL_law_1299 (lv_at hl 1 rfl) ?_
  refine lv_if_ne (tgt := 1316) hx hb dL_law_1301 (by decide) (fun _ => ?_) (fun h0 => ?_)
  · refine lv_goto (tgt := 1828) hx hb dL_law_1316 (by decide) ?_
    exact KK _ _ _ _ _ _ _ (by omega) (by omega) hI1 hG (lv_sub hl [2, 3, 4, 5, 6] rfl)
  · skip
    refine lv_aload_n hx hb dL_law_1304 rfl (lv_at hl 5 rfl) ?_
    refine lv_iconst (v := 0) hx hb dL_law_1305 (by decide) ?_
    refine r_out C hO hG dL_law_1306 ?_
    refine lv_iload hx hb dL_law_1307 (lv_at hl 0 rfl) ?_
    refine lv_i2l hx hb dL_law_1309 rfl ?_
    rw [hval h0]
    refine r_lcmpE C dL_law_1310 ?_
    refine lv_if_eq (tgt := 1316) hx hb dL_law_1311 (by decide) (fun _ => ?_) (fun c9 => absurd rfl c9)
    refine lv_goto (tgt := 1828) hx hb dL_law_1316 (by decide) ?_
    exact KK _ _ _ _ _ _ _ (by omega) (by omega) hI1 hG (lv_sub hl [2, 3, 4, 5, 6] rfl)
set_option maxRecDepth 100000 in
theorem cs_turnMirror (hS : S_turnMirror I) (hst : l.stackTraces = false) (C : Cx p s m #[Value.ref b] meth c cL_law 9 RL E) (hO : OT E tL ao s) (hao : s.heap.size ≤ ao) (hA9 : ¬ AA E s.heap.size b) (hX : va_X b L sc s s.heap) (hbl : b < s.heap.size) (hi : i + 5 < L) (hL : L ≤ 3072) (hI : I n g) (hG : Gd E s H locs g [oE tL ao f]) (hl : lv_has ls 9 [(0, .ref b), (1, .ref (E.ad 0)), (2, .ref (E.ad 47)), (3, .ref ao), (4, .int (nI i))]) (hk : k + 12 ≤ 601024 ∧ sl + 95 ≤ 7293034)
    (KK : ∀ (H1 : Heap) (locs1 : List Loc) (g1 : G) (f1 : Nat → Int64) (ls1 : Array Slot) (k1 s1 : Nat), k1 ≤ k + 12 → s1 ≤ sl + 95 → I (n + 1) g1 → Gd E s H1 locs1 g1 [oE tL ao f1] → lv_has ls1 9 [(0, .ref b), (1, .ref (E.ad 0)), (2, .ref (E.ad 47)), (3, .ref ao), (4, .int (nI i))] → W p l e room_1 s m #[Value.ref b] below meth c H1 locs1 k1 s1 Q (F0 m 1828 ls1 [])) : W p l e room_1 s m #[Value.ref b] below meth c H locs k sl Q (F0 m 1319 ls []) := by
  have hx := C.1
  have hb := C.2.1
  obtain ⟨u, v, hu, hv, hth, hval, hI1⟩ := hS n g f (sc (i + 1)) (sc (i + 2)) hI
  refine lv_aload_n hx hb dL_law_1319 rfl (lv_at hl 1 rfl) ?_
  refine r_arg (j := 1) C hX hbl hA9 hG.2.2 hl (k0 := 0) (k4 := 4) rfl rfl rfl (by omega) hL dL_law_1320 dL_law_1321 dL_law_1323 dL_law_1324 dL_law_1325 ?_
  refine r_arg (j := 2) C hX hbl hA9 hG.2.2 hl (k0 := 0) (k4 := 4) rfl rfl rfl (by omega) hL dL_law_1326 dL_law_1327 dL_law_1329 dL_law_1330 dL_law_1331 ?_
  refine lv_aload_n hx hb dL_law_1332 rfl (lv_at hl 3 rfl) ?_
  refine r_own C hl.1 hO hao hG [.ref (E.ad 0), .int (sc (i + 1)), .int (sc (i + 2)), .ref ao] [] (v_turnMirror E tL ao l hst (sc (i + 1)) (sc (i + 2)) g f u hu) LS_199 rfl ⟨Nat.le_of_ble_eq_true rfl, Nat.le_of_ble_eq_true rfl⟩ (Nat.le_of_ble_eq_true rfl) ⟨by show k + 3 ≤ 601024; omega, by show sl + 18 ≤ 7293034; omega⟩ rfl dL_law_1333 (fun H locs hG => ?_)
  refine lv_istore (lv' := [(5, .int u.1), (0, .ref b), (1, .ref (E.ad 0)), (2, .ref (E.ad 47)), (3, .ref ao), (4, .int (nI i))]) hx hb dL_law_1336 hl (by decide) rfl (fun ls hl => ?_)
  refine lv_aload_n hx hb dL_law_1338 rfl (lv_at hl 3 rfl) ?_
  refine r_arg (j := 1) C hX hbl hA9 hG.2.2 hl (k0 := 1) (k4 := 5) rfl rfl rfl (by omega) hL dL_law_1339 dL_law_1340 dL_law_1342 dL_law_1343 dL_law_1344 ?_
  refine r_arg (j := 2) C hX hbl hA9 hG.2.2 hl (k0 := 1) (k4 := 5) rfl rfl rfl (by omega) hL dL_law_1345 dL_law_1346 dL_law_1348 dL_law_1349 dL_law_1350 ?_
  refine af_I hG (run_V C hl.1 hG (m11_turnMirror E l (sc (i + 1)) (sc (i + 2)) u.2.1 v hv) (rest := []) LM_201 rfl KC11 rfl ⟨Nat.le_of_ble_eq_true rfl, Nat.le_of_ble_eq_true rfl⟩ (Nat.le_of_ble_eq_true rfl) ⟨by show k + 3 + 0 ≤ 601024; omega, by show sl + 18 + 0 ≤ 7293034; omega⟩ rfl dL_law_1351) (fun H locs hG => ?_)
  refine lv_istore (lv' := [(6, .int v.1), (5, .int u.1), (0, .ref b), (1, .ref (E.ad 0)), (2, .ref (E.ad 47)), (3, .ref ao), (4, .int (nI i))]) hx hb dL_law_1354 hl (by decide) rfl (fun ls hl => ?_)
  refine lv_aload_n hx hb dL_law_1356 rfl (lv_at hl 4 rfl) ?_
  refine af_I hG (run_V C hl.1 hG (m11_thrown E l v.2 (v.2 47 0) rfl) (rest := []) LM_99 rfl KC11 rfl ⟨Nat.le_of_ble_eq_true rfl, Nat.le_of_ble_eq_true rfl⟩ (Nat.le_of_ble_eq_true rfl) ⟨by show k + 3 + 0 + 0 ≤ 601024; omega, by show sl + 18 + 0 + 0 ≤ 7293034; omega⟩ rfl dL_law_1357) (fun H locs hG => ?_)
  refine lv_iload hx hb dL_law_1360 (lv_at hl 1 rfl) ?_
  refine lv_icmp_eq (tgt := 1367) hx hb dL_law_1362 (by decide) (fun _ => ?_) (fun c1 => absurd hth c1)
  refine lv_iload hx hb dL_law_1367 (lv_at hl 1 rfl) ?_
  refine lv_if_ne (tgt := 1384) hx hb dL_law_1369 (by decide) (fun _ => ?_) (fun h0 => ?_)
  · refine lv_goto (tgt := 1828) hx hb dL_law_1384 (by decide) ?_
    exact KK _ _ _ _ _ _ _ (by omega) (by omega) hI1 hG (lv_sub hl [2, 3, 4, 5, 6] rfl)
  · skip
    refine lv_aload_n hx hb dL_law_1372 rfl (lv_at hl 5 rfl) ?_
    refine lv_iconst (v := 0) hx hb dL_law_1373 (by decide) ?_
    refine r_out C hO hG dL_law_1374 ?_
    refine lv_iload hx hb dL_law_1375 (lv_at hl 0 rfl) ?_
    refine lv_i2l hx hb dL_law_1377 rfl ?_
    rw [hval h0]
    refine r_lcmpE C dL_law_1378 ?_
    refine lv_if_eq (tgt := 1384) hx hb dL_law_1379 (by decide) (fun _ => ?_) (fun c9 => absurd rfl c9)
    refine lv_goto (tgt := 1828) hx hb dL_law_1384 (by decide) ?_
    exact KK _ _ _ _ _ _ _ (by omega) (by omega) hI1 hG (lv_sub hl [2, 3, 4, 5, 6] rfl)
set_option maxRecDepth 100000 in
theorem cs_dustMirror (hS : S_dustMirror I) (hst : l.stackTraces = false) (C : Cx p s m #[Value.ref b] meth c cL_law 9 RL E) (hO : OT E tL ao s) (hao : s.heap.size ≤ ao) (hA9 : ¬ AA E s.heap.size b) (hX : va_X b L sc s s.heap) (hbl : b < s.heap.size) (hi : i + 5 < L) (hL : L ≤ 3072) (hI : I n g) (hG : Gd E s H locs g [oE tL ao f]) (hl : lv_has ls 9 [(0, .ref b), (1, .ref (E.ad 0)), (2, .ref (E.ad 47)), (3, .ref ao), (4, .int (nI i))]) (hk : k + 12 ≤ 601024 ∧ sl + 95 ≤ 7293034)
    (KK : ∀ (H1 : Heap) (locs1 : List Loc) (g1 : G) (f1 : Nat → Int64) (ls1 : Array Slot) (k1 s1 : Nat), k1 ≤ k + 12 → s1 ≤ sl + 95 → I (n + 1) g1 → Gd E s H1 locs1 g1 [oE tL ao f1] → lv_has ls1 9 [(0, .ref b), (1, .ref (E.ad 0)), (2, .ref (E.ad 47)), (3, .ref ao), (4, .int (nI i))] → W p l e room_1 s m #[Value.ref b] below meth c H1 locs1 k1 s1 Q (F0 m 1828 ls1 [])) : W p l e room_1 s m #[Value.ref b] below meth c H locs k sl Q (F0 m 1387 ls []) := by
  have hx := C.1
  have hb := C.2.1
  obtain ⟨u, v, hu, hv, hth, hval, hI1⟩ := hS n g f (sc (i + 1)) (sc (i + 2)) hI
  refine lv_aload_n hx hb dL_law_1387 rfl (lv_at hl 1 rfl) ?_
  refine r_arg (j := 1) C hX hbl hA9 hG.2.2 hl (k0 := 0) (k4 := 4) rfl rfl rfl (by omega) hL dL_law_1388 dL_law_1389 dL_law_1391 dL_law_1392 dL_law_1393 ?_
  refine r_arg (j := 2) C hX hbl hA9 hG.2.2 hl (k0 := 0) (k4 := 4) rfl rfl rfl (by omega) hL dL_law_1394 dL_law_1395 dL_law_1397 dL_law_1398 dL_law_1399 ?_
  refine lv_aload_n hx hb dL_law_1400 rfl (lv_at hl 3 rfl) ?_
  refine r_own C hl.1 hO hao hG [.ref (E.ad 0), .int (sc (i + 1)), .int (sc (i + 2)), .ref ao] [] (v_dustMirror E tL ao l hst (sc (i + 1)) (sc (i + 2)) g f u hu) LS_202 rfl ⟨Nat.le_of_ble_eq_true rfl, Nat.le_of_ble_eq_true rfl⟩ (Nat.le_of_ble_eq_true rfl) ⟨by show k + 3 ≤ 601024; omega, by show sl + 18 ≤ 7293034; omega⟩ rfl dL_law_1401 (fun H locs hG => ?_)
  refine lv_istore (lv' := [(5, .int u.1), (0, .ref b), (1, .ref (E.ad 0)), (2, .ref (E.ad 47)), (3, .ref ao), (4, .int (nI i))]) hx hb dL_law_1404 hl (by decide) rfl (fun ls hl => ?_)
  refine lv_aload_n hx hb dL_law_1406 rfl (lv_at hl 3 rfl) ?_
  refine r_arg (j := 1) C hX hbl hA9 hG.2.2 hl (k0 := 1) (k4 := 5) rfl rfl rfl (by omega) hL dL_law_1407 dL_law_1408 dL_law_1410 dL_law_1411 dL_law_1412 ?_
  refine r_arg (j := 2) C hX hbl hA9 hG.2.2 hl (k0 := 1) (k4 := 5) rfl rfl rfl (by omega) hL dL_law_1413 dL_law_1414 dL_law_1416 dL_law_1417 dL_law_1418 ?_
  refine af_I hG (run_V C hl.1 hG (m11_dustMirror E l (sc (i + 1)) (sc (i + 2)) u.2.1 v hv) (rest := []) LM_204 rfl KC11 rfl ⟨Nat.le_of_ble_eq_true rfl, Nat.le_of_ble_eq_true rfl⟩ (Nat.le_of_ble_eq_true rfl) ⟨by show k + 3 + 0 ≤ 601024; omega, by show sl + 18 + 0 ≤ 7293034; omega⟩ rfl dL_law_1419) (fun H locs hG => ?_)
  refine lv_istore (lv' := [(6, .int v.1), (5, .int u.1), (0, .ref b), (1, .ref (E.ad 0)), (2, .ref (E.ad 47)), (3, .ref ao), (4, .int (nI i))]) hx hb dL_law_1422 hl (by decide) rfl (fun ls hl => ?_)
  refine lv_aload_n hx hb dL_law_1424 rfl (lv_at hl 4 rfl) ?_
  refine af_I hG (run_V C hl.1 hG (m11_thrown E l v.2 (v.2 47 0) rfl) (rest := []) LM_99 rfl KC11 rfl ⟨Nat.le_of_ble_eq_true rfl, Nat.le_of_ble_eq_true rfl⟩ (Nat.le_of_ble_eq_true rfl) ⟨by show k + 3 + 0 + 0 ≤ 601024; omega, by show sl + 18 + 0 + 0 ≤ 7293034; omega⟩ rfl dL_law_1425) (fun H locs hG => ?_)
  refine lv_iload hx hb dL_law_1428 (lv_at hl 1 rfl) ?_
  refine lv_icmp_eq (tgt := 1435) hx hb dL_law_1430 (by decide) (fun _ => ?_) (fun c1 => absurd hth c1)
  refine lv_iload hx hb dL_law_1435 (lv_at hl 1 rfl) ?_
  refine lv_if_ne (tgt := 1452) hx hb dL_law_1437 (by decide) (fun _ => ?_) (fun h0 => ?_)
  · refine lv_goto (tgt := 1828) hx hb dL_law_1452 (by decide) ?_
    exact KK _ _ _ _ _ _ _ (by omega) (by omega) hI1 hG (lv_sub hl [2, 3, 4, 5, 6] rfl)
  · skip
    refine lv_aload_n hx hb dL_law_1440 rfl (lv_at hl 5 rfl) ?_
    refine lv_iconst (v := 0) hx hb dL_law_1441 (by decide) ?_
    refine r_out C hO hG dL_law_1442 ?_
    refine lv_iload hx hb dL_law_1443 (lv_at hl 0 rfl) ?_
    refine lv_i2l hx hb dL_law_1445 rfl ?_
    rw [hval h0]
    refine r_lcmpE C dL_law_1446 ?_
    refine lv_if_eq (tgt := 1452) hx hb dL_law_1447 (by decide) (fun _ => ?_) (fun c9 => absurd rfl c9)
    refine lv_goto (tgt := 1828) hx hb dL_law_1452 (by decide) ?_
    exact KK _ _ _ _ _ _ _ (by omega) (by omega) hI1 hG (lv_sub hl [2, 3, 4, 5, 6] rfl)
set_option maxRecDepth 100000 in
theorem cs_moveMirror (hS : S_moveMirror I) (hst : l.stackTraces = false) (C : Cx p s m #[Value.ref b] meth c cL_law 9 RL E) (hO : OT E tL ao s) (hao : s.heap.size ≤ ao) (hA9 : ¬ AA E s.heap.size b) (hX : va_X b L sc s s.heap) (hbl : b < s.heap.size) (hi : i + 5 < L) (hL : L ≤ 3072) (hI : I n g) (hG : Gd E s H locs g [oE tL ao f]) (hl : lv_has ls 9 [(0, .ref b), (1, .ref (E.ad 0)), (2, .ref (E.ad 47)), (3, .ref ao), (4, .int (nI i))]) (hk : k + 12 ≤ 601024 ∧ sl + 95 ≤ 7293034)
    (KK : ∀ (H1 : Heap) (locs1 : List Loc) (g1 : G) (f1 : Nat → Int64) (ls1 : Array Slot) (k1 s1 : Nat), k1 ≤ k + 12 → s1 ≤ sl + 95 → I (n + 1) g1 → Gd E s H1 locs1 g1 [oE tL ao f1] → lv_has ls1 9 [(0, .ref b), (1, .ref (E.ad 0)), (2, .ref (E.ad 47)), (3, .ref ao), (4, .int (nI i))] → W p l e room_1 s m #[Value.ref b] below meth c H1 locs1 k1 s1 Q (F0 m 1828 ls1 [])) : W p l e room_1 s m #[Value.ref b] below meth c H locs k sl Q (F0 m 1455 ls []) := by
  have hx := C.1
  have hb := C.2.1
  obtain ⟨u, v, hu, hv, hth, hval, hI1⟩ := hS n g f (sc (i + 1)) (sc (i + 2)) hI
  refine lv_aload_n hx hb dL_law_1455 rfl (lv_at hl 1 rfl) ?_
  refine r_arg (j := 1) C hX hbl hA9 hG.2.2 hl (k0 := 0) (k4 := 4) rfl rfl rfl (by omega) hL dL_law_1456 dL_law_1457 dL_law_1459 dL_law_1460 dL_law_1461 ?_
  refine r_arg (j := 2) C hX hbl hA9 hG.2.2 hl (k0 := 0) (k4 := 4) rfl rfl rfl (by omega) hL dL_law_1462 dL_law_1463 dL_law_1465 dL_law_1466 dL_law_1467 ?_
  refine lv_aload_n hx hb dL_law_1468 rfl (lv_at hl 3 rfl) ?_
  refine r_own C hl.1 hO hao hG [.ref (E.ad 0), .int (sc (i + 1)), .int (sc (i + 2)), .ref ao] [] (v_moveMirror E tL ao l hst (sc (i + 1)) (sc (i + 2)) g f u hu) LS_205 rfl ⟨Nat.le_of_ble_eq_true rfl, Nat.le_of_ble_eq_true rfl⟩ (Nat.le_of_ble_eq_true rfl) ⟨by show k + 3 ≤ 601024; omega, by show sl + 18 ≤ 7293034; omega⟩ rfl dL_law_1469 (fun H locs hG => ?_)
  refine lv_istore (lv' := [(5, .int u.1), (0, .ref b), (1, .ref (E.ad 0)), (2, .ref (E.ad 47)), (3, .ref ao), (4, .int (nI i))]) hx hb dL_law_1472 hl (by decide) rfl (fun ls hl => ?_)
  refine lv_aload_n hx hb dL_law_1474 rfl (lv_at hl 3 rfl) ?_
  refine r_arg (j := 1) C hX hbl hA9 hG.2.2 hl (k0 := 1) (k4 := 5) rfl rfl rfl (by omega) hL dL_law_1475 dL_law_1476 dL_law_1478 dL_law_1479 dL_law_1480 ?_
  refine r_arg (j := 2) C hX hbl hA9 hG.2.2 hl (k0 := 1) (k4 := 5) rfl rfl rfl (by omega) hL dL_law_1481 dL_law_1482 dL_law_1484 dL_law_1485 dL_law_1486 ?_
  refine af_I hG (run_V C hl.1 hG (m11_moveMirror E l (sc (i + 1)) (sc (i + 2)) u.2.1 v hv) (rest := []) LM_207 rfl KC11 rfl ⟨Nat.le_of_ble_eq_true rfl, Nat.le_of_ble_eq_true rfl⟩ (Nat.le_of_ble_eq_true rfl) ⟨by show k + 3 + 0 ≤ 601024; omega, by show sl + 18 + 0 ≤ 7293034; omega⟩ rfl dL_law_1487) (fun H locs hG => ?_)
  refine lv_istore (lv' := [(6, .int v.1), (5, .int u.1), (0, .ref b), (1, .ref (E.ad 0)), (2, .ref (E.ad 47)), (3, .ref ao), (4, .int (nI i))]) hx hb dL_law_1490 hl (by decide) rfl (fun ls hl => ?_)
  refine lv_aload_n hx hb dL_law_1492 rfl (lv_at hl 4 rfl) ?_
  refine af_I hG (run_V C hl.1 hG (m11_thrown E l v.2 (v.2 47 0) rfl) (rest := []) LM_99 rfl KC11 rfl ⟨Nat.le_of_ble_eq_true rfl, Nat.le_of_ble_eq_true rfl⟩ (Nat.le_of_ble_eq_true rfl) ⟨by show k + 3 + 0 + 0 ≤ 601024; omega, by show sl + 18 + 0 + 0 ≤ 7293034; omega⟩ rfl dL_law_1493) (fun H locs hG => ?_)
  refine lv_iload hx hb dL_law_1496 (lv_at hl 1 rfl) ?_
  refine lv_icmp_eq (tgt := 1503) hx hb dL_law_1498 (by decide) (fun _ => ?_) (fun c1 => absurd hth c1)
  refine lv_iload hx hb dL_law_1503 (lv_at hl 1 rfl) ?_
  refine lv_if_ne (tgt := 1520) hx hb dL_law_1505 (by decide) (fun _ => ?_) (fun h0 => ?_)
  · refine lv_goto (tgt := 1828) hx hb dL_law_1520 (by decide) ?_
    exact KK _ _ _ _ _ _ _ (by omega) (by omega) hI1 hG (lv_sub hl [2, 3, 4, 5, 6] rfl)
  · skip
    refine lv_aload_n hx hb dL_law_1508 rfl (lv_at hl 5 rfl) ?_
    refine lv_iconst (v := 0) hx hb dL_law_1509 (by decide) ?_
    refine r_out C hO hG dL_law_1510 ?_
    refine lv_iload hx hb dL_law_1511 (lv_at hl 0 rfl) ?_
    refine lv_i2l hx hb dL_law_1513 rfl ?_
    rw [hval h0]
    refine r_lcmpE C dL_law_1514 ?_
    refine lv_if_eq (tgt := 1520) hx hb dL_law_1515 (by decide) (fun _ => ?_) (fun c9 => absurd rfl c9)
    refine lv_goto (tgt := 1828) hx hb dL_law_1520 (by decide) ?_
    exact KK _ _ _ _ _ _ _ (by omega) (by omega) hI1 hG (lv_sub hl [2, 3, 4, 5, 6] rfl)
set_option maxRecDepth 100000 in
theorem cs_passMinutes (hS : S_passMinutes I) (hst : l.stackTraces = false) (C : Cx p s m #[Value.ref b] meth c cL_law 9 RL E) (hO : OT E tL ao s) (hao : s.heap.size ≤ ao) (hA9 : ¬ AA E s.heap.size b) (hX : va_X b L sc s s.heap) (hbl : b < s.heap.size) (hi : i + 5 < L) (hL : L ≤ 3072) (hI : I n g) (hG : Gd E s H locs g [oE tL ao f]) (hl : lv_has ls 9 [(0, .ref b), (1, .ref (E.ad 0)), (2, .ref (E.ad 47)), (3, .ref ao), (4, .int (nI i))]) (hk : k + 12 ≤ 601024 ∧ sl + 95 ≤ 7293034)
    (KK : ∀ (H1 : Heap) (locs1 : List Loc) (g1 : G) (f1 : Nat → Int64) (ls1 : Array Slot) (k1 s1 : Nat), k1 ≤ k + 12 → s1 ≤ sl + 95 → I (n + 1) g1 → Gd E s H1 locs1 g1 [oE tL ao f1] → lv_has ls1 9 [(0, .ref b), (1, .ref (E.ad 0)), (2, .ref (E.ad 47)), (3, .ref ao), (4, .int (nI i))] → W p l e room_1 s m #[Value.ref b] below meth c H1 locs1 k1 s1 Q (F0 m 1828 ls1 [])) : W p l e room_1 s m #[Value.ref b] below meth c H locs k sl Q (F0 m 1523 ls []) := by
  have hx := C.1
  have hb := C.2.1
  obtain ⟨u, v, hu, hv, hth, hval, hI1⟩ := hS n g f (sc (i + 1)) hI
  refine lv_aload_n hx hb dL_law_1523 rfl (lv_at hl 1 rfl) ?_
  refine r_arg (j := 1) C hX hbl hA9 hG.2.2 hl (k0 := 0) (k4 := 4) rfl rfl rfl (by omega) hL dL_law_1524 dL_law_1525 dL_law_1527 dL_law_1528 dL_law_1529 ?_
  refine lv_aload_n hx hb dL_law_1530 rfl (lv_at hl 3 rfl) ?_
  refine r_own C hl.1 hO hao hG [.ref (E.ad 0), .int (sc (i + 1)), .ref ao] [] (v_passMinutes E tL ao l hst (sc (i + 1)) g f u hu) LS_208 rfl ⟨Nat.le_of_ble_eq_true rfl, Nat.le_of_ble_eq_true rfl⟩ (Nat.le_of_ble_eq_true rfl) ⟨by show k + 3 ≤ 601024; omega, by show sl + 18 ≤ 7293034; omega⟩ rfl dL_law_1531 (fun H locs hG => ?_)
  refine lv_istore (lv' := [(5, .int u.1), (0, .ref b), (1, .ref (E.ad 0)), (2, .ref (E.ad 47)), (3, .ref ao), (4, .int (nI i))]) hx hb dL_law_1534 hl (by decide) rfl (fun ls hl => ?_)
  refine lv_aload_n hx hb dL_law_1536 rfl (lv_at hl 3 rfl) ?_
  refine r_arg (j := 1) C hX hbl hA9 hG.2.2 hl (k0 := 1) (k4 := 5) rfl rfl rfl (by omega) hL dL_law_1537 dL_law_1538 dL_law_1540 dL_law_1541 dL_law_1542 ?_
  refine af_I hG (run_V C hl.1 hG (m11_passMinutes E l (sc (i + 1)) u.2.1 v hv) (rest := []) LM_210 rfl KC11 rfl ⟨Nat.le_of_ble_eq_true rfl, Nat.le_of_ble_eq_true rfl⟩ (Nat.le_of_ble_eq_true rfl) ⟨by show k + 3 + 0 ≤ 601024; omega, by show sl + 18 + 0 ≤ 7293034; omega⟩ rfl dL_law_1543) (fun H locs hG => ?_)
  refine lv_istore (lv' := [(6, .int v.1), (5, .int u.1), (0, .ref b), (1, .ref (E.ad 0)), (2, .ref (E.ad 47)), (3, .ref ao), (4, .int (nI i))]) hx hb dL_law_1546 hl (by decide) rfl (fun ls hl => ?_)
  refine lv_aload_n hx hb dL_law_1548 rfl (lv_at hl 4 rfl) ?_
  refine af_I hG (run_V C hl.1 hG (m11_thrown E l v.2 (v.2 47 0) rfl) (rest := []) LM_99 rfl KC11 rfl ⟨Nat.le_of_ble_eq_true rfl, Nat.le_of_ble_eq_true rfl⟩ (Nat.le_of_ble_eq_true rfl) ⟨by show k + 3 + 0 + 0 ≤ 601024; omega, by show sl + 18 + 0 + 0 ≤ 7293034; omega⟩ rfl dL_law_1549) (fun H locs hG => ?_)
  refine lv_iload hx hb dL_law_1552 (lv_at hl 1 rfl) ?_
  refine lv_icmp_eq (tgt := 1559) hx hb dL_law_1554 (by decide) (fun _ => ?_) (fun c1 => absurd hth c1)
  refine lv_iload hx hb dL_law_1559 (lv_at hl 1 rfl) ?_
  refine lv_if_ne (tgt := 1576) hx hb dL_law_1561 (by decide) (fun _ => ?_) (fun h0 => ?_)
  · refine lv_goto (tgt := 1828) hx hb dL_law_1576 (by decide) ?_
    exact KK _ _ _ _ _ _ _ (by omega) (by omega) hI1 hG (lv_sub hl [2, 3, 4, 5, 6] rfl)
  · skip
    refine lv_aload_n hx hb dL_law_1564 rfl (lv_at hl 5 rfl) ?_
    refine lv_iconst (v := 0) hx hb dL_law_1565 (by decide) ?_
    refine r_out C hO hG dL_law_1566 ?_
    refine lv_iload hx hb dL_law_1567 (lv_at hl 0 rfl) ?_
    refine lv_i2l hx hb dL_law_1569 rfl ?_
    rw [hval h0]
    refine r_lcmpE C dL_law_1570 ?_
    refine lv_if_eq (tgt := 1576) hx hb dL_law_1571 (by decide) (fun _ => ?_) (fun c9 => absurd rfl c9)
    refine lv_goto (tgt := 1828) hx hb dL_law_1576 (by decide) ?_
    exact KK _ _ _ _ _ _ _ (by omega) (by omega) hI1 hG (lv_sub hl [2, 3, 4, 5, 6] rfl)
set_option maxRecDepth 100000 in
theorem cs_lightAfter (hS : S_lightAfter I) (hst : l.stackTraces = false) (C : Cx p s m #[Value.ref b] meth c cL_law 9 RL E) (hO : OT E tL ao s) (hao : s.heap.size ≤ ao) (hA9 : ¬ AA E s.heap.size b) (hX : va_X b L sc s s.heap) (hbl : b < s.heap.size) (hi : i + 5 < L) (hL : L ≤ 3072) (hI : I n g) (hG : Gd E s H locs g [oE tL ao f]) (hl : lv_has ls 9 [(0, .ref b), (1, .ref (E.ad 0)), (2, .ref (E.ad 47)), (3, .ref ao), (4, .int (nI i))]) (hk : k + 12 ≤ 601024 ∧ sl + 95 ≤ 7293034)
    (KK : ∀ (H1 : Heap) (locs1 : List Loc) (g1 : G) (f1 : Nat → Int64) (ls1 : Array Slot) (k1 s1 : Nat), k1 ≤ k + 12 → s1 ≤ sl + 95 → I (n + 1) g1 → Gd E s H1 locs1 g1 [oE tL ao f1] → lv_has ls1 9 [(0, .ref b), (1, .ref (E.ad 0)), (2, .ref (E.ad 47)), (3, .ref ao), (4, .int (nI i))] → W p l e room_1 s m #[Value.ref b] below meth c H1 locs1 k1 s1 Q (F0 m 1828 ls1 [])) : W p l e room_1 s m #[Value.ref b] below meth c H locs k sl Q (F0 m 1579 ls []) := by
  have hx := C.1
  have hb := C.2.1
  obtain ⟨u, v, hu, hv, hth, hval, hI1⟩ := hS n g f (sc (i + 1)) hI
  refine lv_aload_n hx hb dL_law_1579 rfl (lv_at hl 1 rfl) ?_
  refine r_arg (j := 1) C hX hbl hA9 hG.2.2 hl (k0 := 0) (k4 := 4) rfl rfl rfl (by omega) hL dL_law_1580 dL_law_1581 dL_law_1583 dL_law_1584 dL_law_1585 ?_
  refine lv_aload_n hx hb dL_law_1586 rfl (lv_at hl 3 rfl) ?_
  refine r_own C hl.1 hO hao hG [.ref (E.ad 0), .int (sc (i + 1)), .ref ao] [] (v_lightAfter E tL ao l hst (sc (i + 1)) g f u hu) LS_211 rfl ⟨Nat.le_of_ble_eq_true rfl, Nat.le_of_ble_eq_true rfl⟩ (Nat.le_of_ble_eq_true rfl) ⟨by show k + 3 ≤ 601024; omega, by show sl + 18 ≤ 7293034; omega⟩ rfl dL_law_1587 (fun H locs hG => ?_)
  refine lv_istore (lv' := [(5, .int u.1), (0, .ref b), (1, .ref (E.ad 0)), (2, .ref (E.ad 47)), (3, .ref ao), (4, .int (nI i))]) hx hb dL_law_1590 hl (by decide) rfl (fun ls hl => ?_)
  refine lv_aload_n hx hb dL_law_1592 rfl (lv_at hl 3 rfl) ?_
  refine r_arg (j := 1) C hX hbl hA9 hG.2.2 hl (k0 := 1) (k4 := 5) rfl rfl rfl (by omega) hL dL_law_1593 dL_law_1594 dL_law_1596 dL_law_1597 dL_law_1598 ?_
  refine af_I hG (run_V C hl.1 hG (m11_lightAfter E l (sc (i + 1)) u.2.1 v hv) (rest := []) LM_213 rfl KC11 rfl ⟨Nat.le_of_ble_eq_true rfl, Nat.le_of_ble_eq_true rfl⟩ (Nat.le_of_ble_eq_true rfl) ⟨by show k + 3 + 0 ≤ 601024; omega, by show sl + 18 + 0 ≤ 7293034; omega⟩ rfl dL_law_1599) (fun H locs hG => ?_)
  refine lv_istore (lv' := [(6, .int v.1), (5, .int u.1), (0, .ref b), (1, .ref (E.ad 0)), (2, .ref (E.ad 47)), (3, .ref ao), (4, .int (nI i))]) hx hb dL_law_1602 hl (by decide) rfl (fun ls hl => ?_)
  refine lv_aload_n hx hb dL_law_1604 rfl (lv_at hl 4 rfl) ?_
  refine af_I hG (run_V C hl.1 hG (m11_thrown E l v.2 (v.2 47 0) rfl) (rest := []) LM_99 rfl KC11 rfl ⟨Nat.le_of_ble_eq_true rfl, Nat.le_of_ble_eq_true rfl⟩ (Nat.le_of_ble_eq_true rfl) ⟨by show k + 3 + 0 + 0 ≤ 601024; omega, by show sl + 18 + 0 + 0 ≤ 7293034; omega⟩ rfl dL_law_1605) (fun H locs hG => ?_)
  refine lv_iload hx hb dL_law_1608 (lv_at hl 1 rfl) ?_
  refine lv_icmp_eq (tgt := 1615) hx hb dL_law_1610 (by decide) (fun _ => ?_) (fun c1 => absurd hth c1)
  refine lv_iload hx hb dL_law_1615 (lv_at hl 1 rfl) ?_
  refine lv_if_ne (tgt := 1632) hx hb dL_law_1617 (by decide) (fun _ => ?_) (fun h0 => ?_)
  · refine lv_goto (tgt := 1828) hx hb dL_law_1632 (by decide) ?_
    exact KK _ _ _ _ _ _ _ (by omega) (by omega) hI1 hG (lv_sub hl [2, 3, 4, 5, 6] rfl)
  · skip
    refine lv_aload_n hx hb dL_law_1620 rfl (lv_at hl 5 rfl) ?_
    refine lv_iconst (v := 0) hx hb dL_law_1621 (by decide) ?_
    refine r_out C hO hG dL_law_1622 ?_
    refine lv_iload hx hb dL_law_1623 (lv_at hl 0 rfl) ?_
    refine lv_i2l hx hb dL_law_1625 rfl ?_
    rw [hval h0]
    refine r_lcmpE C dL_law_1626 ?_
    refine lv_if_eq (tgt := 1632) hx hb dL_law_1627 (by decide) (fun _ => ?_) (fun c9 => absurd rfl c9)
    refine lv_goto (tgt := 1828) hx hb dL_law_1632 (by decide) ?_
    exact KK _ _ _ _ _ _ _ (by omega) (by omega) hI1 hG (lv_sub hl [2, 3, 4, 5, 6] rfl)
set_option maxRecDepth 100000 in
theorem cs_minutesUntilSeen (hS : S_minutesUntilSeen I) (hst : l.stackTraces = false) (C : Cx p s m #[Value.ref b] meth c cL_law 9 RL E) (hO : OT E tL ao s) (hao : s.heap.size ≤ ao) (hA9 : ¬ AA E s.heap.size b) (hX : va_X b L sc s s.heap) (hbl : b < s.heap.size) (hi : i + 5 < L) (hL : L ≤ 3072) (hI : I n g) (hG : Gd E s H locs g [oE tL ao f]) (hl : lv_has ls 9 [(0, .ref b), (1, .ref (E.ad 0)), (2, .ref (E.ad 47)), (3, .ref ao), (4, .int (nI i))]) (hk : k + 12 ≤ 601024 ∧ sl + 95 ≤ 7293034)
    (KK : ∀ (H1 : Heap) (locs1 : List Loc) (g1 : G) (f1 : Nat → Int64) (ls1 : Array Slot) (k1 s1 : Nat), k1 ≤ k + 12 → s1 ≤ sl + 95 → I (n + 1) g1 → Gd E s H1 locs1 g1 [oE tL ao f1] → lv_has ls1 9 [(0, .ref b), (1, .ref (E.ad 0)), (2, .ref (E.ad 47)), (3, .ref ao), (4, .int (nI i))] → W p l e room_1 s m #[Value.ref b] below meth c H1 locs1 k1 s1 Q (F0 m 1828 ls1 [])) : W p l e room_1 s m #[Value.ref b] below meth c H locs k sl Q (F0 m 1635 ls []) := by
  have hx := C.1
  have hb := C.2.1
  obtain ⟨u, v, hu, hv, hval, hI1⟩ := hS n g hI
  refine lv_aload_n hx hb dL_law_1635 rfl (lv_at hl 1 rfl) ?_
  refine af_I hG (run_V C hl.1 hG (m8_minutesUntilSeen E l g u hu) (rest := []) LM_214 rfl KC8 rfl ⟨Nat.le_of_ble_eq_true rfl, Nat.le_of_ble_eq_true rfl⟩ (Nat.le_of_ble_eq_true rfl) ⟨by show k + 0 ≤ 601024; omega, by show sl + 0 ≤ 7293034; omega⟩ rfl dL_law_1636) (fun H locs hG => ?_)
  refine lv_aload_n hx hb dL_law_1639 rfl (lv_at hl 2 rfl) ?_
  refine af_I hG (run_V C hl.1 hG (m11_minutesUntilSeen E l u.2 v hv) (rest := [.int u.1]) LM_217 rfl KC11 rfl ⟨Nat.le_of_ble_eq_true rfl, Nat.le_of_ble_eq_true rfl⟩ (Nat.le_of_ble_eq_true rfl) ⟨by show k + 0 + 0 ≤ 601024; omega, by show sl + 0 + 0 ≤ 7293034; omega⟩ rfl dL_law_1640) (fun H locs hG => ?_)
  refine lv_icmp_eq (tgt := 1828) hx hb dL_law_1643 (by decide) (fun _ => ?_) (fun c1 => absurd hval c1)
  exact KK _ _ _ _ _ _ _ (by omega) (by omega) hI1 hG (lv_sub hl [0, 1, 2, 3, 4] rfl)
set_option maxRecDepth 100000 in
theorem cs_minutesUntilDone (hS : S_minutesUntilDone I) (hst : l.stackTraces = false) (C : Cx p s m #[Value.ref b] meth c cL_law 9 RL E) (hO : OT E tL ao s) (hao : s.heap.size ≤ ao) (hA9 : ¬ AA E s.heap.size b) (hX : va_X b L sc s s.heap) (hbl : b < s.heap.size) (hi : i + 5 < L) (hL : L ≤ 3072) (hn : n ≤ 600) (hI : I n g) (hG : Gd E s H locs g [oE tL ao f]) (hl : lv_has ls 9 [(0, .ref b), (1, .ref (E.ad 0)), (2, .ref (E.ad 47)), (3, .ref ao), (4, .int (nI i))]) (hk : k + 12 ≤ 601024 ∧ sl + 95 ≤ 7293034)
    (KK : ∀ (H1 : Heap) (locs1 : List Loc) (g1 : G) (f1 : Nat → Int64) (ls1 : Array Slot) (k1 s1 : Nat), k1 ≤ k + 12 → s1 ≤ sl + 95 → I (n + 1) g1 → Gd E s H1 locs1 g1 [oE tL ao f1] → lv_has ls1 9 [(0, .ref b), (1, .ref (E.ad 0)), (2, .ref (E.ad 47)), (3, .ref ao), (4, .int (nI i))] → W p l e room_1 s m #[Value.ref b] below meth c H1 locs1 k1 s1 Q (F0 m 1828 ls1 [])) : W p l e room_1 s m #[Value.ref b] below meth c H locs k sl Q (F0 m 1648 ls []) := by
  have hx := C.1
  have hb := C.2.1
  obtain ⟨u, v, hu, hv, hth, hval, hI1⟩ := hS n g f (sc (i + 1)) hn hI
  refine lv_aload_n hx hb dL_law_1648 rfl (lv_at hl 1 rfl) ?_
  refine r_arg (j := 1) C hX hbl hA9 hG.2.2 hl (k0 := 0) (k4 := 4) rfl rfl rfl (by omega) hL dL_law_1649 dL_law_1650 dL_law_1652 dL_law_1653 dL_law_1654 ?_
  refine lv_aload_n hx hb dL_law_1655 rfl (lv_at hl 3 rfl) ?_
  refine r_own C hl.1 hO hao hG [.ref (E.ad 0), .int (sc (i + 1)), .ref ao] [] (v_minutesUntilDone E tL ao l hst (sc (i + 1)) g f u hu) LS_218 rfl ⟨Nat.le_of_ble_eq_true rfl, Nat.le_of_ble_eq_true rfl⟩ (Nat.le_of_ble_eq_true rfl) ⟨by show k + 3 ≤ 601024; omega, by show sl + 18 ≤ 7293034; omega⟩ rfl dL_law_1656 (fun H locs hG => ?_)
  refine lv_istore (lv' := [(5, .int u.1), (0, .ref b), (1, .ref (E.ad 0)), (2, .ref (E.ad 47)), (3, .ref ao), (4, .int (nI i))]) hx hb dL_law_1659 hl (by decide) rfl (fun ls hl => ?_)
  refine lv_aload_n hx hb dL_law_1661 rfl (lv_at hl 3 rfl) ?_
  refine r_arg (j := 1) C hX hbl hA9 hG.2.2 hl (k0 := 1) (k4 := 5) rfl rfl rfl (by omega) hL dL_law_1662 dL_law_1663 dL_law_1665 dL_law_1666 dL_law_1667 ?_
  refine af_I hG (run_V C hl.1 hG (m11_minutesUntilDone E l (sc (i + 1)) u.2.1 v hv) (rest := []) LM_220 rfl KC11 rfl ⟨Nat.le_of_ble_eq_true rfl, Nat.le_of_ble_eq_true rfl⟩ (Nat.le_of_ble_eq_true rfl) ⟨by show k + 3 + 0 ≤ 601024; omega, by show sl + 18 + 0 ≤ 7293034; omega⟩ rfl dL_law_1668) (fun H locs hG => ?_)
  refine lv_istore (lv' := [(6, .int v.1), (5, .int u.1), (0, .ref b), (1, .ref (E.ad 0)), (2, .ref (E.ad 47)), (3, .ref ao), (4, .int (nI i))]) hx hb dL_law_1671 hl (by decide) rfl (fun ls hl => ?_)
  refine lv_aload_n hx hb dL_law_1673 rfl (lv_at hl 4 rfl) ?_
  refine af_I hG (run_V C hl.1 hG (m11_thrown E l v.2 (v.2 47 0) rfl) (rest := []) LM_99 rfl KC11 rfl ⟨Nat.le_of_ble_eq_true rfl, Nat.le_of_ble_eq_true rfl⟩ (Nat.le_of_ble_eq_true rfl) ⟨by show k + 3 + 0 + 0 ≤ 601024; omega, by show sl + 18 + 0 + 0 ≤ 7293034; omega⟩ rfl dL_law_1674) (fun H locs hG => ?_)
  refine lv_iload hx hb dL_law_1677 (lv_at hl 1 rfl) ?_
  refine lv_icmp_eq (tgt := 1684) hx hb dL_law_1679 (by decide) (fun _ => ?_) (fun c1 => absurd hth c1)
  refine lv_iload hx hb dL_law_1684 (lv_at hl 1 rfl) ?_
  refine lv_if_ne (tgt := 1701) hx hb dL_law_1686 (by decide) (fun _ => ?_) (fun h0 => ?_)
  · refine lv_goto (tgt := 1828) hx hb dL_law_1701 (by decide) ?_
    exact KK _ _ _ _ _ _ _ (by omega) (by omega) hI1 hG (lv_sub hl [2, 3, 4, 5, 6] rfl)
  · skip
    refine lv_aload_n hx hb dL_law_1689 rfl (lv_at hl 5 rfl) ?_
    refine lv_iconst (v := 0) hx hb dL_law_1690 (by decide) ?_
    refine r_out C hO hG dL_law_1691 ?_
    refine lv_iload hx hb dL_law_1692 (lv_at hl 0 rfl) ?_
    refine lv_i2l hx hb dL_law_1694 rfl ?_
    rw [hval h0]
    refine r_lcmpE C dL_law_1695 ?_
    refine lv_if_eq (tgt := 1701) hx hb dL_law_1696 (by decide) (fun _ => ?_) (fun c9 => absurd rfl c9)
    refine lv_goto (tgt := 1828) hx hb dL_law_1701 (by decide) ?_
    exact KK _ _ _ _ _ _ _ (by omega) (by omega) hI1 hG (lv_sub hl [2, 3, 4, 5, 6] rfl)
set_option maxRecDepth 100000 in
theorem cs_bestToClean (hS : S_bestToClean I) (hst : l.stackTraces = false) (C : Cx p s m #[Value.ref b] meth c cL_law 9 RL E) (hO : OT E tL ao s) (hao : s.heap.size ≤ ao) (hA9 : ¬ AA E s.heap.size b) (hX : va_X b L sc s s.heap) (hbl : b < s.heap.size) (hi : i + 5 < L) (hL : L ≤ 3072) (hI : I n g) (hG : Gd E s H locs g [oE tL ao f]) (hl : lv_has ls 9 [(0, .ref b), (1, .ref (E.ad 0)), (2, .ref (E.ad 47)), (3, .ref ao), (4, .int (nI i))]) (hk : k + 12 ≤ 601024 ∧ sl + 95 ≤ 7293034)
    (KK : ∀ (H1 : Heap) (locs1 : List Loc) (g1 : G) (f1 : Nat → Int64) (ls1 : Array Slot) (k1 s1 : Nat), k1 ≤ k + 12 → s1 ≤ sl + 95 → I (n + 1) g1 → Gd E s H1 locs1 g1 [oE tL ao f1] → lv_has ls1 9 [(0, .ref b), (1, .ref (E.ad 0)), (2, .ref (E.ad 47)), (3, .ref ao), (4, .int (nI i))] → W p l e room_1 s m #[Value.ref b] below meth c H1 locs1 k1 s1 Q (F0 m 1828 ls1 [])) : W p l e room_1 s m #[Value.ref b] below meth c H locs k sl Q (F0 m 1704 ls []) := by
  have hx := C.1
  have hb := C.2.1
  obtain ⟨u, v, hu, hv, hval, hI1⟩ := hS n g hI
  refine lv_aload_n hx hb dL_law_1704 rfl (lv_at hl 1 rfl) ?_
  refine af_I hG (run_V C hl.1 hG (m8_bestToClean E l g u hu) (rest := []) LM_221 rfl KC8 rfl ⟨Nat.le_of_ble_eq_true rfl, Nat.le_of_ble_eq_true rfl⟩ (Nat.le_of_ble_eq_true rfl) ⟨by show k + 0 ≤ 601024; omega, by show sl + 0 ≤ 7293034; omega⟩ rfl dL_law_1705) (fun H locs hG => ?_)
  refine lv_aload_n hx hb dL_law_1708 rfl (lv_at hl 2 rfl) ?_
  refine af_I hG (run_V C hl.1 hG (m11_bestToClean E l u.2 v hv) (rest := [.int u.1]) LM_224 rfl KC11 rfl ⟨Nat.le_of_ble_eq_true rfl, Nat.le_of_ble_eq_true rfl⟩ (Nat.le_of_ble_eq_true rfl) ⟨by show k + 0 + 0 ≤ 601024; omega, by show sl + 0 + 0 ≤ 7293034; omega⟩ rfl dL_law_1709) (fun H locs hG => ?_)
  refine lv_icmp_eq (tgt := 1828) hx hb dL_law_1712 (by decide) (fun _ => ?_) (fun c1 => absurd hval c1)
  exact KK _ _ _ _ _ _ _ (by omega) (by omega) hI1 hG (lv_sub hl [0, 1, 2, 3, 4] rfl)
set_option maxRecDepth 100000 in
theorem cs_bestOffset (hS : S_bestOffset I) (hst : l.stackTraces = false) (C : Cx p s m #[Value.ref b] meth c cL_law 9 RL E) (hO : OT E tL ao s) (hao : s.heap.size ≤ ao) (hA9 : ¬ AA E s.heap.size b) (hX : va_X b L sc s s.heap) (hbl : b < s.heap.size) (hi : i + 5 < L) (hL : L ≤ 3072) (hI : I n g) (hG : Gd E s H locs g [oE tL ao f]) (hl : lv_has ls 9 [(0, .ref b), (1, .ref (E.ad 0)), (2, .ref (E.ad 47)), (3, .ref ao), (4, .int (nI i))]) (hk : k + 12 ≤ 601024 ∧ sl + 95 ≤ 7293034)
    (KK : ∀ (H1 : Heap) (locs1 : List Loc) (g1 : G) (f1 : Nat → Int64) (ls1 : Array Slot) (k1 s1 : Nat), k1 ≤ k + 12 → s1 ≤ sl + 95 → I (n + 1) g1 → Gd E s H1 locs1 g1 [oE tL ao f1] → lv_has ls1 9 [(0, .ref b), (1, .ref (E.ad 0)), (2, .ref (E.ad 47)), (3, .ref ao), (4, .int (nI i))] → W p l e room_1 s m #[Value.ref b] below meth c H1 locs1 k1 s1 Q (F0 m 1828 ls1 [])) : W p l e room_1 s m #[Value.ref b] below meth c H locs k sl Q (F0 m 1717 ls []) := by
  have hx := C.1
  have hb := C.2.1
  obtain ⟨u, v, hu, hv, hth, hval, hI1⟩ := hS n g f (sc (i + 1)) hI
  refine lv_aload_n hx hb dL_law_1717 rfl (lv_at hl 1 rfl) ?_
  refine r_arg (j := 1) C hX hbl hA9 hG.2.2 hl (k0 := 0) (k4 := 4) rfl rfl rfl (by omega) hL dL_law_1718 dL_law_1719 dL_law_1721 dL_law_1722 dL_law_1723 ?_
  refine lv_aload_n hx hb dL_law_1724 rfl (lv_at hl 3 rfl) ?_
  refine r_own C hl.1 hO hao hG [.ref (E.ad 0), .int (sc (i + 1)), .ref ao] [] (v_bestOffset E tL ao l hst (sc (i + 1)) g f u hu) LS_225 rfl ⟨Nat.le_of_ble_eq_true rfl, Nat.le_of_ble_eq_true rfl⟩ (Nat.le_of_ble_eq_true rfl) ⟨by show k + 3 ≤ 601024; omega, by show sl + 18 ≤ 7293034; omega⟩ rfl dL_law_1725 (fun H locs hG => ?_)
  refine lv_istore (lv' := [(5, .int u.1), (0, .ref b), (1, .ref (E.ad 0)), (2, .ref (E.ad 47)), (3, .ref ao), (4, .int (nI i))]) hx hb dL_law_1728 hl (by decide) rfl (fun ls hl => ?_)
  refine lv_aload_n hx hb dL_law_1730 rfl (lv_at hl 3 rfl) ?_
  refine r_arg (j := 1) C hX hbl hA9 hG.2.2 hl (k0 := 1) (k4 := 5) rfl rfl rfl (by omega) hL dL_law_1731 dL_law_1732 dL_law_1734 dL_law_1735 dL_law_1736 ?_
  refine af_I hG (run_V C hl.1 hG (m11_bestOffset E l (sc (i + 1)) u.2.1 v hv) (rest := []) LM_227 rfl KC11 rfl ⟨Nat.le_of_ble_eq_true rfl, Nat.le_of_ble_eq_true rfl⟩ (Nat.le_of_ble_eq_true rfl) ⟨by show k + 3 + 0 ≤ 601024; omega, by show sl + 18 + 0 ≤ 7293034; omega⟩ rfl dL_law_1737) (fun H locs hG => ?_)
  refine lv_istore (lv' := [(6, .int v.1), (5, .int u.1), (0, .ref b), (1, .ref (E.ad 0)), (2, .ref (E.ad 47)), (3, .ref ao), (4, .int (nI i))]) hx hb dL_law_1740 hl (by decide) rfl (fun ls hl => ?_)
  refine lv_aload_n hx hb dL_law_1742 rfl (lv_at hl 4 rfl) ?_
  refine af_I hG (run_V C hl.1 hG (m11_thrown E l v.2 (v.2 47 0) rfl) (rest := []) LM_99 rfl KC11 rfl ⟨Nat.le_of_ble_eq_true rfl, Nat.le_of_ble_eq_true rfl⟩ (Nat.le_of_ble_eq_true rfl) ⟨by show k + 3 + 0 + 0 ≤ 601024; omega, by show sl + 18 + 0 + 0 ≤ 7293034; omega⟩ rfl dL_law_1743) (fun H locs hG => ?_)
  refine lv_iload hx hb dL_law_1746 (lv_at hl 1 rfl) ?_
  refine lv_icmp_eq (tgt := 1753) hx hb dL_law_1748 (by decide) (fun _ => ?_) (fun c1 => absurd hth c1)
  refine lv_iload hx hb dL_law_1753 (lv_at hl 1 rfl) ?_
  refine lv_if_ne (tgt := 1770) hx hb dL_law_1755 (by decide) (fun _ => ?_) (fun h0 => ?_)
  · refine lv_goto (tgt := 1828) hx hb dL_law_1770 (by decide) ?_
    exact KK _ _ _ _ _ _ _ (by omega) (by omega) hI1 hG (lv_sub hl [2, 3, 4, 5, 6] rfl)
  · skip
    refine lv_aload_n hx hb dL_law_1758 rfl (lv_at hl 5 rfl) ?_
    refine lv_iconst (v := 0) hx hb dL_law_1759 (by decide) ?_
    refine r_out C hO hG dL_law_1760 ?_
    refine lv_iload hx hb dL_law_1761 (lv_at hl 0 rfl) ?_
    refine lv_i2l hx hb dL_law_1763 rfl ?_
    rw [hval h0]
    refine r_lcmpE C dL_law_1764 ?_
    refine lv_if_eq (tgt := 1770) hx hb dL_law_1765 (by decide) (fun _ => ?_) (fun c9 => absurd rfl c9)
    refine lv_goto (tgt := 1828) hx hb dL_law_1770 (by decide) ?_
    exact KK _ _ _ _ _ _ _ (by omega) (by omega) hI1 hG (lv_sub hl [2, 3, 4, 5, 6] rfl)
set_option maxRecDepth 100000 in
theorem cs_meanClarity (hS : S_meanClarity I) (hst : l.stackTraces = false) (C : Cx p s m #[Value.ref b] meth c cL_law 9 RL E) (hO : OT E tL ao s) (hao : s.heap.size ≤ ao) (hA9 : ¬ AA E s.heap.size b) (hX : va_X b L sc s s.heap) (hbl : b < s.heap.size) (hi : i + 5 < L) (hL : L ≤ 3072) (hI : I n g) (hG : Gd E s H locs g [oE tL ao f]) (hl : lv_has ls 9 [(0, .ref b), (1, .ref (E.ad 0)), (2, .ref (E.ad 47)), (3, .ref ao), (4, .int (nI i))]) (hk : k + 12 ≤ 601024 ∧ sl + 95 ≤ 7293034)
    (KK : ∀ (H1 : Heap) (locs1 : List Loc) (g1 : G) (f1 : Nat → Int64) (ls1 : Array Slot) (k1 s1 : Nat), k1 ≤ k + 12 → s1 ≤ sl + 95 → I (n + 1) g1 → Gd E s H1 locs1 g1 [oE tL ao f1] → lv_has ls1 9 [(0, .ref b), (1, .ref (E.ad 0)), (2, .ref (E.ad 47)), (3, .ref ao), (4, .int (nI i))] → W p l e room_1 s m #[Value.ref b] below meth c H1 locs1 k1 s1 Q (F0 m 1828 ls1 [])) : W p l e room_1 s m #[Value.ref b] below meth c H locs k sl Q (F0 m 1773 ls []) := by
  have hx := C.1
  have hb := C.2.1
  obtain ⟨u, v, hu, hv, hval, hI1⟩ := hS n g hI
  refine lv_aload_n hx hb dL_law_1773 rfl (lv_at hl 1 rfl) ?_
  refine af_D hG (run_V C hl.1 hG (m8_meanClarity E l g u hu) (rest := []) LM_228 rfl KC8 rfl ⟨Nat.le_of_ble_eq_true rfl, Nat.le_of_ble_eq_true rfl⟩ (Nat.le_of_ble_eq_true rfl) ⟨by show k + 0 ≤ 601024; omega, by show sl + 0 ≤ 7293034; omega⟩ rfl dL_law_1774) (fun H locs hG => ?_)
  refine lv_dstore (lv' := [(5, .double u.1), (0, .ref b), (1, .ref (E.ad 0)), (2, .ref (E.ad 47)), (3, .ref ao), (4, .int (nI i))]) hx hb dL_law_1777 hl (by decide) rfl (fun ls hl => ?_)
  refine lv_aload_n hx hb dL_law_1779 rfl (lv_at hl 3 rfl) ?_
  refine af_D hG (run_V C hl.1 hG (m11_meanClarity E l u.2 v hv) (rest := []) LM_232 rfl KC11 rfl ⟨Nat.le_of_ble_eq_true rfl, Nat.le_of_ble_eq_true rfl⟩ (Nat.le_of_ble_eq_true rfl) ⟨by show k + 0 + 0 ≤ 601024; omega, by show sl + 0 + 0 ≤ 7293034; omega⟩ rfl dL_law_1780) (fun H locs hG => ?_)
  refine lv_dstore (lv' := [(7, .double v.1), (5, .double u.1), (0, .ref b), (1, .ref (E.ad 0)), (2, .ref (E.ad 47)), (3, .ref ao), (4, .int (nI i))]) hx hb dL_law_1783 hl (by decide) rfl (fun ls hl => ?_)
  refine lv_dload hx hb dL_law_1785 (lv_at hl 1 rfl) ?_
  refine lv_dload hx hb dL_law_1787 (lv_at hl 0 rfl) ?_
  rw [hval]
  refine lv_dcmp hx hb dL_law_1789 ?_
  refine lv_if_eq (tgt := 1811) hx hb dL_law_1790 (by decide) (fun _ => ?_) (fun c1 => ?_)
  · refine lv_goto (tgt := 1828) hx hb dL_law_1811 (by decide) ?_
    exact KK _ _ _ _ _ _ _ (by omega) (by omega) hI1 hG (lv_sub hl [2, 3, 4, 5, 6] rfl)
  · refine lv_dload hx hb dL_law_1793 (lv_at hl 1 rfl) ?_
    refine lv_dload hx hb dL_law_1795 (lv_at hl 1 rfl) ?_
    rw [hval]
    refine lv_dcmp hx hb dL_law_1797 ?_
    refine lv_if_eq (tgt := 1809) hx hb dL_law_1798 (by decide) (fun c2 => absurd c2 c1) (fun _ => ?_)
    refine lv_dload hx hb dL_law_1801 (lv_at hl 0 rfl) ?_
    refine lv_dload hx hb dL_law_1803 (lv_at hl 0 rfl) ?_
    refine lv_dcmp hx hb dL_law_1805 ?_
    refine lv_if_ne (tgt := 1811) hx hb dL_law_1806 (by decide) (fun _ => ?_) (fun c2 => absurd c2 c1)
    refine lv_goto (tgt := 1828) hx hb dL_law_1811 (by decide) ?_
    exact KK _ _ _ _ _ _ _ (by omega) (by omega) hI1 hG (lv_sub hl [2, 3, 4, 5, 6] rfl)
set_option maxRecDepth 100000 in
theorem cs_digest (hS : S_digest I) (hst : l.stackTraces = false) (C : Cx p s m #[Value.ref b] meth c cL_law 9 RL E) (hO : OT E tL ao s) (hao : s.heap.size ≤ ao) (hA9 : ¬ AA E s.heap.size b) (hX : va_X b L sc s s.heap) (hbl : b < s.heap.size) (hi : i + 5 < L) (hL : L ≤ 3072) (hI : I n g) (hG : Gd E s H locs g [oE tL ao f]) (hl : lv_has ls 9 [(0, .ref b), (1, .ref (E.ad 0)), (2, .ref (E.ad 47)), (3, .ref ao), (4, .int (nI i))]) (hk : k + 12 ≤ 601024 ∧ sl + 95 ≤ 7293034)
    (KK : ∀ (H1 : Heap) (locs1 : List Loc) (g1 : G) (f1 : Nat → Int64) (ls1 : Array Slot) (k1 s1 : Nat), k1 ≤ k + 12 → s1 ≤ sl + 95 → I (n + 1) g1 → Gd E s H1 locs1 g1 [oE tL ao f1] → lv_has ls1 9 [(0, .ref b), (1, .ref (E.ad 0)), (2, .ref (E.ad 47)), (3, .ref ao), (4, .int (nI i))] → W p l e room_1 s m #[Value.ref b] below meth c H1 locs1 k1 s1 Q (F0 m 1828 ls1 [])) : W p l e room_1 s m #[Value.ref b] below meth c H locs k sl Q (F0 m 1814 ls []) := by
  have hx := C.1
  have hb := C.2.1
  obtain ⟨u, v, hu, hv, hval, hI1⟩ := hS n g hI
  refine lv_aload_n hx hb dL_law_1814 rfl (lv_at hl 1 rfl) ?_
  refine af_L hG (run_V C hl.1 hG (m8_digest E l g u hu) (rest := []) LM_233 rfl KC8 rfl ⟨Nat.le_of_ble_eq_true rfl, Nat.le_of_ble_eq_true rfl⟩ (Nat.le_of_ble_eq_true rfl) ⟨by show k + 0 ≤ 601024; omega, by show sl + 0 ≤ 7293034; omega⟩ rfl dL_law_1815) (fun H locs hG => ?_)
  refine lv_aload_n hx hb dL_law_1818 rfl (lv_at hl 2 rfl) ?_
  refine af_L hG (run_V C hl.1 hG (m11_digest E l u.2 v hv) (rest := [.long u.1]) LM_237 rfl KC11 rfl ⟨Nat.le_of_ble_eq_true rfl, Nat.le_of_ble_eq_true rfl⟩ (Nat.le_of_ble_eq_true rfl) ⟨by show k + 0 + 12 ≤ 601024; omega, by show sl + 0 + 95 ≤ 7293034; omega⟩ rfl dL_law_1819) (fun H locs hG => ?_)
  rw [hval]
  refine r_lcmpE C dL_law_1822 ?_
  refine lv_if_eq (tgt := 1828) hx hb dL_law_1823 (by decide) (fun _ => ?_) (fun c9 => absurd rfl c9)
  exact KK _ _ _ _ _ _ _ (by omega) (by omega) hI1 hG (lv_sub hl [0, 1, 2, 3, 4] rfl)
end CASES
