set_option maxRecDepth 100000 in
set_option maxHeartbeats 8000000 in
theorem jL_law_311 {E : EV} {l : Launch} (hst : l.stackTraces = false) {u : Int32 × ZS} {p : Program} {e : Env} {s : State} {m : MethodId} {args : Array Value} {below : List Frame} {meth : Method} {c : Code} {F : FT} {Q : State → Prop} (C : Cx p s m args meth c cL_law 28 RL E) (hA : CA F E s) (hU : F.uc = u.2.c ∧ F.uw = u.2.w) (hq : LQ p l e (F.R 1400) s m args below meth c E F u Q) : ∀ (K154 : Int32 → Nat → Nat → Int32 → Int64 → Int32 → Int32 → Int32 → Nat → Int32 → Int32 → ZS → Option (Int32 × ZS)), (∀ (v2 : Int32) (v3 : Nat) (v5 : Nat) (v6 : Int32) (v7 : Int64) (v9 : Int32) (v10 : Int32) (v11 : Int32) (v12 : Nat) (v13 : Int32) (v14 : Int32) (S : ZS) (ad : Nat → Nat) (N : Nat) (bv3 : Nat) (bv5 : Nat) (bv12 : Nat) (H : Heap) (locs : List Loc) (ls : Array Slot) (cells slots : Nat), GL E s F H locs ad N S cells slots → RA E ad N v3 bv3 → RA E ad N v5 bv5 → RA E ad N v12 bv12 → lv_has ls 28 [(0, .ref E.sb), (1, .ref (E.ad 0)), (2, .int v2), (3, .ref bv3), (5, .ref bv5), (6, .int v6), (7, .long v7), (9, .int v9), (10, .int v10), (11, .int v11), (12, .ref bv12), (13, .int v13), (14, .int v14)] → K154 v2 v3 v5 v6 v7 v9 v10 v11 v12 v13 v14 S = some u → W p l e (F.R 1400) s m args below meth c H locs cells slots Q (F0 m 154 ls [])) → ∀ (v2 : Int32) (v3 : Nat) (v5 : Nat) (v6 : Int32) (v7 : Int64) (v9 : Int32) (v10 : Int32) (v11 : Int32) (v12 : Nat) (v14 : Int32) (v15 : Int32) (v16 : Int32) (vt0 : Int32) (vt1 : Int32) (S : ZS) (ad : Nat → Nat) (N : Nat) (bv3 : Nat) (bv5 : Nat) (bv12 : Nat) (H : Heap) (locs : List Loc) (ls : Array Slot) (cells slots : Nat), GL E s F H locs ad N S cells slots → RA E ad N v3 bv3 → RA E ad N v5 bv5 → RA E ad N v12 bv12 → lv_has ls 28 [(0, .ref E.sb), (1, .ref (E.ad 0)), (2, .int v2), (3, .ref bv3), (5, .ref bv5), (6, .int v6), (7, .long v7), (9, .int v9), (10, .int v10), (11, .int v11), (12, .ref bv12), (14, .int v14), (15, .int v15), (16, .int v16)] → kL_law_311 E.sL E.sx K154 v2 v3 v5 v6 v7 v9 v10 v11 v12 v14 v15 v16 vt0 vt1 S = some u → W p l e (F.R 1400) s m args below meth c H locs cells slots Q (F0 m 311 ls [.int vt0, .int vt1]) := by
    have hx := C.1
    have hb := C.2.1
    intro K154 hK154 v2 v3 v5 v6 v7 v9 v10 v11 v12 v14 v15 v16 vt0 vt1 S ad N bv3 bv5 bv12 H locs ls cells slots hG hv3 hv5 hv12 hl h
    unfold kL_law_311 at h
    refine lv_icmp_ne (tgt := 389) hx hb dL_law_311 (by decide) (fun g1 => ?_) (fun g1 => ?_)
    · have h := (if_inv h).2 g1
      refine lv_iconst (v := 0) hx hb dL_law_389 (by decide) ?_
      exact lw9_ret hq hG dL_law_390 h
    · have h := (if_inv h).1 g1
      refine lv_aload_n hx hb dL_law_314 rfl (lv_at hl 1 rfl) ?_
      refine lv_iload hx hb dL_law_315 (lv_at hl 12 rfl) ?_
      refine r2_clR C hA hl.1 hG [.int v15] [] (m8_clarityOf E l hst v15 S.g) QCL_210.1 QCL_210.2 KC8 rfl (rm2 (by decide) (by decide)) (Nat.le_of_ble_eq_true rfl) rfl dL_law_317 hU h (fun x2 S3 H locs cells slots hG h => ?_)
      refine lv_if_lt (tgt := 389) hx hb dL_law_320 (by decide) (fun g4 => ?_) (fun g4 => ?_)
      · have h := (if_inv h).1 g4
        refine lv_iconst (v := 0) hx hb dL_law_389 (by decide) ?_
        exact lw9_ret hq hG dL_law_390 h
      · have h := (if_inv h).2 g4
        refine lv_aload_n hx hb dL_law_323 rfl (lv_at hl 1 rfl) ?_
        refine lv_iload hx hb dL_law_324 (lv_at hl 12 rfl) ?_
        refine r2_clR C hA hl.1 hG [.int v15] [] (m8_clarityOf E l hst v15 S3.g) QCL_210.1 QCL_210.2 KC8 rfl (rm2 (by decide) (by decide)) (Nat.le_of_ble_eq_true rfl) rfl dL_law_326 hU h (fun x5 S6 H locs cells slots hG h => ?_)
        refine lv_bipush (v := 100) hx hb dL_law_329 (by decide) ?_
        refine lv_icmp_gt (tgt := 389) hx hb dL_law_331 (by decide) (fun g7 => ?_) (fun g7 => ?_)
        · have h := (if_inv h).1 g7
          refine lv_iconst (v := 0) hx hb dL_law_389 (by decide) ?_
          exact lw9_ret hq hG dL_law_390 h
        · have h := (if_inv h).2 g7
          refine lv_aload_n hx hb dL_law_334 rfl (lv_at hl 1 rfl) ?_
          refine lv_iload hx hb dL_law_335 (lv_at hl 12 rfl) ?_
          refine r2_clR C hA hl.1 hG [.int v15] [] (m8_bestClarityOf E l hst v15 S6.g) QCL_213.1 QCL_213.2 KC8 rfl (rm2 (by decide) (by decide)) (Nat.le_of_ble_eq_true rfl) rfl dL_law_337 hU h (fun x8 S9 H locs cells slots hG h => ?_)
          refine lv_if_lt (tgt := 389) hx hb dL_law_340 (by decide) (fun g10 => ?_) (fun g10 => ?_)
          · have h := (if_inv h).1 g10
            refine lv_iconst (v := 0) hx hb dL_law_389 (by decide) ?_
            exact lw9_ret hq hG dL_law_390 h
          · have h := (if_inv h).2 g10
            refine lv_aload_n hx hb dL_law_343 rfl (lv_at hl 1 rfl) ?_
            refine lv_iload hx hb dL_law_344 (lv_at hl 12 rfl) ?_
            refine r2_clR C hA hl.1 hG [.int v15] [] (m8_bestClarityOf E l hst v15 S9.g) QCL_213.1 QCL_213.2 KC8 rfl (rm2 (by decide) (by decide)) (Nat.le_of_ble_eq_true rfl) rfl dL_law_346 hU h (fun x11 S12 H locs cells slots hG h => ?_)
            refine lv_bipush (v := 100) hx hb dL_law_349 (by decide) ?_
            refine lv_icmp_gt (tgt := 389) hx hb dL_law_351 (by decide) (fun g13 => ?_) (fun g13 => ?_)
            · have h := (if_inv h).1 g13
              refine lv_iconst (v := 0) hx hb dL_law_389 (by decide) ?_
              exact lw9_ret hq hG dL_law_390 h
            · have h := (if_inv h).2 g13
              refine lv_aload_n hx hb dL_law_354 rfl (lv_at hl 1 rfl) ?_
              refine lv_iload hx hb dL_law_355 (lv_at hl 12 rfl) ?_
              refine r2_clR C hA hl.1 hG [.int v15] [] (m8_offsetOf E l hst v15 S12.g) QCL_194.1 QCL_194.2 KC8 rfl (rm2 (by decide) (by decide)) (Nat.le_of_ble_eq_true rfl) rfl dL_law_357 hU h (fun x14 S15 H locs cells slots hG h => ?_)
              refine lv_bipush (v := (-90)) hx hb dL_law_360 (by decide) ?_
              refine lv_icmp_lt (tgt := 389) hx hb dL_law_362 (by decide) (fun g16 => ?_) (fun g16 => ?_)
              · have h := (if_inv h).1 g16
                refine lv_iconst (v := 0) hx hb dL_law_389 (by decide) ?_
                exact lw9_ret hq hG dL_law_390 h
              · have h := (if_inv h).2 g16
                refine lv_aload_n hx hb dL_law_365 rfl (lv_at hl 1 rfl) ?_
                refine lv_iload hx hb dL_law_366 (lv_at hl 12 rfl) ?_
                refine r2_clR C hA hl.1 hG [.int v15] [] (m8_offsetOf E l hst v15 S15.g) QCL_194.1 QCL_194.2 KC8 rfl (rm2 (by decide) (by decide)) (Nat.le_of_ble_eq_true rfl) rfl dL_law_368 hU h (fun x17 S18 H locs cells slots hG h => ?_)
                refine lv_bipush (v := 90) hx hb dL_law_371 (by decide) ?_
                refine lv_icmp_gt (tgt := 389) hx hb dL_law_373 (by decide) (fun g19 => ?_) (fun g19 => ?_)
                · have h := (if_inv h).1 g19
                  refine lv_iconst (v := 0) hx hb dL_law_389 (by decide) ?_
                  exact lw9_ret hq hG dL_law_390 h
                · have h := (if_inv h).2 g19
                  refine lv_aload_n hx hb dL_law_376 rfl (lv_at hl 1 rfl) ?_
                  refine lv_iload hx hb dL_law_377 (lv_at hl 12 rfl) ?_
                  refine r2_clR C hA hl.1 hG [.int v15] [] (m8_tiltBehind E l hst v15 S18.g) QCL_216.1 QCL_216.2 KC8 rfl (rm2 (by decide) (by decide)) (Nat.le_of_ble_eq_true rfl) rfl dL_law_379 hU h (fun x20 S21 H locs cells slots hG h => ?_)
                  refine lv_iconst (v := 2) hx hb dL_law_382 (by decide) ?_
                  refine lv_iload hx hb dL_law_383 (lv_at hl 9 rfl) ?_
                  refine lv_imul hx hb dL_law_385 ?_
                  refine lv_icmp_eq (tgt := 391) hx hb dL_law_386 (by decide) (fun g22 => ?_) (fun g22 => ?_)
                  · have h := (if_inv h).1 g22
                    refine lv_iload hx hb dL_law_391 (lv_at hl 13 rfl) ?_
                    refine lv_istore (lv' := [(13, .int v16), (0, .ref E.sb), (1, .ref (E.ad 0)), (2, .int v2), (3, .ref bv3), (5, .ref bv5), (6, .int v6), (7, .long v7), (9, .int v9), (10, .int v10), (11, .int v11), (12, .ref bv12), (14, .int v14), (15, .int v15), (16, .int v16)]) hx hb dL_law_393 hl (by decide) rfl (fun ls hl => ?_)
                    refine r_iinc (w := 1) (lv' := fun x23 => [(14, .int x23), (13, .int v16), (0, .ref E.sb), (1, .ref (E.ad 0)), (2, .int v2), (3, .ref bv3), (5, .ref bv5), (6, .int v6), (7, .long v7), (9, .int v9), (10, .int v10), (11, .int v11), (12, .ref bv12), (15, .int v15), (16, .int v16)]) C dL_law_395 hl (k := 12) rfl (by decide) (by decide) (fun _ => rfl) h (fun x23 ls hl h => ?_)
                    refine lv_goto (tgt := 154) hx hb dL_law_398 (by decide) ?_
                    exact hK154 v2 v3 v5 v6 v7 v9 v10 v11 v12 v16 x23 S21 _ _ _ _ _ _ _ _ _ _ hG hv3 hv5 hv12 (lv_sub hl [2, 3, 4, 5, 6, 7, 8, 9, 10, 11, 12, 1, 0] rfl) h
                  · have h := (if_inv h).2 g22
                    refine lv_iconst (v := 0) hx hb dL_law_389 (by decide) ?_
                    exact lw9_ret hq hG dL_law_390 h
