set_option maxRecDepth 100000 in
set_option maxHeartbeats 8000000 in
theorem jL_law_283 {E : EV} {l : Launch} (hst : l.stackTraces = false) {u : Int32 × ZS} {p : Program} {e : Env} {s : State} {m : MethodId} {args : Array Value} {below : List Frame} {meth : Method} {c : Code} {F : FT} {Q : State → Prop} (C : Cx p s m args meth c cL_law 28 RL E) (hA : CA F E s) (hU : F.uc = u.2.c ∧ F.uw = u.2.w) (hq : LQ p l e (F.R 1400) s m args below meth c E F u Q) : ∀ (K154 : Int32 → Nat → Nat → Int32 → Int64 → Int32 → Int32 → Int32 → Nat → Int32 → Int32 → ZS → Option (Int32 × ZS)), (∀ (v2 : Int32) (v3 : Nat) (v5 : Nat) (v6 : Int32) (v7 : Int64) (v9 : Int32) (v10 : Int32) (v11 : Int32) (v12 : Nat) (v13 : Int32) (v14 : Int32) (S : ZS) (ad : Nat → Nat) (N : Nat) (bv3 : Nat) (bv5 : Nat) (bv12 : Nat) (H : Heap) (locs : List Loc) (ls : Array Slot) (cells slots : Nat), GL E s F H locs ad N S cells slots → RA E ad N v3 bv3 → RA E ad N v5 bv5 → RA E ad N v12 bv12 → lv_has ls 28 [(0, .ref E.sb), (1, .ref (E.ad 0)), (2, .int v2), (3, .ref bv3), (5, .ref bv5), (6, .int v6), (7, .long v7), (9, .int v9), (10, .int v10), (11, .int v11), (12, .ref bv12), (13, .int v13), (14, .int v14)] → K154 v2 v3 v5 v6 v7 v9 v10 v11 v12 v13 v14 S = some u → W p l e (F.R 1400) s m args below meth c H locs cells slots Q (F0 m 154 ls [])) → ∀ (v2 : Int32) (v3 : Nat) (v5 : Nat) (v6 : Int32) (v7 : Int64) (v9 : Int32) (v10 : Int32) (v11 : Int32) (v12 : Nat) (v14 : Int32) (v15 : Int32) (v16 : Int32) (S : ZS) (ad : Nat → Nat) (N : Nat) (bv3 : Nat) (bv5 : Nat) (bv12 : Nat) (H : Heap) (locs : List Loc) (ls : Array Slot) (cells slots : Nat), GL E s F H locs ad N S cells slots → RA E ad N v3 bv3 → RA E ad N v5 bv5 → RA E ad N v12 bv12 → lv_has ls 28 [(0, .ref E.sb), (1, .ref (E.ad 0)), (2, .int v2), (3, .ref bv3), (5, .ref bv5), (6, .int v6), (7, .long v7), (9, .int v9), (10, .int v10), (11, .int v11), (12, .ref bv12), (14, .int v14), (15, .int v15), (16, .int v16)] → kL_law_283 E.sL E.sx K154 v2 v3 v5 v6 v7 v9 v10 v11 v12 v14 v15 v16 S = some u → W p l e (F.R 1400) s m args below meth c H locs cells slots Q (F0 m 283 ls []) := by
    have hx := C.1
    have hb := C.2.1
    intro K154 hK154 v2 v3 v5 v6 v7 v9 v10 v11 v12 v14 v15 v16 S ad N bv3 bv5 bv12 H locs ls cells slots hG hv3 hv5 hv12 hl h
    unfold kL_law_283 at h
    refine lv_aload_n hx hb dL_law_283 rfl (lv_at hl 1 rfl) ?_
    refine lv_iload hx hb dL_law_284 (lv_at hl 12 rfl) ?_
    refine r2_clR C hA hl.1 hG [.int v15] [] (m8_isCovered E l hst v15 S.g) QCL_200.1 QCL_200.2 KC8 rfl (rm2 (by decide) (by decide)) (Nat.le_of_ble_eq_true rfl) rfl dL_law_286 hU h (fun x24 S25 H locs cells slots hG h => ?_)
    refine lv_aload_n hx hb dL_law_289 rfl (lv_at hl 1 rfl) ?_
    refine r2_clP C hA hl.1 hG [] [.int x24] (m8_minutesToGo E l S25.g) QCL_204.1 QCL_204.2 KC8 rfl (rm2 (by decide) (by decide)) (Nat.le_of_ble_eq_true rfl) rfl dL_law_290 h (fun x26 H locs hG h => ?_)
    refine lv_if_le (tgt := 310) hx hb dL_law_293 (by decide) (fun g27 => ?_) (fun g27 => ?_)
    · have h := (if_inv h).1 g27
      exact jL_law_310 hst C hA hU hq K154 hK154 v2 v3 v5 v6 v7 v9 v10 v11 v12 v14 v15 v16 x24 S25 _ _ _ _ _ _ _ _ _ _ hG hv3 hv5 hv12 (lv_sub hl [0, 1, 2, 3, 4, 5, 6, 7, 8, 9, 10, 11, 12, 13] rfl) h
    · have h := (if_inv h).2 g27
      refine lv_aload_n hx hb dL_law_296 rfl (lv_at hl 1 rfl) ?_
      refine lv_iconst (v := 0) hx hb dL_law_297 (by decide) ?_
      refine r2_clR C hA hl.1 hG [.int 0] [.int x24] (m8_mirrorOfJob E l hst 0 S25.g) QCL_207.1 QCL_207.2 KC8 rfl (rm2 (by decide) (by decide)) (Nat.le_of_ble_eq_true rfl) rfl dL_law_298 hU h (fun x28 S29 H locs cells slots hG h => ?_)
      refine lv_iload hx hb dL_law_301 (lv_at hl 12 rfl) ?_
      refine lv_icmp_ne (tgt := 310) hx hb dL_law_303 (by decide) (fun g30 => ?_) (fun g30 => ?_)
      · have h := (if_inv h).2 g30
        exact jL_law_310 hst C hA hU hq K154 hK154 v2 v3 v5 v6 v7 v9 v10 v11 v12 v14 v15 v16 x24 S29 _ _ _ _ _ _ _ _ _ _ hG hv3 hv5 hv12 (lv_sub hl [0, 1, 2, 3, 4, 5, 6, 7, 8, 9, 10, 11, 12, 13] rfl) h
      · have h := (if_inv h).1 g30
        refine lv_iconst (v := 1) hx hb dL_law_306 (by decide) ?_
        refine lv_goto (tgt := 311) hx hb dL_law_307 (by decide) ?_
        exact jL_law_311 hst C hA hU hq K154 hK154 v2 v3 v5 v6 v7 v9 v10 v11 v12 v14 v15 v16 1 x24 S29 _ _ _ _ _ _ _ _ _ _ hG hv3 hv5 hv12 (lv_sub hl [0, 1, 2, 3, 4, 5, 6, 7, 8, 9, 10, 11, 12, 13] rfl) h
