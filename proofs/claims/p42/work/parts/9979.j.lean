set_option maxRecDepth 100000 in
set_option maxHeartbeats 8000000 in
theorem jL_law_455 {E : EV} {l : Launch} (hst : l.stackTraces = false) {u : Int32 × ZS} {p : Program} {e : Env} {s : State} {m : MethodId} {args : Array Value} {below : List Frame} {meth : Method} {c : Code} {F : FT} {Q : State → Prop} (C : Cx p s m args meth c cL_law 28 RL E) (hA : CA F E s) (hU : F.uc = u.2.c ∧ F.uw = u.2.w) (hq : LQ p l e (F.R 1400) s m args below meth c E F u Q) : ∀ (K88 : Int32 → Nat → Nat → Int32 → ZS → Option (Int32 × ZS)), (∀ (v2 : Int32) (v3 : Nat) (v5 : Nat) (v6 : Int32) (S : ZS) (ad : Nat → Nat) (N : Nat) (bv3 : Nat) (bv5 : Nat) (H : Heap) (locs : List Loc) (ls : Array Slot) (cells slots : Nat), GL E s F H locs ad N S cells slots → RA E ad N v3 bv3 → RA E ad N v5 bv5 → lv_has ls 28 [(0, .ref E.sb), (1, .ref (E.ad 0)), (2, .int v2), (3, .ref bv3), (5, .ref bv5), (6, .int v6)] → K88 v2 v3 v5 v6 S = some u → W p l e (F.R 1400) s m args below meth c H locs cells slots Q (F0 m 88 ls [])) → ∀ (v2 : Int32) (v3 : Nat) (v5 : Nat) (v6 : Int32) (v7 : Int64) (v9 : Int32) (v14 : Int32) (S : ZS) (ad : Nat → Nat) (N : Nat) (bv3 : Nat) (bv5 : Nat) (H : Heap) (locs : List Loc) (ls : Array Slot) (cells slots : Nat), GL E s F H locs ad N S cells slots → RA E ad N v3 bv3 → RA E ad N v5 bv5 → lv_has ls 28 [(0, .ref E.sb), (1, .ref (E.ad 0)), (2, .int v2), (3, .ref bv3), (5, .ref bv5), (6, .int v6), (7, .long v7), (9, .int v9), (14, .int v14)] → kL_law_455 E.sL E.sx K88 v2 v3 v5 v6 v7 v9 v14 S = some u → W p l e (F.R 1400) s m args below meth c H locs cells slots Q (F0 m 455 ls []) := by
    have hx := C.1
    have hb := C.2.1
    intro K88 hK88 v2 v3 v5 v6 v7 v9 v14 S ad N bv3 bv5 H locs ls cells slots hG hv3 hv5 hl h
    unfold kL_law_455 at h
    refine lv_aload_n hx hb dL_law_455 rfl (lv_at hl 1 rfl) ?_
    refine r2_clI C hA hl.1 hG [] [] (m8_isSeen E l S.g) QCL_227.1 QCL_227.2 KC8 rfl (rm2 (by decide) (by decide)) (Nat.le_of_ble_eq_true rfl) rfl dL_law_456 h (fun x151 S152 H locs hG h => ?_)
    refine lv_aload_n hx hb dL_law_459 rfl (lv_at hl 1 rfl) ?_
    refine r2_clI C hA hl.1 hG [] [.int x151] (m8_lightAtEnd E l S152.g) QCL_221.1 QCL_221.2 KC8 rfl (rm2 (by decide) (by decide)) (Nat.le_of_ble_eq_true rfl) rfl dL_law_460 h (fun x153 S154 H locs hG h => ?_)
    refine lv_aload hx hb dL_law_463 (lv_at hl 4 rfl) ?_
    refine r2_gI C hG hv5 FQL_57 rfl dL_law_465 h (fun x155 h => ?_)
    refine lv_icmp_lt (tgt := 490) hx hb dL_law_468 (by decide) (fun g156 => ?_) (fun g156 => ?_)
    · have h := (if_inv h).1 g156
      exact jL_law_490 hst C hA hU hq K88 hK88 v2 v3 v5 v6 v7 v9 v14 x151 S154 _ _ _ _ _ _ _ _ _ hG hv3 hv5 (lv_sub hl [0, 1, 2, 3, 4, 5, 6, 7, 8] rfl) h
    · have h := (if_inv h).2 g156
      refine lv_aload_n hx hb dL_law_471 rfl (lv_at hl 1 rfl) ?_
      refine r2_clI C hA hl.1 hG [] [.int x151] (m8_tiltAtEnd E l S154.g) QCL_224.1 QCL_224.2 KC8 rfl (rm2 (by decide) (by decide)) (Nat.le_of_ble_eq_true rfl) rfl dL_law_472 h (fun x157 S158 H locs hG h => ?_)
      refine r_abs C hl.1 QLL_78 ⟨(Nat.le_of_ble_eq_true rfl), (Nat.le_of_ble_eq_true rfl), (GLr hG).1, (GLr hG).2⟩ dL_law_475 ?_
      refine r_nm h (fun x159 h => ?_)
      refine lv_aload hx hb dL_law_478 (lv_at hl 4 rfl) ?_
      refine r2_gI C hG hv5 FQL_40 rfl dL_law_480 h (fun x160 h => ?_)
      refine lv_icmp_gt (tgt := 490) hx hb dL_law_483 (by decide) (fun g161 => ?_) (fun g161 => ?_)
      · have h := (if_inv h).1 g161
        exact jL_law_490 hst C hA hU hq K88 hK88 v2 v3 v5 v6 v7 v9 v14 x151 S158 _ _ _ _ _ _ _ _ _ hG hv3 hv5 (lv_sub hl [0, 1, 2, 3, 4, 5, 6, 7, 8] rfl) h
      · have h := (if_inv h).2 g161
        refine lv_iconst (v := 1) hx hb dL_law_486 (by decide) ?_
        refine lv_goto (tgt := 491) hx hb dL_law_487 (by decide) ?_
        exact jL_law_491 hst C hA hU hq K88 hK88 v2 v3 v5 v6 v7 v9 v14 1 x151 S158 _ _ _ _ _ _ _ _ _ hG hv3 hv5 (lv_sub hl [0, 1, 2, 3, 4, 5, 6, 7, 8] rfl) h
