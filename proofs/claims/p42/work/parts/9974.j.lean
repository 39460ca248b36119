set_option maxRecDepth 100000 in
set_option maxHeartbeats 8000000 in
theorem jL_law_688 {E : EV} {l : Launch} (hst : l.stackTraces = false) {u : Int32 × ZS} {p : Program} {e : Env} {s : State} {m : MethodId} {args : Array Value} {below : List Frame} {meth : Method} {c : Code} {F : FT} {Q : State → Prop} (C : Cx p s m args meth c cL_law 28 RL E) (hA : CA F E s) (hU : F.uc = u.2.c ∧ F.uw = u.2.w) (hq : LQ p l e (F.R 1400) s m args below meth c E F u Q) : ∀ (K88 : Int32 → Nat → Nat → Int32 → ZS → Option (Int32 × ZS)), (∀ (v2 : Int32) (v3 : Nat) (v5 : Nat) (v6 : Int32) (S : ZS) (ad : Nat → Nat) (N : Nat) (bv3 : Nat) (bv5 : Nat) (H : Heap) (locs : List Loc) (ls : Array Slot) (cells slots : Nat), GL E s F H locs ad N S cells slots → RA E ad N v3 bv3 → RA E ad N v5 bv5 → lv_has ls 28 [(0, .ref E.sb), (1, .ref (E.ad 0)), (2, .int v2), (3, .ref bv3), (5, .ref bv5), (6, .int v6)] → K88 v2 v3 v5 v6 S = some u → W p l e (F.R 1400) s m args below meth c H locs cells slots Q (F0 m 88 ls [])) → ∀ (v2 : Int32) (v3 : Nat) (v5 : Nat) (v6 : Int32) (v7 : Int64) (v19 : Int32) (vt0 : Int32) (S : ZS) (ad : Nat → Nat) (N : Nat) (bv3 : Nat) (bv5 : Nat) (H : Heap) (locs : List Loc) (ls : Array Slot) (cells slots : Nat), GL E s F H locs ad N S cells slots → RA E ad N v3 bv3 → RA E ad N v5 bv5 → lv_has ls 28 [(0, .ref E.sb), (1, .ref (E.ad 0)), (2, .int v2), (3, .ref bv3), (5, .ref bv5), (6, .int v6), (7, .long v7), (19, .int v19)] → kL_law_688 E.sL E.sx K88 v2 v3 v5 v6 v7 v19 vt0 S = some u → W p l e (F.R 1400) s m args below meth c H locs cells slots Q (F0 m 688 ls [.int vt0]) := by
    have hx := C.1
    have hb := C.2.1
    intro K88 hK88 v2 v3 v5 v6 v7 v19 vt0 S ad N bv3 bv5 H locs ls cells slots hG hv3 hv5 hl h
    unfold kL_law_688 at h
    refine r_nm h (fun x109 h => ?_)
    refine lv_istore (lv' := [(20, .int x109), (0, .ref E.sb), (1, .ref (E.ad 0)), (2, .int v2), (3, .ref bv3), (5, .ref bv5), (6, .int v6), (7, .long v7), (19, .int v19)]) hx hb dL_law_688 hl (by decide) rfl (fun ls hl => ?_)
    refine lv_iload hx hb dL_law_690 (lv_at hl 0 rfl) ?_
    refine lv_if_ge (tgt := 699) hx hb dL_law_692 (by decide) (fun g110 => ?_) (fun g110 => ?_)
    · have h := (if_inv h).1 g110
      refine lv_aload_n hx hb dL_law_699 rfl (lv_at hl 2 rfl) ?_
      refine lv_iload hx hb dL_law_700 (lv_at hl 0 rfl) ?_
      refine r2_clR C hA hl.1 hG [.int x109] [] (m8_minutesUntilDone E l hst x109 S.g) QCL_240.1 QCL_240.2 KC8 rfl (rm2 (by decide) (by decide)) (Nat.le_of_ble_eq_true rfl) rfl dL_law_702 hU h (fun x111 S112 H locs cells slots hG h => ?_)
      exact jL_law_705 hst C hA hU hq K88 hK88 v2 v3 v5 v6 v7 v19 x109 x111 S112 _ _ _ _ _ _ _ _ _ hG hv3 hv5 (lv_sub hl [1, 2, 3, 4, 5, 6, 7, 8, 0] rfl) h
    · have h := (if_inv h).2 g110
      refine lv_iconst (v := (-1)) hx hb dL_law_695 (by decide) ?_
      refine lv_goto (tgt := 705) hx hb dL_law_696 (by decide) ?_
      exact jL_law_705 hst C hA hU hq K88 hK88 v2 v3 v5 v6 v7 v19 x109 (-1) S _ _ _ _ _ _ _ _ _ hG hv3 hv5 (lv_sub hl [1, 2, 3, 4, 5, 6, 7, 8, 0] rfl) h
