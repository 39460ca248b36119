set_option maxRecDepth 100000 in
set_option maxHeartbeats 8000000 in
theorem jL_law_506 {E : EV} {l : Launch} (hst : l.stackTraces = false) {u : Int32 × ZS} {p : Program} {e : Env} {s : State} {m : MethodId} {args : Array Value} {below : List Frame} {meth : Method} {c : Code} {F : FT} {Q : State → Prop} (C : Cx p s m args meth c cL_law 28 RL E) (hA : CA F E s) (hU : F.uc = u.2.c ∧ F.uw = u.2.w) (hq : LQ p l e (F.R 1400) s m args below meth c E F u Q) : ∀ (K88 : Int32 → Nat → Nat → Int32 → ZS → Option (Int32 × ZS)), (∀ (v2 : Int32) (v3 : Nat) (v5 : Nat) (v6 : Int32) (S : ZS) (ad : Nat → Nat) (N : Nat) (bv3 : Nat) (bv5 : Nat) (H : Heap) (locs : List Loc) (ls : Array Slot) (cells slots : Nat), GL E s F H locs ad N S cells slots → RA E ad N v3 bv3 → RA E ad N v5 bv5 → lv_has ls 28 [(0, .ref E.sb), (1, .ref (E.ad 0)), (2, .int v2), (3, .ref bv3), (5, .ref bv5), (6, .int v6)] → K88 v2 v3 v5 v6 S = some u → W p l e (F.R 1400) s m args below meth c H locs cells slots Q (F0 m 88 ls [])) → ∀ (v2 : Int32) (v3 : Nat) (v5 : Nat) (v6 : Int32) (v7 : Int64) (v9 : Int32) (v14 : Int32) (vt0 : Int32) (S : ZS) (ad : Nat → Nat) (N : Nat) (bv3 : Nat) (bv5 : Nat) (H : Heap) (locs : List Loc) (ls : Array Slot) (cells slots : Nat), GL E s F H locs ad N S cells slots → RA E ad N v3 bv3 → RA E ad N v5 bv5 → lv_has ls 28 [(0, .ref E.sb), (1, .ref (E.ad 0)), (2, .int v2), (3, .ref bv3), (5, .ref bv5), (6, .int v6), (7, .long v7), (9, .int v9), (14, .int v14)] → kL_law_506 E.sL E.sx K88 v2 v3 v5 v6 v7 v9 v14 vt0 S = some u → W p l e (F.R 1400) s m args below meth c H locs cells slots Q (F0 m 506 ls [.int vt0]) := by
    have hx := C.1
    have hb := C.2.1
    intro K88 hK88 v2 v3 v5 v6 v7 v9 v14 vt0 S ad N bv3 bv5 H locs ls cells slots hG hv3 hv5 hl h
    unfold kL_law_506 at h
    refine lv_aload_n hx hb dL_law_506 rfl (lv_at hl 1 rfl) ?_
    refine r2_clI C hA hl.1 hG [] [.int vt0] (m8_isSeen E l S.g) QCL_227.1 QCL_227.2 KC8 rfl (rm2 (by decide) (by decide)) (Nat.le_of_ble_eq_true rfl) rfl dL_law_507 h (fun x144 S145 H locs hG h => ?_)
    refine lv_icmp_eq (tgt := 515) hx hb dL_law_510 (by decide) (fun g146 => ?_) (fun g146 => ?_)
    · have h := (if_inv h).1 g146
      refine lv_iconst (v := 0) hx hb dL_law_515 (by decide) ?_
      refine lv_istore (lv' := [(15, .int 0), (0, .ref E.sb), (1, .ref (E.ad 0)), (2, .int v2), (3, .ref bv3), (5, .ref bv5), (6, .int v6), (7, .long v7), (9, .int v9), (14, .int v14)]) hx hb dL_law_516 hl (by decide) rfl (fun ls hl => ?_)
      exact jL_law_518 hst C hA hU hq K88 hK88 FU v2 v3 v5 v6 v7 v9 v14 0 S145 _ _ _ _ _ _ _ _ _ hG hv3 hv5 (lv_sub hl [1, 2, 3, 4, 5, 6, 7, 8, 9, 0] rfl) h
    · have h := (if_inv h).2 g146
      refine lv_iconst (v := 0) hx hb dL_law_513 (by decide) ?_
      exact lw9_ret hq hG dL_law_514 h
