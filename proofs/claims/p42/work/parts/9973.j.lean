set_option maxRecDepth 100000 in
set_option maxHeartbeats 8000000 in
theorem jL_law_705 {E : EV} {l : Launch} (hst : l.stackTraces = false) {u : Int32 × ZS} {p : Program} {e : Env} {s : State} {m : MethodId} {args : Array Value} {below : List Frame} {meth : Method} {c : Code} {F : FT} {Q : State → Prop} (C : Cx p s m args meth c cL_law 28 RL E) (hA : CA F E s) (hU : F.uc = u.2.c ∧ F.uw = u.2.w) (hq : LQ p l e (F.R 1400) s m args below meth c E F u Q) : ∀ (K88 : Int32 → Nat → Nat → Int32 → ZS → Option (Int32 × ZS)), (∀ (v2 : Int32) (v3 : Nat) (v5 : Nat) (v6 : Int32) (S : ZS) (ad : Nat → Nat) (N : Nat) (bv3 : Nat) (bv5 : Nat) (H : Heap) (locs : List Loc) (ls : Array Slot) (cells slots : Nat), GL E s F H locs ad N S cells slots → RA E ad N v3 bv3 → RA E ad N v5 bv5 → lv_has ls 28 [(0, .ref E.sb), (1, .ref (E.ad 0)), (2, .int v2), (3, .ref bv3), (5, .ref bv5), (6, .int v6)] → K88 v2 v3 v5 v6 S = some u → W p l e (F.R 1400) s m args below meth c H locs cells slots Q (F0 m 88 ls [])) → ∀ (v2 : Int32) (v3 : Nat) (v5 : Nat) (v6 : Int32) (v7 : Int64) (v19 : Int32) (v20 : Int32) (vt0 : Int32) (S : ZS) (ad : Nat → Nat) (N : Nat) (bv3 : Nat) (bv5 : Nat) (H : Heap) (locs : List Loc) (ls : Array Slot) (cells slots : Nat), GL E s F H locs ad N S cells slots → RA E ad N v3 bv3 → RA E ad N v5 bv5 → lv_has ls 28 [(0, .ref E.sb), (1, .ref (E.ad 0)), (2, .int v2), (3, .ref bv3), (5, .ref bv5), (6, .int v6), (7, .long v7), (19, .int v19), (20, .int v20)] → kL_law_705 E.sL E.sx K88 v2 v3 v5 v6 v7 v19 v20 vt0 S = some u → W p l e (F.R 1400) s m args below meth c H locs cells slots Q (F0 m 705 ls [.int vt0]) := by
    have hx := C.1
    have hb := C.2.1
    intro K88 hK88 v2 v3 v5 v6 v7 v19 v20 vt0 S ad N bv3 bv5 H locs ls cells slots hG hv3 hv5 hl h
    unfold kL_law_705 at h
    refine r_nm h (fun x92 h => ?_)
    refine lv_istore (lv' := [(21, .int x92), (0, .ref E.sb), (1, .ref (E.ad 0)), (2, .int v2), (3, .ref bv3), (5, .ref bv5), (6, .int v6), (7, .long v7), (19, .int v19), (20, .int v20)]) hx hb dL_law_705 hl (by decide) rfl (fun ls hl => ?_)
    refine lv_aload_n hx hb dL_law_707 rfl (lv_at hl 2 rfl) ?_
    refine r2_clP C hA hl.1 hG [] [] (m8_jobsDone E l S.g) QCL_243.1 QCL_243.2 KC8 rfl (rm2 (by decide) (by decide)) (Nat.le_of_ble_eq_true rfl) rfl dL_law_708 h (fun x93 H locs hG h => ?_)
    refine lv_istore (lv' := [(22, .int x93), (21, .int x92), (0, .ref E.sb), (1, .ref (E.ad 0)), (2, .int v2), (3, .ref bv3), (5, .ref bv5), (6, .int v6), (7, .long v7), (19, .int v19), (20, .int v20)]) hx hb dL_law_711 hl (by decide) rfl (fun ls hl => ?_)
    refine lv_iconst (v := 1) hx hb dL_law_713 (by decide) ?_
    refine lv_aload_n hx hb dL_law_714 rfl (lv_at hl 5 rfl) ?_
    refine lv_bipush (v := 25) hx hb dL_law_715 (by decide) ?_
    refine r2_cVI C hA hl.1 hG hv3 [.int 25] [.int 1] (mX9_next E l v3 25 S (RAq hG hv3)) (by rw [hv3.1]) QLL_35 KP11 rfl (rm2 (by decide) (by decide)) (Nat.le_of_ble_eq_true rfl) rfl dL_law_717 hU h (fun x96 S94 H locs ad95 cells slots hG hx9 h => ?_)
    have hv3 := hv3.up hx9
    have hv5 := hv5.up hx9
    refine lv_iadd hx hb dL_law_720 ?_
    refine r_nm h (fun x97 h => ?_)
    refine lv_istore (lv' := [(23, .int x97), (22, .int x93), (21, .int x92), (0, .ref E.sb), (1, .ref (E.ad 0)), (2, .int v2), (3, .ref bv3), (5, .ref bv5), (6, .int v6), (7, .long v7), (19, .int v19), (20, .int v20)]) hx hb dL_law_721 hl (by decide) rfl (fun ls hl => ?_)
    refine lv_aload_n hx hb dL_law_723 rfl (lv_at hl 4 rfl) ?_
    refine lv_iload hx hb dL_law_724 (lv_at hl 0 rfl) ?_
    refine r2_clR C hA hl.1 hG [.int x97] [] (m8_lightAfter E l hst x97 S94.g) QCL_246.1 QCL_246.2 KC8 rfl (rm2 (by decide) (by decide)) (Nat.le_of_ble_eq_true rfl) rfl dL_law_726 hU h (fun x98 S99 H locs cells slots hG h => ?_)
    refine lv_istore (lv' := [(24, .int x98), (23, .int x97), (22, .int x93), (21, .int x92), (0, .ref E.sb), (1, .ref (E.ad 0)), (2, .int v2), (3, .ref bv3), (5, .ref bv5), (6, .int v6), (7, .long v7), (19, .int v19), (20, .int v20)]) hx hb dL_law_729 hl (by decide) rfl (fun ls hl => ?_)
    refine lv_aload_n hx hb dL_law_731 rfl (lv_at hl 5 rfl) ?_
    refine r2_clL C hA hl.1 hG [] [] (m8_digest E l S99.g) QCL_176.1 QCL_176.2 KC8 rfl (rm2 (by decide) (by decide)) (Nat.le_of_ble_eq_true rfl) rfl dL_law_732 h (fun x100 S101 H locs hG h => ?_)
    refine lv_lload hx hb dL_law_735 (lv_at hl 10 rfl) ?_
    refine W.lcmp hx hb dL_law_737 ?_
    refine lv_if_ne (tgt := 766) hx hb dL_law_738 (by decide) (fun g102 => ?_) (fun g102 => ?_)
    · have h := (if_inv h).2 g102
      refine lv_iconst (v := 0) hx hb dL_law_766 (by decide) ?_
      exact lw9_ret hq hG dL_law_767 h
    · have h := (if_inv h).1 g102
      refine lv_iload hx hb dL_law_741 (lv_at hl 3 rfl) ?_
      refine lv_if_eq (tgt := 766) hx hb dL_law_743 (by decide) (fun g103 => ?_) (fun g103 => ?_)
      · have h := (if_inv h).1 g103
        refine lv_iconst (v := 0) hx hb dL_law_766 (by decide) ?_
        exact lw9_ret hq hG dL_law_767 h
      · have h := (if_inv h).2 g103
        refine lv_iload hx hb dL_law_746 (lv_at hl 12 rfl) ?_
        refine lv_if_le (tgt := 768) hx hb dL_law_748 (by decide) (fun g104 => ?_) (fun g104 => ?_)
        · have h := (if_inv h).1 g104
          exact jL_law_768 hst C hA hU hq K88 hK88 v2 v3 v5 v6 v19 v20 x92 x93 x97 x98 S101 _ _ _ _ _ _ _ _ _ hG hv3 hv5 (lv_sub hl [4, 5, 6, 7, 8, 9, 11, 12, 3, 2, 1, 0] rfl) h
        · have h := (if_inv h).2 g104
          refine lv_iload hx hb dL_law_751 (lv_at hl 3 rfl) ?_
          refine lv_if_le (tgt := 768) hx hb dL_law_753 (by decide) (fun g105 => ?_) (fun g105 => ?_)
          · have h := (if_inv h).1 g105
            exact jL_law_768 hst C hA hU hq K88 hK88 v2 v3 v5 v6 v19 v20 x92 x93 x97 x98 S101 _ _ _ _ _ _ _ _ _ hG hv3 hv5 (lv_sub hl [4, 5, 6, 7, 8, 9, 11, 12, 3, 2, 1, 0] rfl) h
          · have h := (if_inv h).2 g105
            refine lv_aload_n hx hb dL_law_756 rfl (lv_at hl 5 rfl) ?_
            refine lv_iconst (v := 0) hx hb dL_law_757 (by decide) ?_
            refine r2_clR C hA hl.1 hG [.int 0] [] (m8_minutesUntilDone E l hst 0 S101.g) QCL_240.1 QCL_240.2 KC8 rfl (rm2 (by decide) (by decide)) (Nat.le_of_ble_eq_true rfl) rfl dL_law_758 hU h (fun x106 S107 H locs cells slots hG h => ?_)
            refine lv_iload hx hb dL_law_761 (lv_at hl 3 rfl) ?_
            refine lv_icmp_lt (tgt := 768) hx hb dL_law_763 (by decide) (fun g108 => ?_) (fun g108 => ?_)
            · have h := (if_inv h).1 g108
              exact jL_law_768 hst C hA hU hq K88 hK88 v2 v3 v5 v6 v19 v20 x92 x93 x97 x98 S107 _ _ _ _ _ _ _ _ _ hG hv3 hv5 (lv_sub hl [4, 5, 6, 7, 8, 9, 11, 12, 3, 2, 1, 0] rfl) h
            · have h := (if_inv h).2 g108
              refine lv_iconst (v := 0) hx hb dL_law_766 (by decide) ?_
              exact lw9_ret hq hG dL_law_767 h
