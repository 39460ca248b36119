set_option maxRecDepth 100000 in
set_option maxHeartbeats 8000000 in
theorem jL_law_884 {E : EV} {l : Launch} (hst : l.stackTraces = false) {u : Int32 × ZS} {p : Program} {e : Env} {s : State} {m : MethodId} {args : Array Value} {below : List Frame} {meth : Method} {c : Code} {F : FT} {Q : State → Prop} (C : Cx p s m args meth c cL_law 28 RL E) (hA : CA F E s) (hU : F.uc = u.2.c ∧ F.uw = u.2.w) (hq : LQ p l e (F.R 1400) s m args below meth c E F u Q) : ∀ (K771 : Int32 → Nat → Nat → Int32 → Int32 → Int32 → Int32 → Int32 → Int32 → Int32 → Int32 → ZS → Option (Int32 × ZS)), (∀ (v2 : Int32) (v3 : Nat) (v5 : Nat) (v6 : Int32) (v19 : Int32) (v20 : Int32) (v21 : Int32) (v22 : Int32) (v23 : Int32) (v24 : Int32) (v25 : Int32) (S : ZS) (ad : Nat → Nat) (N : Nat) (bv3 : Nat) (bv5 : Nat) (H : Heap) (locs : List Loc) (ls : Array Slot) (cells slots : Nat), GL E s F H locs ad N S cells slots → RA E ad N v3 bv3 → RA E ad N v5 bv5 → lv_has ls 28 [(0, .ref E.sb), (1, .ref (E.ad 0)), (2, .int v2), (3, .ref bv3), (5, .ref bv5), (6, .int v6), (19, .int v19), (20, .int v20), (21, .int v21), (22, .int v22), (23, .int v23), (24, .int v24), (25, .int v25)] → K771 v2 v3 v5 v6 v19 v20 v21 v22 v23 v24 v25 S = some u → W p l e (F.R 1400) s m args below meth c H locs cells slots Q (F0 m 771 ls [])) → ∀ (v2 : Int32) (v3 : Nat) (v5 : Nat) (v6 : Int32) (v19 : Int32) (v20 : Int32) (v21 : Int32) (v22 : Int32) (v23 : Int32) (v24 : Int32) (v25 : Int32) (S : ZS) (ad : Nat → Nat) (N : Nat) (bv3 : Nat) (bv5 : Nat) (H : Heap) (locs : List Loc) (ls : Array Slot) (cells slots : Nat), GL E s F H locs ad N S cells slots → RA E ad N v3 bv3 → RA E ad N v5 bv5 → lv_has ls 28 [(0, .ref E.sb), (1, .ref (E.ad 0)), (2, .int v2), (3, .ref bv3), (5, .ref bv5), (6, .int v6), (19, .int v19), (20, .int v20), (21, .int v21), (22, .int v22), (23, .int v23), (24, .int v24), (25, .int v25)] → kL_law_884 E.sL E.sx K771 v2 v3 v5 v6 v19 v20 v21 v22 v23 v24 v25 S = some u → W p l e (F.R 1400) s m args below meth c H locs cells slots Q (F0 m 884 ls []) := by
    have hx := C.1
    have hb := C.2.1
    intro K771 hK771 v2 v3 v5 v6 v19 v20 v21 v22 v23 v24 v25 S ad N bv3 bv5 H locs ls cells slots hG hv3 hv5 hl h
    unfold kL_law_884 at h
    refine lv_iload hx hb dL_law_884 (lv_at hl 8 rfl) ?_
    refine lv_if_le (tgt := 930) hx hb dL_law_886 (by decide) (fun g48 => ?_) (fun g48 => ?_)
    · have h := (if_inv h).1 g48
      refine r_iinc (w := 1) (lv' := fun x49 => [(25, .int x49), (0, .ref E.sb), (1, .ref (E.ad 0)), (2, .int v2), (3, .ref bv3), (5, .ref bv5), (6, .int v6), (19, .int v19), (20, .int v20), (21, .int v21), (22, .int v22), (23, .int v23), (24, .int v24)]) C dL_law_930 hl (k := 12) rfl (by decide) (by decide) (fun _ => rfl) h (fun x49 ls hl h => ?_)
      refine lv_goto (tgt := 771) hx hb dL_law_933 (by decide) ?_
      exact hK771 v2 v3 v5 v6 v19 v20 v21 v22 v23 v24 x49 S _ _ _ _ _ _ _ _ _ hG hv3 hv5 (lv_sub hl [1, 2, 3, 4, 5, 6, 7, 8, 9, 10, 11, 12, 0] rfl) h
    · have h := (if_inv h).2 g48
      refine lv_iload hx hb dL_law_889 (lv_at hl 12 rfl) ?_
      refine lv_iload hx hb dL_law_891 (lv_at hl 8 rfl) ?_
      refine lv_icmp_gt (tgt := 930) hx hb dL_law_893 (by decide) (fun g50 => ?_) (fun g50 => ?_)
      · have h := (if_inv h).1 g50
        refine r_iinc (w := 1) (lv' := fun x51 => [(25, .int x51), (0, .ref E.sb), (1, .ref (E.ad 0)), (2, .int v2), (3, .ref bv3), (5, .ref bv5), (6, .int v6), (19, .int v19), (20, .int v20), (21, .int v21), (22, .int v22), (23, .int v23), (24, .int v24)]) C dL_law_930 hl (k := 12) rfl (by decide) (by decide) (fun _ => rfl) h (fun x51 ls hl h => ?_)
        refine lv_goto (tgt := 771) hx hb dL_law_933 (by decide) ?_
        exact hK771 v2 v3 v5 v6 v19 v20 v21 v22 v23 v24 x51 S _ _ _ _ _ _ _ _ _ hG hv3 hv5 (lv_sub hl [1, 2, 3, 4, 5, 6, 7, 8, 9, 10, 11, 12, 0] rfl) h
      · have h := (if_inv h).2 g50
        refine lv_aload_n hx hb dL_law_896 rfl (lv_at hl 1 rfl) ?_
        refine r2_clP C hA hl.1 hG [] [] (m8_jobsDone E l S.g) QCL_243.1 QCL_243.2 KC8 rfl (rm2 (by decide) (by decide)) (Nat.le_of_ble_eq_true rfl) rfl dL_law_897 h (fun x52 H locs hG h => ?_)
        refine lv_iload hx hb dL_law_900 (lv_at hl 9 rfl) ?_
        refine lv_isub hx hb dL_law_902 ?_
        refine lv_iload hx hb dL_law_903 (lv_at hl 7 rfl) ?_
        refine lv_icmp_le (tgt := 912) hx hb dL_law_905 (by decide) (fun g53 => ?_) (fun g53 => ?_)
        · have h := (if_inv h).1 g53
          refine lv_iconst (v := 0) hx hb dL_law_912 (by decide) ?_
          exact jL_law_913 hst C hA hU hq K771 hK771 v2 v3 v5 v6 v19 v20 v21 v22 v23 v24 v25 0 S _ _ _ _ _ _ _ _ _ hG hv3 hv5 (lv_sub hl [0, 1, 2, 3, 4, 5, 6, 7, 8, 9, 10, 11, 12] rfl) h
        · have h := (if_inv h).2 g53
          refine lv_iconst (v := 1) hx hb dL_law_908 (by decide) ?_
          refine lv_goto (tgt := 913) hx hb dL_law_909 (by decide) ?_
          exact jL_law_913 hst C hA hU hq K771 hK771 v2 v3 v5 v6 v19 v20 v21 v22 v23 v24 v25 1 S _ _ _ _ _ _ _ _ _ hG hv3 hv5 (lv_sub hl [0, 1, 2, 3, 4, 5, 6, 7, 8, 9, 10, 11, 12] rfl) h
