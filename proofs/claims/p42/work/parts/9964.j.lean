set_option maxRecDepth 100000 in
set_option maxHeartbeats 8000000 in
theorem jL_law_528 {E : EV} {l : Launch} (hst : l.stackTraces = false) {u : Int32 × ZS} {p : Program} {e : Env} {s : State} {m : MethodId} {args : Array Value} {below : List Frame} {meth : Method} {c : Code} {F : FT} {Q : State → Prop} (C : Cx p s m args meth c cL_law 28 RL E) (hA : CA F E s) (hU : F.uc = u.2.c ∧ F.uw = u.2.w) (hq : LQ p l e (F.R 1400) s m args below meth c E F u Q) : ∀ (K518 : Int32 → Nat → Nat → Int32 → Int64 → Int32 → Int32 → Int32 → ZS → Option (Int32 × ZS)), (∀ (v2 : Int32) (v3 : Nat) (v5 : Nat) (v6 : Int32) (v7 : Int64) (v9 : Int32) (v14 : Int32) (v15 : Int32) (S : ZS) (ad : Nat → Nat) (N : Nat) (bv3 : Nat) (bv5 : Nat) (H : Heap) (locs : List Loc) (ls : Array Slot) (cells slots : Nat), GL E s F H locs ad N S cells slots → RA E ad N v3 bv3 → RA E ad N v5 bv5 → lv_has ls 28 [(0, .ref E.sb), (1, .ref (E.ad 0)), (2, .int v2), (3, .ref bv3), (5, .ref bv5), (6, .int v6), (7, .long v7), (9, .int v9), (14, .int v14), (15, .int v15)] → K518 v2 v3 v5 v6 v7 v9 v14 v15 S = some u → W p l e (F.R 1400) s m args below meth c H locs cells slots Q (F0 m 518 ls [])) → ∀ f : Nat, ∀ (v2 : Int32) (v3 : Nat) (v5 : Nat) (v6 : Int32) (v7 : Int64) (v9 : Int32) (v14 : Int32) (v15 : Int32) (v16 : Int32) (S : ZS) (ad : Nat → Nat) (N : Nat) (bv3 : Nat) (bv5 : Nat) (H : Heap) (locs : List Loc) (ls : Array Slot) (cells slots : Nat), GL E s F H locs ad N S cells slots → RA E ad N v3 bv3 → RA E ad N v5 bv5 → lv_has ls 28 [(0, .ref E.sb), (1, .ref (E.ad 0)), (2, .int v2), (3, .ref bv3), (5, .ref bv5), (6, .int v6), (7, .long v7), (9, .int v9), (14, .int v14), (15, .int v15), (16, .int v16)] → kL_law_528 E.sL E.sx K518 f v2 v3 v5 v6 v7 v9 v14 v15 v16 S = some u → W p l e (F.R 1400) s m args below meth c H locs cells slots Q (F0 m 528 ls []) := by
    have hx := C.1
    have hb := C.2.1
    intro K518 hK518 f
    induction f with
    | zero =>
      intro v2 v3 v5 v6 v7 v9 v14 v15 v16 S ad N bv3 bv5 H locs ls cells slots hG hv3 hv5 hl h
      unfold kL_law_528 at h
      cases h
    | succ f ih =>
      intro v2 v3 v5 v6 v7 v9 v14 v15 v16 S ad N bv3 bv5 H locs ls cells slots hG hv3 hv5 hl h
      unfold kL_law_528 at h
      refine lv_iload hx hb dL_law_528 (lv_at hl 10 rfl) ?_
      refine lv_iload hx hb dL_law_530 (lv_at hl 9 rfl) ?_
      refine lv_icmp_ge (tgt := 573) hx hb dL_law_532 (by decide) (fun g31 => ?_) (fun g31 => ?_)
      · have h := (if_inv h).1 g31
        refine r_iinc (w := 1) (lv' := fun x32 => [(15, .int x32), (0, .ref E.sb), (1, .ref (E.ad 0)), (2, .int v2), (3, .ref bv3), (5, .ref bv5), (6, .int v6), (7, .long v7), (9, .int v9), (14, .int v14), (16, .int v16)]) C dL_law_573 hl (k := 9) rfl (by decide) (by decide) (fun _ => rfl) h (fun x32 ls hl h => ?_)
        refine lv_goto (tgt := 518) hx hb dL_law_576 (by decide) ?_
        exact hK518 v2 v3 v5 v6 v7 v9 v14 x32 S _ _ _ _ _ _ _ _ _ hG hv3 hv5 (lv_sub hl [1, 2, 3, 4, 5, 6, 7, 8, 9, 0] rfl) h
      · have h := (if_inv h).2 g31
        refine lv_aload_n hx hb dL_law_535 rfl (lv_at hl 1 rfl) ?_
        refine lv_iload hx hb dL_law_536 (lv_at hl 9 rfl) ?_
        refine r2_clR C hA hl.1 hG [.int v15] [] (m8_kindOfJob E l hst v15 S.g) QCL_234.1 QCL_234.2 KC8 rfl (rm2 (by decide) (by decide)) (Nat.le_of_ble_eq_true rfl) rfl dL_law_538 hU h (fun x33 S34 H locs cells slots hG h => ?_)
        refine lv_aload_n hx hb dL_law_541 rfl (lv_at hl 1 rfl) ?_
        refine lv_iload hx hb dL_law_542 (lv_at hl 10 rfl) ?_
        refine r2_clR C hA hl.1 hG [.int v16] [.int x33] (m8_kindOfJob E l hst v16 S34.g) QCL_234.1 QCL_234.2 KC8 rfl (rm2 (by decide) (by decide)) (Nat.le_of_ble_eq_true rfl) rfl dL_law_544 hU h (fun x35 S36 H locs cells slots hG h => ?_)
        refine lv_icmp_ne (tgt := 567) hx hb dL_law_547 (by decide) (fun g37 => ?_) (fun g37 => ?_)
        · have h := (if_inv h).2 g37
          refine r_iinc (w := 1) (lv' := fun x38 => [(16, .int x38), (0, .ref E.sb), (1, .ref (E.ad 0)), (2, .int v2), (3, .ref bv3), (5, .ref bv5), (6, .int v6), (7, .long v7), (9, .int v9), (14, .int v14), (15, .int v15)]) C dL_law_567 hl (k := 10) rfl (by decide) (by decide) (fun _ => rfl) h (fun x38 ls hl h => ?_)
          refine lv_goto (tgt := 528) hx hb dL_law_570 (by decide) ?_
          exact ih v2 v3 v5 v6 v7 v9 v14 v15 x38 S36 _ _ _ _ _ _ _ _ _ hG hv3 hv5 (lv_sub hl [1, 2, 3, 4, 5, 6, 7, 8, 9, 10, 0] rfl) h
        · have h := (if_inv h).1 g37
          refine lv_aload_n hx hb dL_law_550 rfl (lv_at hl 1 rfl) ?_
          refine lv_iload hx hb dL_law_551 (lv_at hl 9 rfl) ?_
          refine r2_clR C hA hl.1 hG [.int v15] [] (m8_mirrorOfJob E l hst v15 S36.g) QCL_207.1 QCL_207.2 KC8 rfl (rm2 (by decide) (by decide)) (Nat.le_of_ble_eq_true rfl) rfl dL_law_553 hU h (fun x39 S40 H locs cells slots hG h => ?_)
          refine lv_aload_n hx hb dL_law_556 rfl (lv_at hl 1 rfl) ?_
          refine lv_iload hx hb dL_law_557 (lv_at hl 10 rfl) ?_
          refine r2_clR C hA hl.1 hG [.int v16] [.int x39] (m8_mirrorOfJob E l hst v16 S40.g) QCL_207.1 QCL_207.2 KC8 rfl (rm2 (by decide) (by decide)) (Nat.le_of_ble_eq_true rfl) rfl dL_law_559 hU h (fun x41 S42 H locs cells slots hG h => ?_)
          refine lv_icmp_ne (tgt := 567) hx hb dL_law_562 (by decide) (fun g43 => ?_) (fun g43 => ?_)
          · have h := (if_inv h).2 g43
            refine r_iinc (w := 1) (lv' := fun x44 => [(16, .int x44), (0, .ref E.sb), (1, .ref (E.ad 0)), (2, .int v2), (3, .ref bv3), (5, .ref bv5), (6, .int v6), (7, .long v7), (9, .int v9), (14, .int v14), (15, .int v15)]) C dL_law_567 hl (k := 10) rfl (by decide) (by decide) (fun _ => rfl) h (fun x44 ls hl h => ?_)
            refine lv_goto (tgt := 528) hx hb dL_law_570 (by decide) ?_
            exact ih v2 v3 v5 v6 v7 v9 v14 v15 x44 S42 _ _ _ _ _ _ _ _ _ hG hv3 hv5 (lv_sub hl [1, 2, 3, 4, 5, 6, 7, 8, 9, 10, 0] rfl) h
          · have h := (if_inv h).1 g43
            refine lv_iconst (v := 0) hx hb dL_law_565 (by decide) ?_
            exact lw9_ret hq hG dL_law_566 h
