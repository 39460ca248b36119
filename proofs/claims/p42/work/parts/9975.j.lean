set_option maxRecDepth 100000 in
set_option maxHeartbeats 8000000 in
theorem jL_law_518 {E : EV} {l : Launch} (hst : l.stackTraces = false) {u : Int32 × ZS} {p : Program} {e : Env} {s : State} {m : MethodId} {args : Array Value} {below : List Frame} {meth : Method} {c : Code} {F : FT} {Q : State → Prop} (C : Cx p s m args meth c cL_law 28 RL E) (hA : CA F E s) (hU : F.uc = u.2.c ∧ F.uw = u.2.w) (hq : LQ p l e (F.R 1400) s m args below meth c E F u Q) : ∀ (K88 : Int32 → Nat → Nat → Int32 → ZS → Option (Int32 × ZS)), (∀ (v2 : Int32) (v3 : Nat) (v5 : Nat) (v6 : Int32) (S : ZS) (ad : Nat → Nat) (N : Nat) (bv3 : Nat) (bv5 : Nat) (H : Heap) (locs : List Loc) (ls : Array Slot) (cells slots : Nat), GL E s F H locs ad N S cells slots → RA E ad N v3 bv3 → RA E ad N v5 bv5 → lv_has ls 28 [(0, .ref E.sb), (1, .ref (E.ad 0)), (2, .int v2), (3, .ref bv3), (5, .ref bv5), (6, .int v6)] → K88 v2 v3 v5 v6 S = some u → W p l e (F.R 1400) s m args below meth c H locs cells slots Q (F0 m 88 ls [])) → ∀ f : Nat, ∀ (v2 : Int32) (v3 : Nat) (v5 : Nat) (v6 : Int32) (v7 : Int64) (v9 : Int32) (v14 : Int32) (v15 : Int32) (S : ZS) (ad : Nat → Nat) (N : Nat) (bv3 : Nat) (bv5 : Nat) (H : Heap) (locs : List Loc) (ls : Array Slot) (cells slots : Nat), GL E s F H locs ad N S cells slots → RA E ad N v3 bv3 → RA E ad N v5 bv5 → lv_has ls 28 [(0, .ref E.sb), (1, .ref (E.ad 0)), (2, .int v2), (3, .ref bv3), (5, .ref bv5), (6, .int v6), (7, .long v7), (9, .int v9), (14, .int v14), (15, .int v15)] → kL_law_518 E.sL E.sx K88 f v2 v3 v5 v6 v7 v9 v14 v15 S = some u → W p l e (F.R 1400) s m args below meth c H locs cells slots Q (F0 m 518 ls []) := by
    have hx := C.1
    have hb := C.2.1
    intro K88 hK88 f
    induction f with
    | zero =>
      intro v2 v3 v5 v6 v7 v9 v14 v15 S ad N bv3 bv5 H locs ls cells slots hG hv3 hv5 hl h
      unfold kL_law_518 at h
      cases h
    | succ f ih =>
      intro v2 v3 v5 v6 v7 v9 v14 v15 S ad N bv3 bv5 H locs ls cells slots hG hv3 hv5 hl h
      unfold kL_law_518 at h
      refine lv_iload hx hb dL_law_518 (lv_at hl 9 rfl) ?_
      refine lv_iload hx hb dL_law_520 (lv_at hl 8 rfl) ?_
      refine lv_icmp_ge (tgt := 579) hx hb dL_law_522 (by decide) (fun g113 => ?_) (fun g113 => ?_)
      · have h := (if_inv h).1 g113
        refine lv_aload_n hx hb dL_law_579 rfl (lv_at hl 3 rfl) ?_
        refine lv_iload hx hb dL_law_580 (lv_at hl 7 rfl) ?_
        refine r2_cVI C hA hl.1 hG hv3 [.int v9] [] (mX9_next E l v3 v9 S (RAq hG hv3)) (by rw [hv3.1]) QLL_35 KP11 rfl (rm2 (by decide) (by decide)) (Nat.le_of_ble_eq_true rfl) rfl dL_law_582 hU h (fun x116 S114 H locs ad115 cells slots hG hx9 h => ?_)
        have hv3 := hv3.up hx9
        have hv5 := hv5.up hx9
        refine lv_istore (lv' := [(15, .int x116), (0, .ref E.sb), (1, .ref (E.ad 0)), (2, .int v2), (3, .ref bv3), (5, .ref bv5), (6, .int v6), (7, .long v7), (9, .int v9), (14, .int v14)]) hx hb dL_law_585 hl (by decide) rfl (fun ls hl => ?_)
        refine lv_aload_n hx hb dL_law_587 rfl (lv_at hl 2 rfl) ?_
        refine lv_iload hx hb dL_law_588 (lv_at hl 0 rfl) ?_
        refine r2_clR C hA hl.1 hG [.int x116] [] (m8_offsetOf E l hst x116 S114.g) QCL_194.1 QCL_194.2 KC8 rfl (rm2 (by decide) (by decide)) (Nat.le_of_ble_eq_true rfl) rfl dL_law_590 hU h (fun x117 S118 H locs cells slots hG h => ?_)
        refine lv_istore (lv' := [(16, .int x117), (15, .int x116), (0, .ref E.sb), (1, .ref (E.ad 0)), (2, .int v2), (3, .ref bv3), (5, .ref bv5), (6, .int v6), (7, .long v7), (9, .int v9), (14, .int v14)]) hx hb dL_law_593 hl (by decide) rfl (fun ls hl => ?_)
        refine lv_aload_n hx hb dL_law_595 rfl (lv_at hl 3 rfl) ?_
        refine r2_clI C hA hl.1 hG [] [] (m8_lightAtEnd E l S118.g) QCL_221.1 QCL_221.2 KC8 rfl (rm2 (by decide) (by decide)) (Nat.le_of_ble_eq_true rfl) rfl dL_law_596 h (fun x119 S120 H locs hG h => ?_)
        refine lv_istore (lv' := [(17, .int x119), (16, .int x117), (15, .int x116), (0, .ref E.sb), (1, .ref (E.ad 0)), (2, .int v2), (3, .ref bv3), (5, .ref bv5), (6, .int v6), (7, .long v7), (9, .int v9), (14, .int v14)]) hx hb dL_law_599 hl (by decide) rfl (fun ls hl => ?_)
        refine lv_aload_n hx hb dL_law_601 rfl (lv_at hl 4 rfl) ?_
        refine lv_iload hx hb dL_law_602 (lv_at hl 2 rfl) ?_
        refine r2_clR C hA hl.1 hG [.int x116] [] (m8_bestOffset E l hst x116 S120.g) QCL_237.1 QCL_237.2 KC8 rfl (rm2 (by decide) (by decide)) (Nat.le_of_ble_eq_true rfl) rfl dL_law_604 hU h (fun x121 S122 H locs cells slots hG h => ?_)
        refine lv_istore (lv' := [(18, .int x121), (17, .int x119), (16, .int x117), (15, .int x116), (0, .ref E.sb), (1, .ref (E.ad 0)), (2, .int v2), (3, .ref bv3), (5, .ref bv5), (6, .int v6), (7, .long v7), (9, .int v9), (14, .int v14)]) hx hb dL_law_607 hl (by decide) rfl (fun ls hl => ?_)
        refine lv_aload_n hx hb dL_law_609 rfl (lv_at hl 5 rfl) ?_
        refine lv_iload hx hb dL_law_610 (lv_at hl 3 rfl) ?_
        refine lv_iload hx hb dL_law_612 (lv_at hl 0 rfl) ?_
        refine r2_clR C hA hl.1 hG [.int x116, .int x121] [] (m8_turnMirror E l hst x116 x121 S122.g) QCL_132.1 QCL_132.2 KC8 rfl (rm2 (by decide) (by decide)) (Nat.le_of_ble_eq_true rfl) rfl dL_law_614 hU h (fun x123 S124 H locs cells slots hG h => ?_)
        refine lv_iload hx hb dL_law_617 (lv_at hl 2 rfl) ?_
        refine lv_icmp_ne (tgt := 665) hx hb dL_law_619 (by decide) (fun g125 => ?_) (fun g125 => ?_)
        · have h := (if_inv h).2 g125
          refine lv_iconst (v := 0) hx hb dL_law_665 (by decide) ?_
          exact lw9_ret hq hG dL_law_666 h
        · have h := (if_inv h).1 g125
          refine lv_aload_n hx hb dL_law_622 rfl (lv_at hl 5 rfl) ?_
          refine r2_clI C hA hl.1 hG [] [] (m8_lightAtEnd E l S124.g) QCL_221.1 QCL_221.2 KC8 rfl (rm2 (by decide) (by decide)) (Nat.le_of_ble_eq_true rfl) rfl dL_law_623 h (fun x126 S127 H locs hG h => ?_)
          refine lv_iload hx hb dL_law_626 (lv_at hl 1 rfl) ?_
          refine lv_icmp_lt (tgt := 665) hx hb dL_law_628 (by decide) (fun g128 => ?_) (fun g128 => ?_)
          · have h := (if_inv h).1 g128
            refine lv_iconst (v := 0) hx hb dL_law_665 (by decide) ?_
            exact lw9_ret hq hG dL_law_666 h
          · have h := (if_inv h).2 g128
            refine lv_aload_n hx hb dL_law_631 rfl (lv_at hl 5 rfl) ?_
            refine lv_iload hx hb dL_law_632 (lv_at hl 3 rfl) ?_
            refine r2_clR C hA hl.1 hG [.int x116] [] (m8_bestOffset E l hst x116 S127.g) QCL_237.1 QCL_237.2 KC8 rfl (rm2 (by decide) (by decide)) (Nat.le_of_ble_eq_true rfl) rfl dL_law_634 hU h (fun x129 S130 H locs cells slots hG h => ?_)
            refine lv_iload hx hb dL_law_637 (lv_at hl 0 rfl) ?_
            refine lv_icmp_ne (tgt := 665) hx hb dL_law_639 (by decide) (fun g131 => ?_) (fun g131 => ?_)
            · have h := (if_inv h).2 g131
              refine lv_iconst (v := 0) hx hb dL_law_665 (by decide) ?_
              exact lw9_ret hq hG dL_law_666 h
            · have h := (if_inv h).1 g131
              refine lv_aload_n hx hb dL_law_642 rfl (lv_at hl 5 rfl) ?_
              refine lv_iload hx hb dL_law_643 (lv_at hl 3 rfl) ?_
              refine lv_iload hx hb dL_law_645 (lv_at hl 2 rfl) ?_
              refine r2_clR C hA hl.1 hG [.int x116, .int x117] [] (m8_turnMirror E l hst x116 x117 S130.g) QCL_132.1 QCL_132.2 KC8 rfl (rm2 (by decide) (by decide)) (Nat.le_of_ble_eq_true rfl) rfl dL_law_647 hU h (fun x132 S133 H locs cells slots hG h => ?_)
              refine lv_iload hx hb dL_law_650 (lv_at hl 0 rfl) ?_
              refine lv_icmp_ne (tgt := 665) hx hb dL_law_652 (by decide) (fun g134 => ?_) (fun g134 => ?_)
              · have h := (if_inv h).2 g134
                refine lv_iconst (v := 0) hx hb dL_law_665 (by decide) ?_
                exact lw9_ret hq hG dL_law_666 h
              · have h := (if_inv h).1 g134
                refine lv_aload_n hx hb dL_law_655 rfl (lv_at hl 5 rfl) ?_
                refine r2_clL C hA hl.1 hG [] [] (m8_digest E l S133.g) QCL_176.1 QCL_176.2 KC8 rfl (rm2 (by decide) (by decide)) (Nat.le_of_ble_eq_true rfl) rfl dL_law_656 h (fun x135 S136 H locs hG h => ?_)
                refine lv_lload hx hb dL_law_659 (lv_at hl 10 rfl) ?_
                refine W.lcmp hx hb dL_law_661 ?_
                refine lv_if_eq (tgt := 667) hx hb dL_law_662 (by decide) (fun g137 => ?_) (fun g137 => ?_)
                · have h := (if_inv h).1 g137
                  refine lv_aload_n hx hb dL_law_667 rfl (lv_at hl 5 rfl) ?_
                  refine r2_clI C hA hl.1 hG [] [] (m8_minutesUntilSeen E l S136.g) QCL_231.1 QCL_231.2 KC8 rfl (rm2 (by decide) (by decide)) (Nat.le_of_ble_eq_true rfl) rfl dL_law_668 h (fun x138 S139 H locs hG h => ?_)
                  refine lv_istore (lv' := [(19, .int x138), (18, .int x121), (17, .int x119), (16, .int x117), (15, .int x116), (0, .ref E.sb), (1, .ref (E.ad 0)), (2, .int v2), (3, .ref bv3), (5, .ref bv5), (6, .int v6), (7, .long v7), (9, .int v9), (14, .int v14)]) hx hb dL_law_671 hl (by decide) rfl (fun ls hl => ?_)
                  refine lv_iload hx hb dL_law_673 (lv_at hl 13 rfl) ?_
                  refine lv_if_ne (tgt := 682) hx hb dL_law_675 (by decide) (fun g140 => ?_) (fun g140 => ?_)
                  · have h := (if_inv h).2 g140
                    refine lv_aload_n hx hb dL_law_682 rfl (lv_at hl 8 rfl) ?_
                    refine lv_iload hx hb dL_law_683 (lv_at hl 13 rfl) ?_
                    refine r2_cVI C hA hl.1 hG hv3 [.int v14] [] (mX9_next E l v3 v14 S139 (RAq hG hv3)) (by rw [hv3.1]) QLL_35 KP11 rfl (rm2 (by decide) (by decide)) (Nat.le_of_ble_eq_true rfl) rfl dL_law_685 hU h (fun x143 S141 H locs ad142 cells slots hG hx9 h => ?_)
                    have hv3 := hv3.up hx9
                    have hv5 := hv5.up hx9
                    exact jL_law_688 hst C hA hU hq K88 hK88 v2 v3 v5 v6 v7 x138 x143 S141 _ _ _ _ _ _ _ _ _ hG hv3 hv5 (lv_sub hl [5, 6, 7, 8, 9, 10, 11, 0] rfl) h
                  · have h := (if_inv h).1 g140
                    refine lv_iconst (v := (-1)) hx hb dL_law_678 (by decide) ?_
                    refine lv_goto (tgt := 688) hx hb dL_law_679 (by decide) ?_
                    exact jL_law_688 hst C hA hU hq K88 hK88 v2 v3 v5 v6 v7 x138 (-1) S139 _ _ _ _ _ _ _ _ _ hG hv3 hv5 (lv_sub hl [5, 6, 7, 8, 9, 10, 11, 0] rfl) h
                · have h := (if_inv h).2 g137
                  refine lv_iconst (v := 0) hx hb dL_law_665 (by decide) ?_
                  exact lw9_ret hq hG dL_law_666 h
      · have h := (if_inv h).2 g113
        refine lv_iconst (v := 0) hx hb dL_law_525 (by decide) ?_
        refine lv_istore (lv' := [(16, .int 0), (0, .ref E.sb), (1, .ref (E.ad 0)), (2, .int v2), (3, .ref bv3), (5, .ref bv5), (6, .int v6), (7, .long v7), (9, .int v9), (14, .int v14), (15, .int v15)]) hx hb dL_law_526 hl (by decide) rfl (fun ls hl => ?_)
        exact jL_law_528 hst C hA hU hq (kL_law_518 E.sL E.sx K88 f) ih FU v2 v3 v5 v6 v7 v9 v14 v15 0 S _ _ _ _ _ _ _ _ _ hG hv3 hv5 (lv_sub hl [1, 2, 3, 4, 5, 6, 7, 8, 9, 10, 0] rfl) h
