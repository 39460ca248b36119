set_option maxRecDepth 100000 in
set_option maxHeartbeats 8000000 in
theorem jL_law_771 {E : EV} {l : Launch} (hst : l.stackTraces = false) {u : Int32 × ZS} {p : Program} {e : Env} {s : State} {m : MethodId} {args : Array Value} {below : List Frame} {meth : Method} {c : Code} {F : FT} {Q : State → Prop} (C : Cx p s m args meth c cL_law 28 RL E) (hA : CA F E s) (hU : F.uc = u.2.c ∧ F.uw = u.2.w) (hq : LQ p l e (F.R 1400) s m args below meth c E F u Q) : ∀ (K88 : Int32 → Nat → Nat → Int32 → ZS → Option (Int32 × ZS)), (∀ (v2 : Int32) (v3 : Nat) (v5 : Nat) (v6 : Int32) (S : ZS) (ad : Nat → Nat) (N : Nat) (bv3 : Nat) (bv5 : Nat) (H : Heap) (locs : List Loc) (ls : Array Slot) (cells slots : Nat), GL E s F H locs ad N S cells slots → RA E ad N v3 bv3 → RA E ad N v5 bv5 → lv_has ls 28 [(0, .ref E.sb), (1, .ref (E.ad 0)), (2, .int v2), (3, .ref bv3), (5, .ref bv5), (6, .int v6)] → K88 v2 v3 v5 v6 S = some u → W p l e (F.R 1400) s m args below meth c H locs cells slots Q (F0 m 88 ls [])) → ∀ f : Nat, ∀ (v2 : Int32) (v3 : Nat) (v5 : Nat) (v6 : Int32) (v19 : Int32) (v20 : Int32) (v21 : Int32) (v22 : Int32) (v23 : Int32) (v24 : Int32) (v25 : Int32) (S : ZS) (ad : Nat → Nat) (N : Nat) (bv3 : Nat) (bv5 : Nat) (H : Heap) (locs : List Loc) (ls : Array Slot) (cells slots : Nat), GL E s F H locs ad N S cells slots → RA E ad N v3 bv3 → RA E ad N v5 bv5 → lv_has ls 28 [(0, .ref E.sb), (1, .ref (E.ad 0)), (2, .int v2), (3, .ref bv3), (5, .ref bv5), (6, .int v6), (19, .int v19), (20, .int v20), (21, .int v21), (22, .int v22), (23, .int v23), (24, .int v24), (25, .int v25)] → kL_law_771 E.sL E.sx K88 f v2 v3 v5 v6 v19 v20 v21 v22 v23 v24 v25 S = some u → W p l e (F.R 1400) s m args below meth c H locs cells slots Q (F0 m 771 ls []) := by
    have hx := C.1
    have hb := C.2.1
    intro K88 hK88 f
    induction f with
    | zero =>
      intro v2 v3 v5 v6 v19 v20 v21 v22 v23 v24 v25 S ad N bv3 bv5 H locs ls cells slots hG hv3 hv5 hl h
      unfold kL_law_771 at h
      cases h
    | succ f ih =>
      intro v2 v3 v5 v6 v19 v20 v21 v22 v23 v24 v25 S ad N bv3 bv5 H locs ls cells slots hG hv3 hv5 hl h
      unfold kL_law_771 at h
      refine lv_iload hx hb dL_law_771 (lv_at hl 12 rfl) ?_
      refine lv_iload hx hb dL_law_773 (lv_at hl 10 rfl) ?_
      refine lv_icmp_gt (tgt := 936) hx hb dL_law_775 (by decide) (fun g64 => ?_) (fun g64 => ?_)
      · have h := (if_inv h).1 g64
        refine lv_aload_n hx hb dL_law_936 rfl (lv_at hl 1 rfl) ?_
        refine r2_clI C hA hl.1 hG [] [] (m8_lightAtEnd E l S.g) QCL_221.1 QCL_221.2 KC8 rfl (rm2 (by decide) (by decide)) (Nat.le_of_ble_eq_true rfl) rfl dL_law_937 h (fun x65 S66 H locs hG h => ?_)
        refine lv_iload hx hb dL_law_940 (lv_at hl 11 rfl) ?_
        refine lv_icmp_eq (tgt := 947) hx hb dL_law_942 (by decide) (fun g67 => ?_) (fun g67 => ?_)
        · have h := (if_inv h).1 g67
          refine lv_aload_n hx hb dL_law_947 rfl (lv_at hl 1 rfl) ?_
          refine r2_clI C hA hl.1 hG [] [] (m8_bestToClean E l S66.g) QCL_251.1 QCL_251.2 KC8 rfl (rm2 (by decide) (by decide)) (Nat.le_of_ble_eq_true rfl) rfl dL_law_948 h (fun x68 S69 H locs hG h => ?_)
          refine lv_istore (lv' := [(25, .int x68), (0, .ref E.sb), (1, .ref (E.ad 0)), (2, .int v2), (3, .ref bv3), (5, .ref bv5), (6, .int v6), (19, .int v19), (20, .int v20), (21, .int v21), (22, .int v22), (23, .int v23), (24, .int v24)]) hx hb dL_law_951 hl (by decide) rfl (fun ls hl => ?_)
          refine lv_iload hx hb dL_law_953 (lv_at hl 0 rfl) ?_
          refine lv_if_lt (tgt := 975) hx hb dL_law_955 (by decide) (fun g70 => ?_) (fun g70 => ?_)
          · have h := (if_inv h).1 g70
            refine r_iinc (w := 1) (lv' := fun x71 => [(6, .int x71), (25, .int x68), (0, .ref E.sb), (1, .ref (E.ad 0)), (2, .int v2), (3, .ref bv3), (5, .ref bv5), (19, .int v19), (20, .int v20), (21, .int v21), (22, .int v22), (23, .int v23), (24, .int v24)]) C dL_law_975 hl (k := 6) rfl (by decide) (by decide) (fun _ => rfl) h (fun x71 ls hl h => ?_)
            refine lv_goto (tgt := 88) hx hb dL_law_978 (by decide) ?_
            exact hK88 v2 v3 v5 x71 S69 _ _ _ _ _ _ _ _ _ hG hv3 hv5 (lv_sub hl [2, 3, 4, 5, 6, 0] rfl) h
          · have h := (if_inv h).2 g70
            refine lv_aload_n hx hb dL_law_958 rfl (lv_at hl 2 rfl) ?_
            refine lv_iload hx hb dL_law_959 (lv_at hl 0 rfl) ?_
            refine r2_clR C hA hl.1 hG [.int x68] [] (m8_clarityOf E l hst x68 S69.g) QCL_210.1 QCL_210.2 KC8 rfl (rm2 (by decide) (by decide)) (Nat.le_of_ble_eq_true rfl) rfl dL_law_961 hU h (fun x72 S73 H locs cells slots hG h => ?_)
            refine lv_aload_n hx hb dL_law_964 rfl (lv_at hl 2 rfl) ?_
            refine lv_iload hx hb dL_law_965 (lv_at hl 0 rfl) ?_
            refine r2_clR C hA hl.1 hG [.int x68] [.int x72] (m8_bestClarityOf E l hst x68 S73.g) QCL_213.1 QCL_213.2 KC8 rfl (rm2 (by decide) (by decide)) (Nat.le_of_ble_eq_true rfl) rfl dL_law_967 hU h (fun x74 S75 H locs cells slots hG h => ?_)
            refine lv_icmp_lt (tgt := 975) hx hb dL_law_970 (by decide) (fun g76 => ?_) (fun g76 => ?_)
            · have h := (if_inv h).1 g76
              refine r_iinc (w := 1) (lv' := fun x77 => [(6, .int x77), (25, .int x68), (0, .ref E.sb), (1, .ref (E.ad 0)), (2, .int v2), (3, .ref bv3), (5, .ref bv5), (19, .int v19), (20, .int v20), (21, .int v21), (22, .int v22), (23, .int v23), (24, .int v24)]) C dL_law_975 hl (k := 6) rfl (by decide) (by decide) (fun _ => rfl) h (fun x77 ls hl h => ?_)
              refine lv_goto (tgt := 88) hx hb dL_law_978 (by decide) ?_
              exact hK88 v2 v3 v5 x77 S75 _ _ _ _ _ _ _ _ _ hG hv3 hv5 (lv_sub hl [2, 3, 4, 5, 6, 0] rfl) h
            · have h := (if_inv h).2 g76
              refine lv_iconst (v := 0) hx hb dL_law_973 (by decide) ?_
              exact lw9_ret hq hG dL_law_974 h
        · have h := (if_inv h).2 g67
          refine lv_iconst (v := 0) hx hb dL_law_945 (by decide) ?_
          exact lw9_ret hq hG dL_law_946 h
      · have h := (if_inv h).2 g64
        refine lv_aload_n hx hb dL_law_778 rfl (lv_at hl 1 rfl) ?_
        refine r2_clP C hA hl.1 hG [] [] (m8_jobsDone E l S.g) QCL_243.1 QCL_243.2 KC8 rfl (rm2 (by decide) (by decide)) (Nat.le_of_ble_eq_true rfl) rfl dL_law_779 h (fun x78 H locs hG h => ?_)
        refine lv_istore (lv' := [(26, .int x78), (0, .ref E.sb), (1, .ref (E.ad 0)), (2, .int v2), (3, .ref bv3), (5, .ref bv5), (6, .int v6), (19, .int v19), (20, .int v20), (21, .int v21), (22, .int v22), (23, .int v23), (24, .int v24), (25, .int v25)]) hx hb dL_law_782 hl (by decide) rfl (fun ls hl => ?_)
        refine lv_aload_n hx hb dL_law_784 rfl (lv_at hl 2 rfl) ?_
        refine lv_iconst (v := 1) hx hb dL_law_785 (by decide) ?_
        refine r2_clR C hA hl.1 hG [.int 1] [] (m8_passMinutes E l hst 1 S.g) QCL_102.1 QCL_102.2 KC8 rfl (rm2 (by decide) (by decide)) (Nat.le_of_ble_eq_true rfl) rfl dL_law_786 hU h (fun x79 S80 H locs cells slots hG h => ?_)
        refine lv_istore (lv' := [(27, .int x79), (26, .int x78), (0, .ref E.sb), (1, .ref (E.ad 0)), (2, .int v2), (3, .ref bv3), (5, .ref bv5), (6, .int v6), (19, .int v19), (20, .int v20), (21, .int v21), (22, .int v22), (23, .int v23), (24, .int v24), (25, .int v25)]) hx hb dL_law_789 hl (by decide) rfl (fun ls hl => ?_)
        refine lv_iload hx hb dL_law_791 (lv_at hl 0 rfl) ?_
        refine lv_aload hx hb dL_law_793 (lv_at hl 6 rfl) ?_
        refine r2_cVI C hA hl.1 hG hv5 [] [.int x79] (mX12_pass E l v5 S80 (RAq hG hv5)) (by rw [hv5.1]) QLL_249 KP14 rfl (rm2 (by decide) (by decide)) (Nat.le_of_ble_eq_true rfl) rfl dL_law_795 hU h (fun x83 S81 H locs ad82 cells slots hG hx9 h => ?_)
        have hv3 := hv3.up hx9
        have hv5 := hv5.up hx9
        refine lv_icmp_ne (tgt := 837) hx hb dL_law_798 (by decide) (fun g84 => ?_) (fun g84 => ?_)
        · have h := (if_inv h).2 g84
          refine lv_iconst (v := 0) hx hb dL_law_837 (by decide) ?_
          exact lw9_ret hq hG dL_law_838 h
        · have h := (if_inv h).1 g84
          refine lv_iload hx hb dL_law_801 (lv_at hl 0 rfl) ?_
          refine lv_if_lt (tgt := 837) hx hb dL_law_803 (by decide) (fun g85 => ?_) (fun g85 => ?_)
          · have h := (if_inv h).1 g85
            refine lv_iconst (v := 0) hx hb dL_law_837 (by decide) ?_
            exact lw9_ret hq hG dL_law_838 h
          · have h := (if_inv h).2 g85
            refine lv_iload hx hb dL_law_806 (lv_at hl 0 rfl) ?_
            refine lv_iconst (v := 1) hx hb dL_law_808 (by decide) ?_
            refine lv_icmp_gt (tgt := 837) hx hb dL_law_809 (by decide) (fun g86 => ?_) (fun g86 => ?_)
            · have h := (if_inv h).1 g86
              refine lv_iconst (v := 0) hx hb dL_law_837 (by decide) ?_
              exact lw9_ret hq hG dL_law_838 h
            · have h := (if_inv h).2 g86
              refine lv_aload_n hx hb dL_law_812 rfl (lv_at hl 3 rfl) ?_
              refine r2_clP C hA hl.1 hG [] [] (m8_jobsDone E l S81.g) QCL_243.1 QCL_243.2 KC8 rfl (rm2 (by decide) (by decide)) (Nat.le_of_ble_eq_true rfl) rfl dL_law_813 h (fun x87 H locs hG h => ?_)
              refine lv_iload hx hb dL_law_816 (lv_at hl 1 rfl) ?_
              refine lv_iload hx hb dL_law_818 (lv_at hl 0 rfl) ?_
              refine lv_iadd hx hb dL_law_820 ?_
              refine lv_icmp_ne (tgt := 837) hx hb dL_law_821 (by decide) (fun g88 => ?_) (fun g88 => ?_)
              · have h := (if_inv h).2 g88
                refine lv_iconst (v := 0) hx hb dL_law_837 (by decide) ?_
                exact lw9_ret hq hG dL_law_838 h
              · have h := (if_inv h).1 g88
                refine lv_iload hx hb dL_law_824 (lv_at hl 0 rfl) ?_
                refine lv_iconst (v := 1) hx hb dL_law_826 (by decide) ?_
                refine lv_icmp_ne (tgt := 839) hx hb dL_law_827 (by decide) (fun g89 => ?_) (fun g89 => ?_)
                · have h := (if_inv h).2 g89
                  exact jL_law_839 hst C hA hU hq (kL_law_771 E.sL E.sx K88 f) ih v2 v3 v5 v6 v19 v20 v21 v22 v23 v24 v25 S81 _ _ _ _ _ _ _ _ _ hG hv3 hv5 (lv_sub hl [2, 3, 4, 5, 6, 7, 8, 9, 10, 11, 12, 13, 14] rfl) h
                · have h := (if_inv h).1 g89
                  refine lv_aload_n hx hb dL_law_830 rfl (lv_at hl 3 rfl) ?_
                  refine r2_clP C hA hl.1 hG [] [] (m8_minutesToGo E l S81.g) QCL_204.1 QCL_204.2 KC8 rfl (rm2 (by decide) (by decide)) (Nat.le_of_ble_eq_true rfl) rfl dL_law_831 h (fun x90 H locs hG h => ?_)
                  refine lv_if_le (tgt := 839) hx hb dL_law_834 (by decide) (fun g91 => ?_) (fun g91 => ?_)
                  · have h := (if_inv h).1 g91
                    exact jL_law_839 hst C hA hU hq (kL_law_771 E.sL E.sx K88 f) ih v2 v3 v5 v6 v19 v20 v21 v22 v23 v24 v25 S81 _ _ _ _ _ _ _ _ _ hG hv3 hv5 (lv_sub hl [2, 3, 4, 5, 6, 7, 8, 9, 10, 11, 12, 13, 14] rfl) h
                  · have h := (if_inv h).2 g91
                    refine lv_iconst (v := 0) hx hb dL_law_837 (by decide) ?_
                    exact lw9_ret hq hG dL_law_838 h
