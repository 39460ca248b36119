set_option maxRecDepth 100000 in
set_option maxHeartbeats 8000000 in
theorem jL_law_98 {E : EV} {l : Launch} (hst : l.stackTraces = false) {u : Int32 × ZS} {p : Program} {e : Env} {s : State} {m : MethodId} {args : Array Value} {below : List Frame} {meth : Method} {c : Code} {F : FT} {Q : State → Prop} (C : Cx p s m args meth c cL_law 28 RL E) (hA : CA F E s) (hU : F.uc = u.2.c ∧ F.uw = u.2.w) (hq : LQ p l e (F.R 1400) s m args below meth c E F u Q) : ∀ (K88 : Int32 → Nat → Nat → Int32 → ZS → Option (Int32 × ZS)), (∀ (v2 : Int32) (v3 : Nat) (v5 : Nat) (v6 : Int32) (S : ZS) (ad : Nat → Nat) (N : Nat) (bv3 : Nat) (bv5 : Nat) (H : Heap) (locs : List Loc) (ls : Array Slot) (cells slots : Nat), GL E s F H locs ad N S cells slots → RA E ad N v3 bv3 → RA E ad N v5 bv5 → lv_has ls 28 [(0, .ref E.sb), (1, .ref (E.ad 0)), (2, .int v2), (3, .ref bv3), (5, .ref bv5), (6, .int v6)] → K88 v2 v3 v5 v6 S = some u → W p l e (F.R 1400) s m args below meth c H locs cells slots Q (F0 m 88 ls [])) → ∀ f : Nat, ∀ (v2 : Int32) (v3 : Nat) (v5 : Nat) (v6 : Int32) (v7 : Int32) (S : ZS) (ad : Nat → Nat) (N : Nat) (bv3 : Nat) (bv5 : Nat) (H : Heap) (locs : List Loc) (ls : Array Slot) (cells slots : Nat), GL E s F H locs ad N S cells slots → RA E ad N v3 bv3 → RA E ad N v5 bv5 → lv_has ls 28 [(0, .ref E.sb), (1, .ref (E.ad 0)), (2, .int v2), (3, .ref bv3), (5, .ref bv5), (6, .int v6), (7, .int v7)] → kL_law_98 E.sL E.sx K88 f v2 v3 v5 v6 v7 S = some u → W p l e (F.R 1400) s m args below meth c H locs cells slots Q (F0 m 98 ls []) := by
    have hx := C.1
    have hb := C.2.1
    intro K88 hK88 f
    induction f with
    | zero =>
      intro v2 v3 v5 v6 v7 S ad N bv3 bv5 H locs ls cells slots hG hv3 hv5 hl h
      unfold kL_law_98 at h
      cases h
    | succ f ih =>
      intro v2 v3 v5 v6 v7 S ad N bv3 bv5 H locs ls cells slots hG hv3 hv5 hl h
      unfold kL_law_98 at h
      refine lv_iload hx hb dL_law_98 (lv_at hl 6 rfl) ?_
      refine lv_iconst (v := 2) hx hb dL_law_100 (by decide) ?_
      refine lv_icmp_ge (tgt := 122) hx hb dL_law_101 (by decide) (fun g207 => ?_) (fun g207 => ?_)
      · have h := (if_inv h).1 g207
        refine lv_aload_n hx hb dL_law_122 rfl (lv_at hl 1 rfl) ?_
        refine r2_clL C hA hl.1 hG [] [] (m8_digest E l S.g) QCL_176.1 QCL_176.2 KC8 rfl (rm2 (by decide) (by decide)) (Nat.le_of_ble_eq_true rfl) rfl dL_law_123 h (fun x208 S209 H locs hG h => ?_)
        refine lv_lstore (lv' := [(7, .long x208), (0, .ref E.sb), (1, .ref (E.ad 0)), (2, .int v2), (3, .ref bv3), (5, .ref bv5), (6, .int v6)]) hx hb dL_law_126 hl (by decide) rfl (fun ls hl => ?_)
        refine lv_aload_n hx hb dL_law_128 rfl (lv_at hl 2 rfl) ?_
        refine r2_clP C hA hl.1 hG [] [] (m8_mirrors E l S209.g) QCL_180.1 QCL_180.2 KC8 rfl (rm2 (by decide) (by decide)) (Nat.le_of_ble_eq_true rfl) rfl dL_law_129 h (fun x210 H locs hG h => ?_)
        refine lv_istore (lv' := [(9, .int x210), (7, .long x208), (0, .ref E.sb), (1, .ref (E.ad 0)), (2, .int v2), (3, .ref bv3), (5, .ref bv5), (6, .int v6)]) hx hb dL_law_132 hl (by decide) rfl (fun ls hl => ?_)
        refine lv_iconst (v := 0) hx hb dL_law_134 (by decide) ?_
        refine lv_istore (lv' := [(10, .int 0), (9, .int x210), (7, .long x208), (0, .ref E.sb), (1, .ref (E.ad 0)), (2, .int v2), (3, .ref bv3), (5, .ref bv5), (6, .int v6)]) hx hb dL_law_135 hl (by decide) rfl (fun ls hl => ?_)
        refine lv_iconst (v := 0) hx hb dL_law_137 (by decide) ?_
        refine lv_istore (lv' := [(11, .int 0), (10, .int 0), (9, .int x210), (7, .long x208), (0, .ref E.sb), (1, .ref (E.ad 0)), (2, .int v2), (3, .ref bv3), (5, .ref bv5), (6, .int v6)]) hx hb dL_law_138 hl (by decide) rfl (fun ls hl => ?_)
        refine lv_iload hx hb dL_law_140 (lv_at hl 2 rfl) ?_
        refine r2_newZ C hA hG LAAZ dL_law_142 hU h (fun bc211 c211 H ad213 S212 cells slots hG hx9 h_c211 h => ?_)
        have hv3 := hv3.up hx9
        have hv5 := hv5.up hx9
        refine lv_astore (lv' := [(12, .ref bc211), (11, .int 0), (10, .int 0), (9, .int x210), (7, .long x208), (0, .ref E.sb), (1, .ref (E.ad 0)), (2, .int v2), (3, .ref bv3), (5, .ref bv5), (6, .int v6)]) hx hb dL_law_144 hl (by decide) rfl (fun ls hl => ?_)
        refine lv_sipush (v := 10000) hx hb dL_law_146 (by decide) ?_
        refine lv_istore (lv' := [(13, .int 10000), (12, .ref bc211), (11, .int 0), (10, .int 0), (9, .int x210), (7, .long x208), (0, .ref E.sb), (1, .ref (E.ad 0)), (2, .int v2), (3, .ref bv3), (5, .ref bv5), (6, .int v6)]) hx hb dL_law_149 hl (by decide) rfl (fun ls hl => ?_)
        refine lv_iconst (v := 0) hx hb dL_law_151 (by decide) ?_
        refine lv_istore (lv' := [(14, .int 0), (13, .int 10000), (12, .ref bc211), (11, .int 0), (10, .int 0), (9, .int x210), (7, .long x208), (0, .ref E.sb), (1, .ref (E.ad 0)), (2, .int v2), (3, .ref bv3), (5, .ref bv5), (6, .int v6)]) hx hb dL_law_152 hl (by decide) rfl (fun ls hl => ?_)
        exact jL_law_154 hst C hA hU hq K88 hK88 FU v2 v3 v5 v6 x208 x210 0 0 c211 10000 0 S212 _ _ _ _ _ _ _ _ _ _ hG hv3 hv5 h_c211 (lv_sub hl [7, 8, 9, 10, 11, 12, 6, 5, 4, 3, 2, 1, 0] rfl) h
      · have h := (if_inv h).2 g207
        refine lv_aload_n hx hb dL_law_104 rfl (lv_at hl 1 rfl) ?_
        refine lv_aload hx hb dL_law_105 (lv_at hl 4 rfl) ?_
        refine lv_aload_n hx hb dL_law_107 rfl (lv_at hl 3 rfl) ?_
        refine r2_cHI C hA hl.1 hG [.ref (E.ad 0), .ref bv5, .ref bv3] [] (mL_act E l hst v5 v3 S (RAq hG hv5) (RAq hG hv3)) (by rw [hv5.1, hv3.1]) QHL_172 rfl (rm2 (by decide) (by decide)) (Nat.le_of_ble_eq_true rfl) rfl dL_law_108 hU h (fun x216 S214 H locs ad215 cells slots hG hx9 h => ?_)
        have hv3 := hv3.up hx9
        have hv5 := hv5.up hx9
        refine lv_if_ne (tgt := 116) hx hb dL_law_111 (by decide) (fun g217 => ?_) (fun g217 => ?_)
        · have h := (if_inv h).2 g217
          refine r_iinc (w := 1) (lv' := fun x218 => [(7, .int x218), (0, .ref E.sb), (1, .ref (E.ad 0)), (2, .int v2), (3, .ref bv3), (5, .ref bv5), (6, .int v6)]) C dL_law_116 hl (k := 6) rfl (by decide) (by decide) (fun _ => rfl) h (fun x218 ls hl h => ?_)
          refine lv_goto (tgt := 98) hx hb dL_law_119 (by decide) ?_
          exact ih v2 v3 v5 v6 x218 S214 _ _ _ _ _ _ _ _ _ hG hv3 hv5 (lv_sub hl [1, 2, 3, 4, 5, 6, 0] rfl) h
        · have h := (if_inv h).1 g217
          refine lv_iconst (v := 0) hx hb dL_law_114 (by decide) ?_
          exact lw9_ret hq hG dL_law_115 h
