set_option maxRecDepth 100000 in
set_option maxHeartbeats 8000000 in
theorem jL_law_10 {E : EV} {l : Launch} (hst : l.stackTraces = false) {u : Int32 × ZS} {p : Program} {e : Env} {s : State} {m : MethodId} {args : Array Value} {below : List Frame} {meth : Method} {c : Code} {F : FT} {Q : State → Prop} (C : Cx p s m args meth c cL_law 28 RL E) (hA : CA F E s) (hU : F.uc = u.2.c ∧ F.uw = u.2.w) (hq : LQ p l e (F.R 1400) s m args below meth c E F u Q) : ∀ f : Nat, ∀ (v2 : Int32) (S : ZS) (ad : Nat → Nat) (N : Nat) (H : Heap) (locs : List Loc) (ls : Array Slot) (cells slots : Nat), GL E s F H locs ad N S cells slots → lv_has ls 28 [(0, .ref E.sb), (1, .ref (E.ad 0)), (2, .int v2)] → kL_law_10 E.sL E.sx f v2 S = some u → W p l e (F.R 1400) s m args below meth c H locs cells slots Q (F0 m 10 ls []) := by
    have hx := C.1
    have hb := C.2.1
    intro f
    induction f with
    | zero =>
      intro v2 S ad N H locs ls cells slots hG hl h
      unfold kL_law_10 at h
      cases h
    | succ f ih =>
      intro v2 S ad N H locs ls cells slots hG hl h
      unfold kL_law_10 at h
      refine lv_iload_n hx hb dL_law_10 rfl (lv_at hl 2 rfl) ?_
      refine lv_iconst (v := 2) hx hb dL_law_11 (by decide) ?_
      refine lv_icmp_ge (tgt := 1143) hx hb dL_law_12 (by decide) (fun g283 => ?_) (fun g283 => ?_)
      · have h := (if_inv h).1 g283
        refine lv_iconst (v := 1) hx hb dL_law_1143 (by decide) ?_
        exact lw9_ret hq hG dL_law_1144 h
      · have h := (if_inv h).2 g283
        refine r2_new C hA hG KP11 (mTBi 790 (by decide +kernel) rfl) (mTBi 791 (by decide +kernel) rfl) (mTBi 49 (by decide +kernel) rfl) (by decide +kernel) dL_law_15 hU h (fun bc284 c284 H ad286 S285 cells slots hG hx9 h_c284 h => ?_)
        refine lv_dup hx hb dL_law_18 rfl ?_
        refine lv_aload_n hx hb dL_law_19 rfl (lv_at hl 0 rfl) ?_
        refine lv_iload_n hx hb dL_law_20 rfl (lv_at hl 2 rfl) ?_
        refine r2_cSI C hA hl.1 hG [.ref E.sb, .int v2] [.ref bc284, .ref bc284] (mL_cell E l v2 S285) rfl QLL_151 rfl (rm2 (by decide) (by decide)) (Nat.le_of_ble_eq_true rfl) rfl dL_law_21 hU h (fun x289 S287 H locs ad288 cells slots hG hx9 h => ?_)
        have h_c284 := h_c284.up hx9
        refine lv_aload_n hx hb dL_law_24 rfl (lv_at hl 0 rfl) ?_
        refine lv_iload_n hx hb dL_law_25 rfl (lv_at hl 2 rfl) ?_
        refine lv_iconst (v := 3) hx hb dL_law_26 (by decide) ?_
        refine lv_iadd hx hb dL_law_27 ?_
        refine r2_cSI C hA hl.1 hG [.ref E.sb, .int (v2 + 3)] [.int x289, .ref bc284, .ref bc284] (mL_cell E l (v2 + 3) S287) rfl QLL_151 rfl (rm2 (by decide) (by decide)) (Nat.le_of_ble_eq_true rfl) rfl dL_law_28 hU h (fun x292 S290 H locs ad291 cells slots hG hx9 h => ?_)
        have h_c284 := h_c284.up hx9
        refine lv_bipush (v := 31) hx hb dL_law_31 (by decide) ?_
        refine lv_imul hx hb dL_law_33 ?_
        refine lv_ixor hx hb dL_law_34 ?_
        refine lv_aload_n hx hb dL_law_35 rfl (lv_at hl 0 rfl) ?_
        refine lv_iload_n hx hb dL_law_36 rfl (lv_at hl 2 rfl) ?_
        refine lv_bipush (v := 6) hx hb dL_law_37 (by decide) ?_
        refine lv_iadd hx hb dL_law_39 ?_
        refine r2_cSI C hA hl.1 hG [.ref E.sb, .int (v2 + 6)] [.int (x289 ^^^ (x292 * 31)), .ref bc284, .ref bc284] (mL_cell E l (v2 + 6) S290) rfl QLL_151 rfl (rm2 (by decide) (by decide)) (Nat.le_of_ble_eq_true rfl) rfl dL_law_40 hU h (fun x295 S293 H locs ad294 cells slots hG hx9 h => ?_)
        have h_c284 := h_c284.up hx9
        refine lv_sipush (v := 1009) hx hb dL_law_43 (by decide) ?_
        refine lv_imul hx hb dL_law_46 ?_
        refine lv_ixor hx hb dL_law_47 ?_
        refine r2_cIV C hA hl.1 hG [.int ((x289 ^^^ (x292 * 31)) ^^^ (x295 * 1009))] [.ref bc284] (mX9_init E l c284 ((x289 ^^^ (x292 * 31)) ^^^ (x295 * 1009)) S293 (RAq hG h_c284)) (by rw [h_c284.1]) QLL_157 rfl (rm2 (by decide) (by decide)) (Nat.le_of_ble_eq_true rfl) rfl dL_law_48 hU h (fun S296 H locs ad297 cells slots hG hx9 h => ?_)
        have h_c284 := h_c284.up hx9
        refine lv_astore_n (lv' := [(3, .ref bc284), (0, .ref E.sb), (1, .ref (E.ad 0)), (2, .int v2)]) hx hb dL_law_51 rfl hl (by decide) rfl (fun ls hl => ?_)
        refine r2_new C hA hG KP1 (mTBi 1655 (by decide +kernel) rfl) (mTBi 1502 (by decide +kernel) rfl) (mTBi 51 (by decide +kernel) rfl) (by decide +kernel) dL_law_52 hU h (fun bc298 c298 H ad300 S299 cells slots hG hx9 h_c298 h => ?_)
        have h_c284 := h_c284.up hx9
        refine lv_dup hx hb dL_law_55 rfl ?_
        refine r2_cIV C hA hl.1 hG [] [.ref bc298] (mJ4_init_da8c8 E l c298 S299 (RAq hG h_c298)) (by rw [h_c298.1]) QLL_160 rfl (rm2 (by decide) (by decide)) (Nat.le_of_ble_eq_true rfl) rfl dL_law_56 hU h (fun S301 H locs ad302 cells slots hG hx9 h => ?_)
        have h_c284 := h_c284.up hx9
        have h_c298 := h_c298.up hx9
        refine lv_astore (lv' := [(4, .ref bc298), (3, .ref bc284), (0, .ref E.sb), (1, .ref (E.ad 0)), (2, .int v2)]) hx hb dL_law_59 hl (by decide) rfl (fun ls hl => ?_)
        refine lv_aload_n hx hb dL_law_61 rfl (lv_at hl 1 rfl) ?_
        refine lv_aload hx hb dL_law_62 (lv_at hl 0 rfl) ?_
        refine lv_iconst (v := 1) hx hb dL_law_64 (by decide) ?_
        refine lv_iconst (v := 4) hx hb dL_law_65 (by decide) ?_
        refine r2_cSR C hA hl.1 hG [.ref bc284, .ref bc298, .int 1, .int 4] [] (mL_drawn E l c284 c298 1 4 S301 (RAq hG h_c284) (RAq hG h_c298)) (by rw [h_c284.1, h_c298.1]) QLL_161 rfl (rm2 (by decide) (by decide)) (Nat.le_of_ble_eq_true rfl) rfl dL_law_66 hU h (fun bc305 c305 S303 H locs ad304 cells slots hG hx9 h_c305 h => ?_)
        have h_c298 := h_c298.up hx9
        have h_c284 := h_c284.up hx9
        refine lv_astore (lv' := [(5, .ref bc305), (4, .ref bc298), (3, .ref bc284), (0, .ref E.sb), (1, .ref (E.ad 0)), (2, .int v2)]) hx hb dL_law_69 hl (by decide) rfl (fun ls hl => ?_)
        refine lv_aload_n hx hb dL_law_71 rfl (lv_at hl 4 rfl) ?_
        refine lv_aload hx hb dL_law_72 (lv_at hl 1 rfl) ?_
        refine r2_cVR C hA hl.1 hG h_c298 [] [.ref (E.ad 0)] (mJ4_toString_0e30d E l c298 S303 (RAq hG h_c298)) (by rw [h_c298.1]) QLL_165 KP1 rfl (rm2 (by decide) (by decide)) (Nat.le_of_ble_eq_true rfl) rfl dL_law_74 hU h (fun bc308 c308 S306 H locs ad307 cells slots hG hx9 h_c308 h => ?_)
        have h_c305 := h_c305.up hx9
        have h_c298 := h_c298.up hx9
        have h_c284 := h_c284.up hx9
        refine r2_cSI C hA hl.1 hG [.ref (E.ad 0), .ref bc308] [] (mL_taught E l hst c308 S306 (RAq hG h_c308)) (by rw [h_c308.1]) QLL_168 rfl (rm2 (by decide) (by decide)) (Nat.le_of_ble_eq_true rfl) rfl dL_law_77 hU h (fun x311 S309 H locs ad310 cells slots hG hx9 h => ?_)
        have h_c305 := h_c305.up hx9
        have h_c298 := h_c298.up hx9
        have h_c284 := h_c284.up hx9
        refine lv_if_eq (tgt := 85) hx hb dL_law_80 (by decide) (fun g312 => ?_) (fun g312 => ?_)
        · have h := (if_inv h).1 g312
          refine lv_iconst (v := 0) hx hb dL_law_85 (by decide) ?_
          refine lv_istore (lv' := [(6, .int 0), (5, .ref bc305), (4, .ref bc298), (3, .ref bc284), (0, .ref E.sb), (1, .ref (E.ad 0)), (2, .int v2)]) hx hb dL_law_86 hl (by decide) rfl (fun ls hl => ?_)
          exact jL_law_88 hst C hA hU hq (kL_law_10 E.sL E.sx f) ih FU v2 c284 c305 0 S309 _ _ _ _ _ _ _ _ _ hG h_c284 h_c305 (lv_sub hl [4, 5, 6, 3, 1, 0] rfl) h
        · have h := (if_inv h).2 g312
          refine lv_iconst (v := 0) hx hb dL_law_83 (by decide) ?_
          exact lw9_ret hq hG dL_law_84 h
