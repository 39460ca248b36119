set_option maxRecDepth 100000 in
set_option maxHeartbeats 8000000 in
theorem jL_law_1118 {E : EV} {l : Launch} (hst : l.stackTraces = false) {u : Int32 × ZS} {p : Program} {e : Env} {s : State} {m : MethodId} {args : Array Value} {below : List Frame} {meth : Method} {c : Code} {F : FT} {Q : State → Prop} (C : Cx p s m args meth c cL_law 28 RL E) (hA : CA F E s) (hU : F.uc = u.2.c ∧ F.uw = u.2.w) (hq : LQ p l e (F.R 1400) s m args below meth c E F u Q) : ∀ (K10 : Int32 → ZS → Option (Int32 × ZS)), (∀ (v2 : Int32) (S : ZS) (ad : Nat → Nat) (N : Nat) (H : Heap) (locs : List Loc) (ls : Array Slot) (cells slots : Nat), GL E s F H locs ad N S cells slots → lv_has ls 28 [(0, .ref E.sb), (1, .ref (E.ad 0)), (2, .int v2)] → K10 v2 S = some u → W p l e (F.R 1400) s m args below meth c H locs cells slots Q (F0 m 10 ls [])) → ∀ (v2 : Int32) (v6 : Int32) (v8 : Int32) (v9 : Int32) (S : ZS) (ad : Nat → Nat) (N : Nat) (H : Heap) (locs : List Loc) (ls : Array Slot) (cells slots : Nat), GL E s F H locs ad N S cells slots → lv_has ls 28 [(0, .ref E.sb), (1, .ref (E.ad 0)), (2, .int v2), (6, .int v6), (8, .int v8), (9, .int v9)] → kL_law_1118 E.sL E.sx K10 v2 v6 v8 v9 S = some u → W p l e (F.R 1400) s m args below meth c H locs cells slots Q (F0 m 1118 ls []) := by
    have hx := C.1
    have hb := C.2.1
    intro K10 hK10 v2 v6 v8 v9 S ad N H locs ls cells slots hG hl h
    unfold kL_law_1118 at h
    refine lv_iload hx hb dL_law_1118 (lv_at hl 4 rfl) ?_
    refine lv_if_ge (tgt := 1137) hx hb dL_law_1120 (by decide) (fun g219 => ?_) (fun g219 => ?_)
    · have h := (if_inv h).1 g219
      refine r_iinc (w := 1) (lv' := fun x220 => [(2, .int x220), (0, .ref E.sb), (1, .ref (E.ad 0)), (6, .int v6), (8, .int v8), (9, .int v9)]) C dL_law_1137 hl (k := 2) rfl (by decide) (by decide) (fun _ => rfl) h (fun x220 ls hl h => ?_)
      refine lv_goto (tgt := 10) hx hb dL_law_1140 (by decide) ?_
      exact hK10 x220 S _ _ _ _ _ _ _ hG (lv_sub hl [1, 2, 0] rfl) h
    · have h := (if_inv h).2 g219
      refine lv_iload hx hb dL_law_1123 (lv_at hl 5 rfl) ?_
      refine lv_if_le (tgt := 1137) hx hb dL_law_1125 (by decide) (fun g221 => ?_) (fun g221 => ?_)
      · have h := (if_inv h).1 g221
        refine r_iinc (w := 1) (lv' := fun x222 => [(2, .int x222), (0, .ref E.sb), (1, .ref (E.ad 0)), (6, .int v6), (8, .int v8), (9, .int v9)]) C dL_law_1137 hl (k := 2) rfl (by decide) (by decide) (fun _ => rfl) h (fun x222 ls hl h => ?_)
        refine lv_goto (tgt := 10) hx hb dL_law_1140 (by decide) ?_
        exact hK10 x222 S _ _ _ _ _ _ _ hG (lv_sub hl [1, 2, 0] rfl) h
      · have h := (if_inv h).2 g221
        refine lv_iload hx hb dL_law_1128 (lv_at hl 3 rfl) ?_
        refine lv_bipush (v := 100) hx hb dL_law_1130 (by decide) ?_
        refine lv_icmp_ge (tgt := 1137) hx hb dL_law_1132 (by decide) (fun g223 => ?_) (fun g223 => ?_)
        · have h := (if_inv h).1 g223
          refine r_iinc (w := 1) (lv' := fun x224 => [(2, .int x224), (0, .ref E.sb), (1, .ref (E.ad 0)), (6, .int v6), (8, .int v8), (9, .int v9)]) C dL_law_1137 hl (k := 2) rfl (by decide) (by decide) (fun _ => rfl) h (fun x224 ls hl h => ?_)
          refine lv_goto (tgt := 10) hx hb dL_law_1140 (by decide) ?_
          exact hK10 x224 S _ _ _ _ _ _ _ hG (lv_sub hl [1, 2, 0] rfl) h
        · have h := (if_inv h).2 g223
          refine lv_iconst (v := 0) hx hb dL_law_1135 (by decide) ?_
          exact lw9_ret hq hG dL_law_1136 h
