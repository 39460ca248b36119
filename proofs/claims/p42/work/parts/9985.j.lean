set_option maxRecDepth 100000 in
set_option maxHeartbeats 16000000 in
theorem mL_law_b (E : EV) (l : Launch) (hst : l.stackTraces = false) (S0 : ZS) : ∀ u, kL_law E.sL E.sx S0 = some u → ∀ {p : Program} {e : Env} {s : State} {m : MethodId} {args : Array Value} {below : List Frame} {meth : Method} {c : Code} {ad : Nat → Nat} {F : FT} {N : Nat} {H : Heap} {locs : List Loc} {cells slots : Nat} {ls : Array Slot} {Q : State → Prop}, Cx p s m args meth c cL_law 28 RL E → CA F E s → F.uc = u.2.c ∧ F.uw = u.2.w → lv_has ls 28 [(1, .ref (E.ad 0)), (0, .ref E.sb)] → GL E s F H locs ad N S0 cells slots → LQ p l e (F.R 1400) s m args below meth c E F u Q → W p l e (F.R 1400) s m args below meth c H locs cells slots Q (F0 m 8 ls []) := by
  intro u h p e s m args below meth c ad F N H locs cells slots ls Q C hA hU hl hG hq
  unfold kL_law at h
  obtain ⟨hcw, h⟩ := chk_inv h
  have hx := C.1
  have hb := C.2.1
  refine lv_iconst (v := 0) hx hb dL_law_8 (by decide) ?_
  refine lv_istore_n (lv' := [(2, .int 0), (1, .ref (E.ad 0)), (0, .ref E.sb)]) hx hb dL_law_9 rfl hl (by decide) rfl (fun ls hl => ?_)
  exact jL_law_10 hst C hA hU hq FU 0 S0 _ _ _ _ _ _ _ hG (lv_sub hl [2, 1, 0] rfl) h
