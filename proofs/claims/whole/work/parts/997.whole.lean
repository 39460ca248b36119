/-! the law, started -/
theorem stack_off (l : Launch) (h : l.flags = flags0) : l.stackTraces = false := by
  unfold Launch.stackTraces
  rw [h]
  first
    | rfl
    | decide
    | decide +kernel
    | (unfold flags0; simp)
theorem whole_start {p : Program} {e : Env} {s : State} {m : MethodId} {below : List Frame} {meth : Method} {c : Code} (l : Launch) (hflags : l.flags = flags0) {b L : Nat} {xs : Nat → Int32} (hL : L ≤ 3072) (C0 : lw_At p s m meth c b L xs) : W p l e room_1 s m #[Value.ref b] below meth c s.heap [] 0 0 (lw_Z below #[Value.ref b] s) (entryFrame m ([Value.ref b] : List Value).toArray 9) :=
  start_of l (stack_off l hflags) ⟨p_feed, p_trim, p_teach, p_errorAt, p_mirrors, p_orders, p_minutes, p_tapeBytes, p_lightAtEnd, p_tiltAtEnd, p_isSeen, p_worstMirror, p_clarityOf, p_bestClarityOf, p_offsetOf, p_placeOf, p_lightBehind, p_lostAt, p_tiltBehind, p_isCovered, p_mirrorAt, p_jobs, p_jobsDone, p_kindOfJob, p_mirrorOfJob, p_minutesToGo, p_orderJob, p_cancelJob, p_turnMirror, p_dustMirror, p_moveMirror, p_passMinutes, p_lightAfter, p_minutesUntilSeen, p_minutesUntilDone, p_bestToClean, p_bestOffset, p_meanClarity, p_digest⟩ (fun _ _ h => h.suc) inv0 hL C0
