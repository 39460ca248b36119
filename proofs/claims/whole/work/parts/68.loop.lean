theorem sub6 {i L : Nat} (hi : i < 2 ^ 30) (hL : L ≤ 3072) (h : ¬ nI L - 6 < nI i) : i + 6 ≤ L := by
  rw [Int32.lt_iff_toInt_lt, Int32.toInt_sub, nI_toInt (by omega), nI_toInt (by omega), show (6 : Int32).toInt = 6 from rfl, Int.bmod_eq_of_le (by omega) (by omega)] at h
  omega
section LOOP
variable {p : Program} {l : Launch} {e : Env} {s : State} {m : MethodId} {below : List Frame} {meth : Method} {c : Code} {E : EV} {tL : ClassId} {ao b L : Nat} {sc : Nat → Int32} {I : Nat → G → Prop}
set_option maxRecDepth 100000 in
set_option maxHeartbeats 4000000 in
theorem lw_switch (hS : Sim I) (hst : l.stackTraces = false) (C : Cx p s m #[Value.ref b] meth c cL_law 9 RL E) (hO : OT E tL ao s) (hao : s.heap.size ≤ ao) (hA9 : ¬ AA E s.heap.size b) (hX : va_X b L sc s s.heap) (hbl : b < s.heap.size) {i n k sl : Nat} {H : Heap} {locs : List Loc} {g : G} {f : Nat → Int64} {ls : Array Slot} {Q : State → Prop} (hi : i + 5 < L) (hL : L ≤ 3072) (hn : n ≤ 600) (hI : I n g) (hJ : ∀ n g, I n g → I (n + 1) g) (hG : Gd E s H locs g [oE tL ao f]) (hl : lv_has ls 9 [(0, .ref b), (1, .ref (E.ad 0)), (2, .ref (E.ad 47)), (3, .ref ao), (4, .int (nI i))]) (hk : k + 12 ≤ 601024 ∧ sl + 95 ≤ 7293034) {v : Int32}
    (KK : ∀ (H1 : Heap) (locs1 : List Loc) (g1 : G) (f1 : Nat → Int64) (ls1 : Array Slot) (k1 s1 : Nat), k1 ≤ k + 12 → s1 ≤ sl + 95 → I (n + 1) g1 → Gd E s H1 locs1 g1 [oE tL ao f1] → lv_has ls1 9 [(0, .ref b), (1, .ref (E.ad 0)), (2, .ref (E.ad 47)), (3, .ref ao), (4, .int (nI i))] → W p l e room_1 s m #[Value.ref b] below meth c H1 locs1 k1 s1 Q (F0 m 1828 ls1 [])) : W p l e room_1 s m #[Value.ref b] below meth c H locs k sl Q (F0 m 40 ls [.int v]) := by
  have hx := C.1
  have hb := C.2.1
  obtain ⟨h_feed, h_trim, h_teach, h_errorAt, h_mirrors, h_orders, h_minutes, h_tapeBytes, h_lightAtEnd, h_tiltAtEnd, h_isSeen, h_worstMirror, h_clarityOf, h_bestClarityOf, h_offsetOf, h_placeOf, h_lightBehind, h_lostAt, h_tiltBehind, h_isCovered, h_mirrorAt, h_jobs, h_jobsDone, h_kindOfJob, h_mirrorOfJob, h_minutesToGo, h_orderJob, h_cancelJob, h_turnMirror, h_dustMirror, h_moveMirror, h_passMinutes, h_lightAfter, h_minutesUntilSeen, h_minutesUntilDone, h_bestToClean, h_bestOffset, h_meanClarity, h_digest⟩ := hS
  by_cases h0 : v.toInt < 0 ∨ 38 < v.toInt
  · refine lv_tableOut (tgt := 1828) hx hb dL_law_40 h0 (by decide) ?_
    exact KK _ _ _ _ _ _ _ (by omega) (by omega) (hJ n g hI) hG hl
  · have h1 : ¬ v < 0 := fun h => h0 (Or.inl (Int32.lt_iff_toInt_lt.mp h))
    obtain ⟨j, hj, rfl⟩ := nI_of h1
    have h2 : j ≤ 38 := by rw [nI_toInt hj] at h0; omega
    clear h0 h1
    match j, h2 with
    | 0, _ => exact lv_tableIn (off := 172) (tgt := 212) hx hb dL_law_40 (by decide +kernel) (by decide +kernel) (by decide +kernel) (by decide) (cs_feed h_feed hst C hO hao hA9 hX hbl hi hL hI hG hl hk KK)
    | 1, _ => exact lv_tableIn (off := 276) (tgt := 316) hx hb dL_law_40 (by decide +kernel) (by decide +kernel) (by decide +kernel) (by decide) (cs_trim h_trim hst C hO hao hA9 hX hbl hi hL hI hG hl hk KK)
    | 2, _ => exact lv_tableIn (off := 332) (tgt := 372) hx hb dL_law_40 (by decide +kernel) (by decide +kernel) (by decide +kernel) (by decide) (cs_teach h_teach hst C hO hao hA9 hX hbl hi hL hI hG hl hk KK)
    | 3, _ => exact lv_tableIn (off := 345) (tgt := 385) hx hb dL_law_40 (by decide +kernel) (by decide +kernel) (by decide +kernel) (by decide) (cs_errorAt h_errorAt hst C hO hao hA9 hX hbl hi hL hI hG hl hk KK)
    | 4, _ => exact lv_tableIn (off := 358) (tgt := 398) hx hb dL_law_40 (by decide +kernel) (by decide +kernel) (by decide +kernel) (by decide) (cs_mirrors h_mirrors hst C hO hao hA9 hX hbl hi hL hI hG hl hk KK)
    | 5, _ => exact lv_tableIn (off := 371) (tgt := 411) hx hb dL_law_40 (by decide +kernel) (by decide +kernel) (by decide +kernel) (by decide) (cs_orders h_orders hst C hO hao hA9 hX hbl hi hL hI hG hl hk KK)
    | 6, _ => exact lv_tableIn (off := 384) (tgt := 424) hx hb dL_law_40 (by decide +kernel) (by decide +kernel) (by decide +kernel) (by decide) (cs_minutes h_minutes hst C hO hao hA9 hX hbl hi hL hI hG hl hk KK)
    | 7, _ => exact lv_tableIn (off := 397) (tgt := 437) hx hb dL_law_40 (by decide +kernel) (by decide +kernel) (by decide +kernel) (by decide) (cs_tapeBytes h_tapeBytes hst C hO hao hA9 hX hbl hi hL hI hG hl hk KK)
    | 8, _ => exact lv_tableIn (off := 410) (tgt := 450) hx hb dL_law_40 (by decide +kernel) (by decide +kernel) (by decide +kernel) (by decide) (cs_lightAtEnd h_lightAtEnd hst C hO hao hA9 hX hbl hi hL hI hG hl hk KK)
    | 9, _ => exact lv_tableIn (off := 423) (tgt := 463) hx hb dL_law_40 (by decide +kernel) (by decide +kernel) (by decide +kernel) (by decide) (cs_tiltAtEnd h_tiltAtEnd hst C hO hao hA9 hX hbl hi hL hI hG hl hk KK)
    | 10, _ => exact lv_tableIn (off := 436) (tgt := 476) hx hb dL_law_40 (by decide +kernel) (by decide +kernel) (by decide +kernel) (by decide) (cs_isSeen h_isSeen hst C hO hao hA9 hX hbl hi hL hI hG hl hk KK)
    | 11, _ => exact lv_tableIn (off := 449) (tgt := 489) hx hb dL_law_40 (by decide +kernel) (by decide +kernel) (by decide +kernel) (by decide) (cs_worstMirror h_worstMirror hst C hO hao hA9 hX hbl hi hL hI hG hl hk KK)
    | 12, _ => exact lv_tableIn (off := 493) (tgt := 533) hx hb dL_law_40 (by decide +kernel) (by decide +kernel) (by decide +kernel) (by decide) (cs_clarityOf h_clarityOf hst C hO hao hA9 hX hbl hi hL hI hG hl hk KK)
    | 13, _ => exact lv_tableIn (off := 549) (tgt := 589) hx hb dL_law_40 (by decide +kernel) (by decide +kernel) (by decide +kernel) (by decide) (cs_bestClarityOf h_bestClarityOf hst C hO hao hA9 hX hbl hi hL hI hG hl hk KK)
    | 14, _ => exact lv_tableIn (off := 605) (tgt := 645) hx hb dL_law_40 (by decide +kernel) (by decide +kernel) (by decide +kernel) (by decide) (cs_offsetOf h_offsetOf hst C hO hao hA9 hX hbl hi hL hI hG hl hk KK)
    | 15, _ => exact lv_tableIn (off := 661) (tgt := 701) hx hb dL_law_40 (by decide +kernel) (by decide +kernel) (by decide +kernel) (by decide) (cs_placeOf h_placeOf hst C hO hao hA9 hX hbl hi hL hI hG hl hk KK)
    | 16, _ => exact lv_tableIn (off := 717) (tgt := 757) hx hb dL_law_40 (by decide +kernel) (by decide +kernel) (by decide +kernel) (by decide) (cs_lightBehind h_lightBehind hst C hO hao hA9 hX hbl hi hL hI hG hl hk KK)
    | 17, _ => exact lv_tableIn (off := 773) (tgt := 813) hx hb dL_law_40 (by decide +kernel) (by decide +kernel) (by decide +kernel) (by decide) (cs_lostAt h_lostAt hst C hO hao hA9 hX hbl hi hL hI hG hl hk KK)
    | 18, _ => exact lv_tableIn (off := 829) (tgt := 869) hx hb dL_law_40 (by decide +kernel) (by decide +kernel) (by decide +kernel) (by decide) (cs_tiltBehind h_tiltBehind hst C hO hao hA9 hX hbl hi hL hI hG hl hk KK)
    | 19, _ => exact lv_tableIn (off := 885) (tgt := 925) hx hb dL_law_40 (by decide +kernel) (by decide +kernel) (by decide +kernel) (by decide) (cs_isCovered h_isCovered hst C hO hao hA9 hX hbl hi hL hI hG hl hk KK)
    | 20, _ => exact lv_tableIn (off := 948) (tgt := 988) hx hb dL_law_40 (by decide +kernel) (by decide +kernel) (by decide +kernel) (by decide) (cs_mirrorAt h_mirrorAt hst C hO hao hA9 hX hbl hi hL hI hG hl hk KK)
    | 21, _ => exact lv_tableIn (off := 1004) (tgt := 1044) hx hb dL_law_40 (by decide +kernel) (by decide +kernel) (by decide +kernel) (by decide) (cs_jobs h_jobs hst C hO hao hA9 hX hbl hi hL hI hG hl hk KK)
    | 22, _ => exact lv_tableIn (off := 1017) (tgt := 1057) hx hb dL_law_40 (by decide +kernel) (by decide +kernel) (by decide +kernel) (by decide) (cs_jobsDone h_jobsDone hst C hO hao hA9 hX hbl hi hL hI hG hl hk KK)
    | 23, _ => exact lv_tableIn (off := 1030) (tgt := 1070) hx hb dL_law_40 (by decide +kernel) (by decide +kernel) (by decide +kernel) (by decide) (cs_kindOfJob h_kindOfJob hst C hO hao hA9 hX hbl hi hL hI hG hl hk KK)
    | 24, _ => exact lv_tableIn (off := 1086) (tgt := 1126) hx hb dL_law_40 (by decide +kernel) (by decide +kernel) (by decide +kernel) (by decide) (cs_mirrorOfJob h_mirrorOfJob hst C hO hao hA9 hX hbl hi hL hI hG hl hk KK)
    | 25, _ => exact lv_tableIn (off := 1142) (tgt := 1182) hx hb dL_law_40 (by decide +kernel) (by decide +kernel) (by decide +kernel) (by decide) (cs_minutesToGo h_minutesToGo hst C hO hao hA9 hX hbl hi hL hI hG hl hk KK)
    | 26, _ => exact lv_tableIn (off := 1155) (tgt := 1195) hx hb dL_law_40 (by decide +kernel) (by decide +kernel) (by decide +kernel) (by decide) (cs_orderJob h_orderJob hst C hO hao hA9 hX hbl hi hL hI hG hl hk KK)
    | 27, _ => exact lv_tableIn (off := 1223) (tgt := 1263) hx hb dL_law_40 (by decide +kernel) (by decide +kernel) (by decide +kernel) (by decide) (cs_cancelJob h_cancelJob hst C hO hao hA9 hX hbl hi hL hI hG hl hk KK)
    | 28, _ => exact lv_tableIn (off := 1279) (tgt := 1319) hx hb dL_law_40 (by decide +kernel) (by decide +kernel) (by decide +kernel) (by decide) (cs_turnMirror h_turnMirror hst C hO hao hA9 hX hbl hi hL hI hG hl hk KK)
    | 29, _ => exact lv_tableIn (off := 1347) (tgt := 1387) hx hb dL_law_40 (by decide +kernel) (by decide +kernel) (by decide +kernel) (by decide) (cs_dustMirror h_dustMirror hst C hO hao hA9 hX hbl hi hL hI hG hl hk KK)
    | 30, _ => exact lv_tableIn (off := 1415) (tgt := 1455) hx hb dL_law_40 (by decide +kernel) (by decide +kernel) (by decide +kernel) (by decide) (cs_moveMirror h_moveMirror hst C hO hao hA9 hX hbl hi hL hI hG hl hk KK)
    | 31, _ => exact lv_tableIn (off := 1483) (tgt := 1523) hx hb dL_law_40 (by decide +kernel) (by decide +kernel) (by decide +kernel) (by decide) (cs_passMinutes h_passMinutes hst C hO hao hA9 hX hbl hi hL hI hG hl hk KK)
    | 32, _ => exact lv_tableIn (off := 1539) (tgt := 1579) hx hb dL_law_40 (by decide +kernel) (by decide +kernel) (by decide +kernel) (by decide) (cs_lightAfter h_lightAfter hst C hO hao hA9 hX hbl hi hL hI hG hl hk KK)
    | 33, _ => exact lv_tableIn (off := 1595) (tgt := 1635) hx hb dL_law_40 (by decide +kernel) (by decide +kernel) (by decide +kernel) (by decide) (cs_minutesUntilSeen h_minutesUntilSeen hst C hO hao hA9 hX hbl hi hL hI hG hl hk KK)
    | 34, _ => exact lv_tableIn (off := 1608) (tgt := 1648) hx hb dL_law_40 (by decide +kernel) (by decide +kernel) (by decide +kernel) (by decide) (cs_minutesUntilDone h_minutesUntilDone hst C hO hao hA9 hX hbl hi hL hn hI hG hl hk KK)
    | 35, _ => exact lv_tableIn (off := 1664) (tgt := 1704) hx hb dL_law_40 (by decide +kernel) (by decide +kernel) (by decide +kernel) (by decide) (cs_bestToClean h_bestToClean hst C hO hao hA9 hX hbl hi hL hI hG hl hk KK)
    | 36, _ => exact lv_tableIn (off := 1677) (tgt := 1717) hx hb dL_law_40 (by decide +kernel) (by decide +kernel) (by decide +kernel) (by decide) (cs_bestOffset h_bestOffset hst C hO hao hA9 hX hbl hi hL hI hG hl hk KK)
    | 37, _ => exact lv_tableIn (off := 1733) (tgt := 1773) hx hb dL_law_40 (by decide +kernel) (by decide +kernel) (by decide +kernel) (by decide) (cs_meanClarity h_meanClarity hst C hO hao hA9 hX hbl hi hL hI hG hl hk KK)
    | 38, _ => exact lv_tableIn (off := 1774) (tgt := 1814) hx hb dL_law_40 (by decide +kernel) (by decide +kernel) (by decide +kernel) (by decide) (cs_digest h_digest hst C hO hao hA9 hX hbl hi hL hI hG hl hk KK)
    | j + 39, h2 => exact absurd h2 (by omega)
theorem lw_loop (hS : Sim I) (hJ : ∀ n g, I n g → I (n + 1) g) (hst : l.stackTraces = false) (C : Cx p s m #[Value.ref b] meth c cL_law 9 RL E) (hr : meth.sig.returnType = ret) (hO : OT E tL ao s) (hao : s.heap.size ≤ ao) (hE : ∀ q, AA E s.heap.size q → s.heap.size ≤ q) (hX : va_X b L sc s s.heap) (hbl : b < s.heap.size) (hL : L ≤ 3072) : ∀ (N n i k sl : Nat) (H : Heap) (locs : List Loc) (g : G) (f : Nat → Int64) (ls : Array Slot), L ≤ i + 6 * N → i = 6 * n → n ≤ 600 → k ≤ 97 + 12 * n → sl ≤ 16036 + 95 * n → I n g → Gd E s H locs g [oE tL ao f] → lv_has ls 9 [(0, .ref b), (1, .ref (E.ad 0)), (2, .ref (E.ad 47)), (3, .ref ao), (4, .int (nI i))] → W p l e room_1 s m #[Value.ref b] below meth c H locs k sl (lw_Z below #[Value.ref b] s) (F0 m 23 ls []) := by
  have hA9 : ¬ AA E s.heap.size b := fun h => Nat.not_le.mpr hbl (hE b h)
  have hx := C.1
  have hb := C.2.1
  intro N
  induction N with
  | zero =>
    intro n i k sl H locs g f ls hN hi hn hk hsl hI hG hl
    refine lv_iload hx hb dL_law_23 (lv_at hl 4 rfl) ?_
    refine lv_aload_n hx hb dL_law_25 rfl (lv_at hl 0 rfl) ?_
    refine va_slen hx hb hX hbl hA9 hG.2.2 dL_law_26 ?_
    refine lv_bipush (v := 6) hx hb dL_law_27 (by decide) ?_
    refine lv_isub hx hb dL_law_29 ?_
    refine lv_icmp_gt (tgt := 1834) hx hb dL_law_30 (by decide) (fun _ => ?_) (fun h => absurd (sub6 (i := i) (by omega) hL h) (by omega))
    refine va_forget (fun q hq => hE _ (hG.2.2.2.2 q hq)) ?_
    refine lv_iconst (v := 1) hx hb dL_law_1834 (by decide) ?_
    exact W.widen (by omega) (by omega) (W.base (lw_ret (Drawn.sameBut.refl s.drawn lw_cs) hx hb hr C.lk dL_law_1835))
  | succ N ih =>
    intro n i k sl H locs g f ls hN hi hn hk hsl hI hG hl
    refine lv_iload hx hb dL_law_23 (lv_at hl 4 rfl) ?_
    refine lv_aload_n hx hb dL_law_25 rfl (lv_at hl 0 rfl) ?_
    refine va_slen hx hb hX hbl hA9 hG.2.2 dL_law_26 ?_
    refine lv_bipush (v := 6) hx hb dL_law_27 (by decide) ?_
    refine lv_isub hx hb dL_law_29 ?_
    refine lv_icmp_gt (tgt := 1834) hx hb dL_law_30 (by decide) (fun _ => ?_) (fun h => ?_)
    · refine va_forget (fun q hq => hE _ (hG.2.2.2.2 q hq)) ?_
      refine lv_iconst (v := 1) hx hb dL_law_1834 (by decide) ?_
      exact W.widen (by omega) (by omega) (W.base (lw_ret (Drawn.sameBut.refl s.drawn lw_cs) hx hb hr C.lk dL_law_1835))
    · have h6 : i + 6 ≤ L := sub6 (i := i) (by omega) hL h
      refine lv_aload_n hx hb dL_law_33 rfl (lv_at hl 0 rfl) ?_
      refine lv_iload hx hb dL_law_34 (lv_at hl 4 rfl) ?_
      refine va_sld hx hb hX hbl hA9 hG.2.2 (nI_in (by omega) (by omega)) dL_law_36 ?_
      refine lv_bipush (v := 63) hx hb dL_law_37 (by decide) ?_
      refine lv_iand hx hb dL_law_39 ?_
      refine lw_switch hS hst C hO hao hA9 hX hbl (i := i) (n := n) (by omega) hL hn hI hJ hG hl ⟨by omega, by omega⟩ (fun H1 locs1 g1 f1 ls1 k1 s1 hk1 hs1 hI1 hG1 hl1 => ?_)
      refine lv_iinc (v := nI (i + 6)) (k := 4) (lv' := [(4, .int (nI (i + 6))), (0, .ref b), (1, .ref (E.ad 0)), (2, .ref (E.ad 47)), (3, .ref ao)]) hx hb dL_law_1828 hl1 rfl (nI_add i 6) (by decide) rfl (fun ls hl => ?_)
      refine lv_goto (tgt := 23) hx hb dL_law_1831 (by decide) ?_
      exact ih (n + 1) (i + 6) k1 s1 H1 locs1 g1 f1 ls (by omega) (by omega) (by omega) (by omega) (by omega) hI1 hG1 (lv_sub hl [1, 2, 3, 4, 0] rfl)
end LOOP
