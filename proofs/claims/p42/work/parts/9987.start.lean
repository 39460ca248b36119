/-! the law, started: what the constructors leave, then the law's own body -/
def g0 : G := fun o => if o = 0 then (fun k => if k = 8 then (-1) else 0) else (if o = 8 then (fun k => if k = 6 then 60 else if k = 7 then 1000 else 0) else (if o = 16 then (fun k => if k = 6 then 60 else if k = 7 then 1000 else 0) else (if o = 22 then (fun k => if k = 8 then 60 else if k = 9 then 1000 else if k = 10 then (-1) else 0) else (if o = 35 then (fun k => if k = 8 then 60 else if k = 9 then 1000 else if k = 10 then (-1) else 0) else (fun _ => 0)))))
def ad0 (l : List Nat) : Nat → Nat := fun i => l.getD i 0
set_option maxRecDepth 100000 in
set_option maxHeartbeats 4000000 in
theorem wl0 (D : va_G) (tI tB : ClassId) (sz : Nat) (aK aV tW : Nat → Nat) (tX : Nat → ClassId) (b L : Nat) (xs : Nat → Int32) (x0 p1 p2 p3 p4 p5 p6 p7 p8 p9 p10 p11 p12 p13 p14 p15 p16 p17 p18 p19 p20 p21 p22 p23 p24 p25 p26 p27 p28 p29 p30 p31 p32 p33 p34 p35 p36 p37 p38 p39 p40 p41 p42 p43 p44 p45 p46 : Nat) : wl (D, tI, tB, sz, ad0 [x0, p1, p2, p3, p4, p5, p6, p7, p8, p9, p10, p11, p12, p13, p14, p15, p16, p17, p18, p19, p20, p21, p22, p23, p24, p25, p26, p27, p28, p29, p30, p31, p32, p33, p34, p35, p36, p37, p38, p39, p40, p41, p42, p43, p44, p45, p46], aK, aV, tW, tX, b, L, xs) g0 = [(x0, .inr (10, [.ref p1, .ref p3, .ref p13, .ref p14, .ref p8, .ref p16, .ref p21, .ref p34, .int (-1)])), (p1, .inr (7, [.ref p2, .int 0])), (p2, .inl (tB, 2000, .inl (fun _ => 0))), (p3, .inr (8, [.ref p1, .ref p4, .ref p5, .ref p6, .ref p7, .int 0])), (p4, .inl (tI, 401, .inl (fun _ => 0))), (p5, .inl (tI, 401, .inl (fun _ => 0))), (p6, .inl (tI, 401, .inl (fun _ => 0))), (p7, .inl (tI, 401, .inl (fun _ => 0))), (p8, .inr (4, [.ref p9, .ref p10, .ref p11, .ref p12, .int 0, .int 0, .int 60, .int 1000, .int 0])), (p9, .inl (tI, 10, .inl (fun _ => 0))), (p10, .inl (tI, 10, .inl (fun _ => 0))), (p11, .inl (tI, 400, .inl (fun _ => 0))), (p12, .inl (tI, 400, .inl (fun _ => 0))), (p13, .inr (2, [.ref p3, .ref p8, .int 0])), (p14, .inr (3, [.ref p1, .ref p3, .ref p8, .ref p15, .int 0])), (p15, .inl (tI, 10, .inl (fun _ => 0))), (p16, .inr (4, [.ref p17, .ref p18, .ref p19, .ref p20, .int 0, .int 0, .int 60, .int 1000, .int 0])), (p17, .inl (tI, 10, .inl (fun _ => 0))), (p18, .inl (tI, 10, .inl (fun _ => 0))), (p19, .inl (tI, 400, .inl (fun _ => 0))), (p20, .inl (tI, 400, .inl (fun _ => 0))), (p21, .inr (9, [.ref p16, .ref p22, .ref p30, .ref p33, .int 0, .int 0])), (p22, .inr (6, [.ref p23, .ref p24, .ref p25, .ref p26, .ref p27, .ref p28, .ref p29, .int 0, .int 60, .int 1000, .int (-1), .int 0, .int 0, .int 0])), (p23, .inl (tI, 10, .inl (fun _ => 0))), (p24, .inl (tI, 10, .inl (fun _ => 0))), (p25, .inl (tI, 10, .inl (fun _ => 0))), (p26, .inl (tI, 10, .inl (fun _ => 0))), (p27, .inl (tI, 10, .inl (fun _ => 0))), (p28, .inl (tI, 10, .inl (fun _ => 0))), (p29, .inl (tI, 10, .inl (fun _ => 0))), (p30, .inr (5, [.ref p31, .ref p32, .int 0, .int 0, .int 0])), (p31, .inl (tI, 12, .inl (fun _ => 0))), (p32, .inl (tI, 12, .inl (fun _ => 0))), (p33, .inl (tI, 400, .inl (fun _ => 0))), (p34, .inr (9, [.ref p16, .ref p35, .ref p43, .ref p46, .int 0, .int 0])), (p35, .inr (6, [.ref p36, .ref p37, .ref p38, .ref p39, .ref p40, .ref p41, .ref p42, .int 0, .int 60, .int 1000, .int (-1), .int 0, .int 0, .int 0])), (p36, .inl (tI, 10, .inl (fun _ => 0))), (p37, .inl (tI, 10, .inl (fun _ => 0))), (p38, .inl (tI, 10, .inl (fun _ => 0))), (p39, .inl (tI, 10, .inl (fun _ => 0))), (p40, .inl (tI, 10, .inl (fun _ => 0))), (p41, .inl (tI, 10, .inl (fun _ => 0))), (p42, .inl (tI, 10, .inl (fun _ => 0))), (p43, .inr (5, [.ref p44, .ref p45, .int 0, .int 0, .int 0])), (p44, .inl (tI, 12, .inl (fun _ => 0))), (p45, .inl (tI, 12, .inl (fun _ => 0))), (p46, .inl (tI, 400, .inl (fun _ => 0)))] := by rfl
/-- the law's store at its begin: nothing in it, the room that the class leaves -/
def S00 : ZS := (g0, 0, fun _ => 0, fun _ _ => 0, fun _ _ => 0, 600039, 7295107)
theorem S00_rm : RM S00 (uR (uR 0)) := ⟨Nat.le_of_ble_eq_true rfl, Nat.le_of_ble_eq_true rfl⟩
theorem w_room {p : Program} {l : Launch} {e : Env} {R R' : Room} {s : State} {m : MethodId} {args : Array Value} {below : List Frame} {meth : Method} {c : Code} {H : Heap} {locs : List Loc} {cells slots : Nat} {Q : State → Prop} {g : JFrame} (hf : R'.frames ≤ R.frames) (hl : R'.locals ≤ R.locals) (hc : R'.cells ≤ R.cells) (hs : R'.slots ≤ R.slots) (k : W p l e R' s m args below meth c H locs cells slots Q g) : W p l e R s m args below meth c H locs cells slots Q g := by
  intro T hT X
  have hr : s.hasRoom e.platform R' = true := by
    have h := X.room
    simp only [State.hasRoom, Bool.and_eq_true, decide_eq_true_eq] at h ⊢
    obtain ⟨⟨⟨⟨h1, h2, h3, h4, h5, h6⟩, h7⟩, h8⟩, h9⟩ := h
    refine ⟨⟨⟨⟨?_, by omega, by omega, by omega, by omega, h6⟩, by omega⟩, by omega⟩, h9⟩
    exact Nat.le_trans (Nat.add_le_add_right (Nat.add_le_add_left hl _) _) h1
  exact k T hT { X with room := hr }
/-- the law's end, in any room -/
theorem lw_retR {p : Program} {l : Launch} {e : Env} {R : Room} {s : State} {m : MethodId} {below : List Frame} {meth : Method} {c : Code} {b : Nat} {d0 : Drawn} (hd0 : s.drawn.sameBut d0 lw_cs) (hx : p.tables.exec = Jvm.exec) (hb : c.code = code) (hr : meth.sig.returnType = ret) (hlocks : meth.locks = false) {pc : Nat} {H : Heap} {ls : Array Slot} (hdg : decode code pc = .ok (.ireturn, 1)) : W p l e R (s.setDrawn d0) m #[Value.ref b] below meth c H [] 600086 7301442 (lw_Z below #[Value.ref b] s) (F0 m pc ls [.int 1]) := by
  intro T hT X
  obtain ⟨fs, hret, hrun, hended, hW, hframe⟩ := X.leave (v := some (.int 1)) (hlocks := hlocks) (fun h => by rw [hr] at h; cases h)
  have hmeth' : T.vm.method? m = some meth := X.method'
  refine ⟨T.setFrames fs, ?_, .returned (some (.int 1)), hrun, hended, rfl, lw_closed hd0 ⟨_, rfl⟩ hW hframe⟩
  jvm_step X.here [X.here.top, hx, hb, hdg, hmeth', hr, ret, narrow_b1]
  (try refine ⟨rfl, ?_⟩); (try refine ⟨rfl, ?_⟩)
  first | (intro acts; rw [hret _ acts rfl rfl rfl]) | rw [hret _ _ rfl rfl rfl]
  exact Steps.refl _
set_option maxRecDepth 100000 in
set_option maxHeartbeats 8000000 in
theorem start_of {p : Program} {e : Env} {s : State} {m : MethodId} {below : List Frame} {meth : Method} {c : Code} (l : Launch) (hst : l.stackTraces = false) {b L : Nat} {xs : Nat → Int32} (hL : L ≤ 260) (Z0 : lw_At p s m meth c b L xs) : W p l e room_1 s m #[Value.ref b] below meth c s.heap [] 0 0 (lw_Z below #[Value.ref b] s) (entryFrame m ([Value.ref b] : List Value).toArray 28) := by
  obtain ⟨hx, hb, hr, hml, hown, hts, hX, hbl, hlocks, hgv⟩ := id Z0
  have htsT : ∀ w ∈ TB, w.before #[Value.ref b] s = true := fun w hw => hts w (List.mem_filter.mp hw).1
  have hN := nk_of hts
  obtain ⟨D, tI, tB, tX, hK, hKL⟩ := known_all htsT hN
  obtain ⟨aK, aV, tW, hOO⟩ := oo_of hts hgv
  have C : C0 p s m #[Value.ref b] meth c cL_law 28 RL D tI tB (fun q => s.heap.size ≤ q) := ⟨hx, hb, hml, hown, htsT, hK, hN, hlocks, fun q h => h⟩
  have hH : Hd D (fun q => s.heap.size ≤ q) s s.heap [] [] := ⟨fun k q h => by simp at h, ⟨fun i j p q h => by simp at h, fun k q h => by simp at h⟩, va_S.rf⟩
  have hl := lv_entry ([.ref b]) (n := 28) (Nat.le_of_ble_eq_true rfl)
  rw [lg_entry_eq]
  generalize (lg_sl ([.ref b]) ++ List.replicate (28 - (lg_sl ([.ref b])).length) Slot.unset).toArray = ls at hl ⊢
  have hl : lv_has ls 28 [(0, .ref b)] := hl
  refine r0_new C hH KC8 [.null, .null, .null, .null, .null, .null, .null, .null, .int 0] (mTBi 71 (by decide +kernel) rfl) (mTBi 72 (by decide +kernel) rfl) (mTBi 40 (by decide +kernel) rfl) (by decide +kernel) (Nat.le_of_ble_eq_true rfl) (Nat.le_of_ble_eq_true rfl) dL_law_0 (fun x0 H hH => ?_)
  have hH : Hd D (fun q => s.heap.size ≤ q) s H _ [(x0, .inr (10, [.null, .null, .null, .null, .null, .null, .null, .null, .int 0]))] := hH
  refine lv_dup hx hb dL_law_3 rfl ?_
  refine r0_call (np := 0) C hl.1 hH [] [.ref x0] (c8_init D tI tB l x0) (mTBi 75 (by decide +kernel) rfl) (mTBi 40 (by decide +kernel) rfl) (mTBi 74 (by decide +kernel) rfl) (by unfold hdOk; decide +kernel) rfl (Or.inl (mTBi 73 (by decide +kernel) rfl)) rfl ⟨Nat.le_of_ble_eq_true rfl, Nat.le_of_ble_eq_true rfl⟩ (Nat.le_of_ble_eq_true rfl) ⟨Nat.le_of_ble_eq_true rfl, Nat.le_of_ble_eq_true rfl⟩ rfl dL_law_4 0 rfl [] [] rfl (by decide) (by decide) (fun H locs hB hJ9 => ?_)
  obtain ⟨p1, p2, p3, p4, p5, p6, p7, p8, p9, p10, p11, p12, p13, p14, p15, p16, p17, p18, p19, p20, p21, p22, p23, p24, p25, p26, p27, p28, p29, p30, p31, p32, p33, p34, p35, p36, p37, p38, p39, p40, p41, p42, p43, p44, p45, p46, b1, b2⟩ := hB
  have hH := hJ9 _ b1 b2
  clear b1 b2 hJ9
  have hH : Hd D (fun q => s.heap.size ≤ q) s H locs (wl (D, tI, tB, s.heap.size, ad0 [x0, p1, p2, p3, p4, p5, p6, p7, p8, p9, p10, p11, p12, p13, p14, p15, p16, p17, p18, p19, p20, p21, p22, p23, p24, p25, p26, p27, p28, p29, p30, p31, p32, p33, p34, p35, p36, p37, p38, p39, p40, p41, p42, p43, p44, p45, p46], aK, aV, tW, tX, b, L, xs) g0) := by rw [wl0]; exact hH
  generalize ead : ad0 [x0, p1, p2, p3, p4, p5, p6, p7, p8, p9, p10, p11, p12, p13, p14, p15, p16, p17, p18, p19, p20, p21, p22, p23, p24, p25, p26, p27, p28, p29, p30, p31, p32, p33, p34, p35, p36, p37, p38, p39, p40, p41, p42, p43, p44, p45, p46] = ad at hH
  have e0 : ad 0 = x0 := by rw [← ead]; rfl
  refine lv_astore_n (lv' := [(1, .ref x0), (0, .ref b)]) hx hb dL_law_7 rfl hl (by decide) rfl (fun ls hl => ?_)
  rw [← e0] at hl
  clear ead e0
  obtain ⟨E, hE⟩ : ∃ E : EV, E = (D, tI, tB, s.heap.size, ad, aK, aV, tW, tX, b, L, xs) := ⟨_, rfl⟩
  have hP : va_P E.D vwCl (wl E g0) H := by rw [hE]; exact hH.1
  have hD : va_D (fun q => s.heap.size ≤ q) (wl E g0) := by rw [hE]; exact hH.2.1
  have hsz : E.sz = s.heap.size := by rw [hE]
  have hAD : AD E := ⟨fun i j hi hj he => hD.1 i j _ _ (wl_at hi) (wl_at hj) he, fun i hi => by rw [hsz]; exact hD.2 i _ (wl_at hi)⟩
  have hC : Cx p s m #[Value.ref b] meth c cL_law 28 RL E := ⟨hx, hb, hml, hown, htsT, by rw [hE]; exact hKL, hN, hlocks, by rw [hsz]; exact Nat.le_refl _, hAD, by rw [hE]; exact ⟨hOO, hX, hbl⟩⟩
  have hl : lv_has ls 28 [(1, .ref (E.ad 0)), (0, .ref E.sb)] := by rw [hE]; exact hl
  have hS := hH.2.2
  obtain ⟨S1, e1, hcw⟩ := k_law (S := S00) (sL := E.sL) (sx := E.sx) (by rw [hE]; exact Nat.lt_of_le_of_lt hL (by decide)) rfl S00_rm
  obtain ⟨F, hF⟩ : ∃ F : FT, F = ((fun q => s.heap.size ≤ q), (fun _ => 0), 0, 600086, 7301442, S1.c, S1.w) := ⟨_, rfl⟩
  have hA : CA F E s := by
    rw [hF]
    exact ⟨fun q h => h, fun q h => by rw [hsz]; exact h⟩
  have hG : GL E s F H locs (fun _ => 0) 0 S00 (0 + 1 + 46) (0 + 9 + 6326) := by
    rw [hF]
    have ew : wd E (fun _ => 0) S00 = wl E g0 := List.append_nil _
    refine ⟨by rw [ew]; exact hP, by rw [ew]; exact hD, hS, rfl, fun o k h => absurd h (Nat.not_lt_zero _), rfl, rfl, GX.rf, ?_, ?_⟩
    · exact hcw.1
    · exact hcw.2
  have hq : LQ p l e (F.R 1400) s m #[Value.ref b] below meth c E F (1, S1) (lw_Z below #[Value.ref b] s) := by
    intro H locs cells slots ad N ls pc hG hd
    rw [hF] at hG
    obtain ⟨-, -, g3, -, -, g6, g7, -⟩ := hG
    have g6 : cells + S1.c = 600086 := g6
    have g7 : slots + S1.w = 7301442 := g7
    refine va_forget (fun q hq => g3.2.2 q hq) ?_
    exact W.widen (by omega) (by omega) (W.base (lw_retR (Drawn.sameBut.refl s.drawn lw_cs) hx hb hr hlocks hd))
  refine w_room (R' := F.R 1400) (Nat.le_of_ble_eq_true rfl) (Nat.le_of_ble_eq_true rfl) ?_ ?_ ?_
  · rw [hF]
    exact Nat.sub_le _ _
  · rw [hF]
    exact Nat.sub_le _ _
  · exact mL_law_b E l hst S00 (1, S1) e1 hC hA (by rw [hF]; exact ⟨rfl, rfl⟩) hl hG hq
theorem stack_off (l : Launch) (h : l.flags = flags0) : l.stackTraces = false := by
  unfold Launch.stackTraces
  rw [h]
  first
    | rfl
    | decide
    | decide +kernel
    | (unfold flags0; simp)
theorem whole_start {p : Program} {e : Env} {s : State} {m : MethodId} {below : List Frame} {meth : Method} {c : Code} (l : Launch) (hflags : l.flags = flags0) {b L : Nat} {xs : Nat → Int32} (hL : L ≤ 260) (C0 : lw_At p s m meth c b L xs) : W p l e room_1 s m #[Value.ref b] below meth c s.heap [] 0 0 (lw_Z below #[Value.ref b] s) (entryFrame m ([Value.ref b] : List Value).toArray 28) :=
  start_of l (stack_off l hflags) hL C0
