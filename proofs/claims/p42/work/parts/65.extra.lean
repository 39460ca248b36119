/-! what else the walk of the law asks -/
def zbL (v : Int32) (S : ZS) : Option (Int32 × ZS) := if v = 0 ∨ v = 1 then some (v, S) else none
/-- a call of the class that returns, or throws the exception that the law catches -/
def clX {ρ : Type} (pr : ρ → ZS) (S : ZS) (a b : Nat) (z : Option XR) (f : Int32 → ZS → Option ρ) (g : ZS → Option ρ) : Option ρ := if a ≤ S.c ∧ b ≤ S.w then z.bind fun w => chk pr ((S.wg w.2.2).use a b) (if w.1 = 0 then f w.2.1 ((S.wg w.2.2).use a b) else if w.1 = 1 then g ((S.wg w.2.2).use a b) else none) else none
def hTab (x : ExceptionTableEntry) : Nat × Nat × Nat × Nat := (x.startPc, x.endPc, x.handlerPc, x.catchType)
section EXTRA
variable {p : Program} {l : Launch} {e : Env} {kf : Nat} {F : FT} {s : State} {m : MethodId} {args : Array Value} {below : List Frame} {meth : Method} {c : Code} {H : Heap} {locs : List Loc} {cells slots : Nat} {Q : State → Prop} {cc : ByteArray} {n : Nat} {own : String} {E : EV} {ad : Nat → Nat} {N : Nat} {S : ZS} {pc : Nat} {ls : Array Slot} {rest st : List Value} {ρ : Type} {r : ρ} {d a : Nat}
theorem RA_S {k : Nat} : RA E ad N (2 * k + 2) (E.aK k) := by
  refine ⟨?_, by omega, fun h => by omega⟩
  unfold rA
  rw [if_neg (by omega), show (2 * k + 2) / 2 - 1 = k by omega]
theorem GLr (hG : GL E s F H locs ad N S cells slots) : cells ≤ F.c - F.uc ∧ slots ≤ F.w - F.uw := by
  have e1 := hG.2.2.2.2.2.1
  have e2 := hG.2.2.2.2.2.2.1
  obtain ⟨q1, q2⟩ := hG.2.2.2.2.2.2.2.2
  constructor <;> omega
theorem r2_bret (C : Cx p s m args meth c cc n own E) {S0 : ZS} {u : Int32 × ZS} (hF : FTk E s F S0 u.2) (hG : GL E s F H locs ad N S cells slots) (hr : meth.sig.returnType = some .byte) {v : Int32} (hd : decode cc pc = .ok (.ireturn, 1)) (h : zbL v S = some u) : W p l e (F.R kf) s m args below meth c H locs cells slots (MQ below (QIL E s.heap.size F.ad S0 u) args s (F.c - F.uc) (F.w - F.uw) F.A) (F0 m pc ls [.int v]) := by
  obtain ⟨h0, h⟩ := ite_inv h
  exact r2_iret C hF hG hr (by rcases h0 with rfl | rfl <;> rfl) hd h
theorem r2_obj (C : Cx p s m args meth c cc n own E) (hls : ls.size = n) {R : Room} {idx : Nat} (h1 : Cond.methodLink own idx Lib.objectInit ∈ TB) (h2 : Cond.instanceMethod Lib.objectInit ∈ TB) (h3 : Cond.code Lib.objectInit ⟨#[0xb1]⟩ 1 none ∈ TB) (hR : 1 ≤ R.frames ∧ (rest.map fun v => v.category).sum + 12 ≤ R.locals) (hd : decode cc pc = .ok (.invokespecial idx, 3))
    (kk : W p l e R s m args below meth c H locs cells slots Q (F0 m (pc + 3) ls rest)) : W p l e R s m args below meth c H locs cells slots Q (F0 m pc ls (.ref a :: rest)) := by
  obtain ⟨hx, hb, hml, hown, hts, -⟩ := C
  refine W.objInit hx hb hown (hts _ h1) (hts _ h2) (hts _ h3) rfl (hls.trans hml.symm) rfl hd hR.1 (by have := hR.2; simpa [JFrame.monitorRoom] using this) ?_
  exact W.eq (g2 := F0 m (pc + 3) ls rest) rfl kk
/-- a method of the law's walk, run on a String constant -/
theorem r2_cKV (C : Cx p s m args meth c cc n own E) (hA : CA F E s) (hls : ls.size = n) (hG : GL E s F H locs ad N S cells slots) {y : MethodName} {c' : ByteArray} {n' : Nat} {rt : Option FieldType} {k np i idx : Nat} (As rest : List Value) {av : (Nat → Nat) → List Value} {kz : Option ZS} (hM : ∀ u, kz = some u → MVL E l y c' n' rt k av S u) (hav : av ad = .ref (E.aK i) :: As) (hm : MLV own idx y c' n' rt np) (h6 : Cond.methodLink own idx y ∈ TB) (hy : y.cls = "java/lang/String") (hlen : As.length = np) (hR : k + 1 ≤ kf ∧ 8 + (n' + 11) + 60 * k ≤ 60 * kf) (hrest : (rest.map fun v => v.category).sum ≤ 8) (hst : st = As.reverse ++ .ref (E.aK i) :: rest) (hd : decode cc pc = .ok (.invokevirtual idx, 3)) {fn : ZS → Option ρ} {pr : ρ → ZS} (hU : F.uc = (pr r).c ∧ F.uw = (pr r).w) (h : ckS i (b1 pr kz fn) = some r)
    (kk : ∀ (S1 : ZS) (H1 : Heap) (locs1 : List Loc) (ad1 : Nat → Nat) (cells1 slots1 : Nat), GL E s F H1 locs1 ad1 S1.n S1 cells1 slots1 → GX ad N ad1 S1.n → fn S1 = some r → W p l e (F.R kf) s m args below meth c H1 locs1 cells1 slots1 Q (F0 m (pc + 3) ls rest)) : W p l e (F.R kf) s m args below meth c H locs cells slots Q (F0 m pc ls st) := by
  obtain ⟨hi, h⟩ := ckS_inv h
  obtain ⟨u, hu, h⟩ := bind_inv h
  obtain ⟨⟨d1, d2⟩, h⟩ := chk_inv h
  have hcu : F.uc ≤ u.c ∧ F.uw ≤ u.w := ⟨by rw [hU.1]; exact d1, by rw [hU.2]; exact d2⟩
  have hpre := pre_okL C hA hG (.ref (E.aK i) :: As)
  have hrecv : ∃ cell : Cell, H[E.aK i]? = some cell ∧ cell.vm.isStatics = false ∧ s.vm.findClass y.cls = some cell.cls := by
    obtain ⟨cell, h1, h2, h3, -⟩ := ((C.so hi).1.narrow hA.2).kept hG.2.2.1.2.1
    exact ⟨cell, h1, h2, by rw [hy]; exact h3⟩
  obtain ⟨hx, hb, hml, hown, hts, hK, hN, -⟩ := id C
  obtain ⟨h1, h2, h3, h4, h5, -⟩ := hm
  have hf : cells + (S.c - u.c) ≤ F.c - F.uc ∧ slots + (S.w - u.w) ≤ F.w - F.uw := by
    obtain ⟨q1, q2⟩ := hcu
    obtain ⟨q3, q4⟩ := hG.2.2.2.2.2.2.2.2
    have e1 := hG.2.2.2.2.2.1
    have e2 := hG.2.2.2.2.2.2.1
    constructor <;> omega
  have hM' := hM u hu H.size ad
  rw [hav] at hM'
  have hr : va_Run p l e (F.R kf) s m args below meth c H locs cells slots (S.c - u.c) (S.w - u.w) (F0 m pc ls st) rest (QVL E H.size ad S u (Value.ref (E.aK i) :: As).toArray) (AL E ad S.n H.size) := va_runV (C := y.cls) (Ts := TB) ⟨hx, hb, hml, hown, hts⟩ hM' ⟨callB_of np hts (gwz h1) rfl rfl rfl (hts _ h2) (hts _ h6) h5 hR, hts _ h3, hts _ h4⟩ ⟨PL_blind, hrecv, hpre⟩ rfl hlen hls hst (lv_room hrest) hd hf
  exact af2_V hA hG hcu hr (fun H1 locs1 ad1 cells1 slots1 g1 g2 => kk u H1 locs1 ad1 cells1 slots1 g1 g2 h)
theorem r2_clC (C : Cx p s m args meth c cc n own E) (hA : CA F E s) (hls : ls.size = n) (hG : GL E s F H locs ad N S cells slots) {y : MethodName} {c' : ByteArray} {n' : Nat} {rt : Option FieldType} {k mc' ms' np idx nn : Nat} (As : List Value) (rest : List Value) {kz : Option XR} {T : u_T} {tt : Nat → FieldType} (hC : ∀ w, kz = some w → MXr E l y c' n' rt k mc' ms' (.ref (E.ad 0) :: As) S.g w) (hm : MLV own idx y c' n' rt np) (h6 : Cond.methodLink own idx y ∈ TB) (hKC : KC 8 y.cls T nn tt) (hlen : As.length = np) (hR : k + 1 ≤ kf ∧ 8 + (n' + 11) + 60 * k ≤ 60 * kf) (hrest : (rest.map fun v => v.category).sum ≤ 8) (hst : st = As.reverse ++ .ref (E.ad 0) :: rest) (hd : decode cc pc = .ok (.invokevirtual idx, 3)) (x9 : Nat × Nat × Nat × Nat) (ht : c.exceptionTable.toList.map hTab = [x9]) (hx9 : x9.1 ≤ pc ∧ pc < x9.2.1) (h0 : x9.2.2.2 ≠ 0) (hlk : Cond.classLink own x9.2.2.2 (exN 1) ∈ TB) (hcast : Cond.castable (exN 1) (exN 1) ∈ NB) {fn : Int32 → ZS → Option ρ} {gn : ZS → Option ρ} {pr : ρ → ZS} (hU : F.uc = (pr r).c ∧ F.uw = (pr r).w) (h : clX pr S mc' ms' kz fn gn = some r)
    (kk : ∀ (x : Int32) (S1 : ZS) (H1 : Heap) (locs1 : List Loc) (cells1 slots1 : Nat), GL E s F H1 locs1 ad N S1 cells1 slots1 → fn x S1 = some r → W p l e (F.R kf) s m args below meth c H1 locs1 cells1 slots1 Q (F0 m (pc + 3) ls (.int x :: rest)))
    (kx : ∀ (q : Nat) (S1 : ZS) (H1 : Heap) (locs1 : List Loc) (cells1 slots1 : Nat), GL E s F H1 locs1 ad N S1 cells1 slots1 → gn S1 = some r → W p l e (F.R kf) s m args below meth c H1 locs1 cells1 slots1 Q (F0 m x9.2.2.1 ls [.ref q])) : W p l e (F.R kf) s m args below meth c H locs cells slots Q (F0 m pc ls st) := by
  obtain ⟨hbud, h⟩ := ite_inv h
  obtain ⟨w, hw, h⟩ := bind_inv h
  obtain ⟨⟨d1, d2⟩, h⟩ := chk_inv h
  refine r2_clX C hA hls hG As rest (hC w hw) hm h6 hKC hlen hR hrest hbud ⟨by rw [hU.1]; exact d1, by rw [hU.2]; exact d2⟩ hst hd (fun e0 H1 locs1 cells1 slots1 hG1 => ?_) (fun e0 H1 locs1 cells1 slots1 q ce hG1 hce hcv hcl => ?_)
  · rw [if_pos e0] at h
    exact kk _ _ H1 locs1 cells1 slots1 hG1 h
  · rw [if_neg e0] at h
    obtain ⟨e1, h⟩ := ite_inv h
    rw [e1] at hcl
    obtain ⟨y9, B, hyB, hy9, hB'⟩ := List.map_eq_cons_iff.mp ht
    subst hy9
    have hts := C.2.2.2.2.1
    refine vx_catch C.2.2.2.1 [] y9 B hyB (fun z hz => by cases hz) ?_ h0 (hts _ hlk) (va_Nw.use rfl (C.2.2.2.2.2.2.1 _ hcast)) hce hcv hcl (kx q _ H1 locs1 cells1 slots1 hG1 h)
    obtain ⟨q1, q2⟩ := hx9
    have q1 : y9.startPc ≤ pc := q1
    have q2 : pc < y9.endPc := q2
    simp [covers, q1, q2]
end EXTRA
/-! a method of the law that has a handler -/
def wzQ (y : MethodName) (c : ByteArray) (n : Nat) (rt : Option FieldType) (hh : List (Nat × Nat × Nat × Nat)) : List Cond := Cond.codeWith y c n rt hh :: TB
def ML2H (E : EV) (l : Launch) (y : MethodName) (c : ByteArray) (n : Nat) (rt : Option FieldType) (hh : List (Nat × Nat × Nat × Nat)) (k : Nat) (av : (Nat → Nat) → List Value) (S u : ZS) (QQ : Nat → (Nat → Nat) → Array Value → State → Outcome → State → Prop) : Prop := ∀ sz ad, Met l y (wzQ y c n rt hh) (rmD k (S.c - u.c) (S.w - u.w)) (PL E sz ad (av ad) S) (QQ sz ad) (S.c - u.c) (S.w - u.w) (AL E ad S.n sz)
abbrev MIH (E : EV) (l : Launch) (y : MethodName) (c : ByteArray) (n : Nat) (rt : Option FieldType) (hh : List (Nat × Nat × Nat × Nat)) (k : Nat) (av : (Nat → Nat) → List Value) (S : ZS) (u : Int32 × ZS) : Prop := ML2H E l y c n rt hh k av S u.2 (fun sz ad => QIL E sz ad S u)
theorem gwzQ {y : MethodName} {c : ByteArray} {n : Nat} {rt : Option FieldType} {hh : List (Nat × Nat × Nat × Nat)} (h : Cond.codeWith y c n rt hh ∈ TB) : GoodIn TB (wzQ y c n rt hh) := fun w hw => by
  rcases List.mem_cons.mp hw with rfl | hw
  · exact gTB _ h
  · exact gTB _ hw
theorem ML2H.of {E : EV} {l : Launch} {y : MethodName} {cc : ByteArray} {n : Nat} {rt : Option FieldType} {hh : List (Nat × Nat × Nat × Nat)} {k : Nat} {av : (Nat → Nat) → List Value} {S u : ZS} {QQ : Nat → (Nat → Nat) → Array Value → State → Outcome → State → Prop} (hy : plainName y.cls = true) (hn : ∀ ad, (lg_sl (av ad)).length ≤ n) (hcw : u.c ≤ S.c ∧ u.w ≤ S.w)
    (body : ∀ (p : Program) (e : Env) (s : State) (m : MethodId) (args : Array Value) (below : List Frame) (meth : Method) (c : Code) (ad : Nat → Nat) (F : FT), FTk E s F S u → Cx p s m args meth c cc n y.cls E → CA F E s → c.exceptionTable.toList.map hTab = hh → meth.sig.returnType = rt → ∀ ls : Array Slot, lv_has ls n (lv_args 0 (av ad)) → GL E s F s.heap [] ad S.n S 0 0 →
      W p l e (F.R k) s m args below meth c s.heap [] 0 0 (MQ below (QQ s.heap.size F.ad) args s (F.c - F.uc) (F.w - F.uw) F.A) (F0 m 0 ls [])) : ML2H E l y cc n rt hh k av S u QQ := by
  intro sz ad
  have hw : (wzQ y cc n rt hh) = Cond.codeWith y cc n rt hh :: TB := rfl
  refine MetFree.of_bodyS (code := cc) (maxLocals := n) (ret := rt) hy ?_ ?_
  · intro args s m h hn
    obtain ⟨m9, meth, c, hn9, h1, h2, h3, h4, -, h5, h6, -⟩ := Cond.codeWith_spec (atoms_spec (ws := wzQ y cc n rt hh) h _ (by rw [hw]; exact List.mem_cons_self))
    cases hn.symm.trans hn9
    exact ⟨meth, c, h1, h2, h3, h4, h5, h6⟩
  · intro p e s m args below meth c s₁ B hml hP _
    have hh0 : s₁.heap = s.heap := by rw [B.state]; rfl
    obtain ⟨rfl, rfl, h2, h3, h4, h5, h6, h7, h8, h9⟩ := hP
    have hts := atoms_spec (ws := wzQ y cc n rt hh) B.pre
    have hown : s.vm.findClass y.cls = some m.cls := findClass_of_methodNamed B.named
    have htab : c.exceptionTable.toList.map hTab = hh := by
      obtain ⟨m9, meth9, c9, hn9, h1, h2, -, -, h3, -⟩ := Cond.codeWith_spec (hts _ (by rw [hw]; exact List.mem_cons_self))
      cases Option.some.inj (hn9.symm.trans B.named)
      cases Option.some.inj (h1.symm.trans B.method)
      cases Option.some.inj (h2.symm.trans (Stand.of_body B).code)
      exact h3
    have K := body p e s m _ below meth c ad (FT0 E ad S u s.heap.size) ⟨rfl, rfl, rfl, rfl, rfl, rfl⟩ ⟨B.exec, B.bytes, hml, hown, fun w hw => hts w (List.mem_cons_of_mem _ hw), h4, h6, B.notSynchronized, h2, h5, h7⟩ ⟨fun q hq => Or.inr (Or.inr hq), fun q hq => AL_ge h5 h8 h2 hq⟩ htab B.returns _ (lv_entry (av ad) (hn ad)) (by
      refine ⟨h3, ⟨h8.1, fun j q hq => ?_⟩, va_S.rf, rfl, h9, Nat.zero_add _, Nat.zero_add _, GX.rf, hcw⟩
      rcases wd_inv hq with ⟨hj, rfl⟩ | ⟨o, ho, -, rfl⟩
      · exact Or.inl ⟨_, hj, rfl⟩
      · exact Or.inr (Or.inl ⟨o, ho, rfl⟩))
    obtain ⟨t, a1, o, b1, b2, b3⟩ := K s₁ hh0 (Stand.of_body B)
    rw [← lg_entry_eq] at a1
    exact ⟨t, o, a1, b1, b2, b3⟩
def MLSH (own : String) (idx : Nat) (y : MethodName) (c : ByteArray) (n : Nat) (rt : Option FieldType) (hh : List (Nat × Nat × Nat × Nat)) (np : Nat) : Prop := Cond.codeWith y c n rt hh ∈ TB ∧ Cond.initialized y.cls ∈ TB ∧ Cond.static y ∈ TB ∧ hdOk y np ∧ Cond.methodLink own idx y ∈ TB
section EXTRA2
variable {p : Program} {l : Launch} {e : Env} {kf : Nat} {F : FT} {s : State} {m : MethodId} {args : Array Value} {below : List Frame} {meth : Method} {c : Code} {H : Heap} {locs : List Loc} {cells slots : Nat} {Q : State → Prop} {cc : ByteArray} {n : Nat} {own : String} {E : EV} {ad : Nat → Nat} {N : Nat} {S : ZS} {pc : Nat} {ls : Array Slot} {rest st : List Value} {ρ : Type} {r : ρ} {d a : Nat}
theorem r2_cHI (C : Cx p s m args meth c cc n own E) (hA : CA F E s) (hls : ls.size = n) (hG : GL E s F H locs ad N S cells slots) {y : MethodName} {c' : ByteArray} {n' : Nat} {rt : Option FieldType} {hh : List (Nat × Nat × Nat × Nat)} {k np idx : Nat} (As rest : List Value) {av : (Nat → Nat) → List Value} {kz : Option (Int32 × ZS)} (hM : ∀ u, kz = some u → MIH E l y c' n' rt hh k av S u) (hav : av ad = As) (hm : MLSH own idx y c' n' rt hh np) (hlen : As.length = np) (hR : k + 1 ≤ kf ∧ 8 + (n' + 11) + 60 * k ≤ 60 * kf) (hrest : (rest.map fun v => v.category).sum ≤ 8) (hst : st = As.reverse ++ rest) (hd : decode cc pc = .ok (.invokestatic idx, 3)) {fn : Int32 → ZS → Option ρ} {pr : ρ → ZS} (hU : F.uc = (pr r).c ∧ F.uw = (pr r).w) (h : b2 pr kz fn = some r)
    (kk : ∀ (x : Int32) (S1 : ZS) (H1 : Heap) (locs1 : List Loc) (ad1 : Nat → Nat) (cells1 slots1 : Nat), GL E s F H1 locs1 ad1 S1.n S1 cells1 slots1 → GX ad N ad1 S1.n → fn x S1 = some r → W p l e (F.R kf) s m args below meth c H1 locs1 cells1 slots1 Q (F0 m (pc + 3) ls (.int x :: rest))) : W p l e (F.R kf) s m args below meth c H locs cells slots Q (F0 m pc ls st) := by
  obtain ⟨u, hu, h⟩ := bind_inv h
  obtain ⟨⟨d1, d2⟩, h⟩ := chk_inv h
  have hcu : F.uc ≤ u.2.c ∧ F.uw ≤ u.2.w := ⟨by rw [hU.1]; exact d1, by rw [hU.2]; exact d2⟩
  have hpre := pre_okL C hA hG As
  obtain ⟨hx, hb, hml, hown, hts, hK, hN, -⟩ := id C
  obtain ⟨h1, h2, h3, h5, h6⟩ := hm
  have hf : cells + (S.c - u.2.c) ≤ F.c - F.uc ∧ slots + (S.w - u.2.w) ≤ F.w - F.uw := by
    obtain ⟨q1, q2⟩ := hcu
    obtain ⟨q3, q4⟩ := hG.2.2.2.2.2.2.2.2
    have e1 := hG.2.2.2.2.2.1
    have e2 := hG.2.2.2.2.2.2.1
    constructor <;> omega
  have hM' := hM u hu H.size ad
  rw [hav] at hM'
  have cw : vx_CSW (F.R kf) s args own idx y c' n' rt hh (wzQ y c' n' rt hh) (rmD k (S.c - u.2.c) (S.w - u.2.w)) (S.c - u.2.c) (S.w - u.2.w) np := by
    refine ⟨⟨rfl, rfl, hR.1, hR.2, pay_in hts (gwzQ h1), List.mem_cons_self⟩, hts _ h1, hts _ h2, ⟨h5.1, h5.2.1⟩, fun sig h => ?_, hts _ h6, hts _ h3⟩
    have h9 := h5.2.2
    rw [h] at h9
    exact (Option.some.inj h9).symm
  have hr := vx_runSW (p := p) (meth := meth) (e := e) (R := F.R kf) (below := below) (c := c) (locs := locs) (cells := cells) (slots := slots) (Ts := TB) (g := F0 m pc ls st) (rest := rest) ⟨hx, hb, hml, hown, hts⟩ hM' cw ⟨PL_blind, hpre⟩ rfl hlen hls hst (lv_room hrest) hd hf
  exact af2_I hA hG hcu hr (fun H1 locs1 ad1 cells1 slots1 g1 g2 => kk u.1 u.2 H1 locs1 ad1 cells1 slots1 g1 g2 h)
end EXTRA2
