/-! the law's own methods: each calls one of the class's, keeps its answer in the cell out, answers 0, or 1, 2, 3 for what is thrown -/
def oE (tL : ClassId) (ao : Nat) (f : Nat → Int64) : Nat × va_E := (ao, .inl (tL, 1, .inr (.inl f)))
def AO (E : EV) (ao sz : Nat) : Nat → Prop := fun q => AA E sz q ∨ q = ao
def XK (U : State) : Prop := ∀ a b, 0 < a → a < 4 → 0 < b → b < 4 → a ≠ b → va_Nc (exN a) (exN b) U
def OT (E : EV) (tL : ClassId) (ao : Nat) (U : State) : Prop := va_K E.D vwCl [(tL, .long)] U ∧ XK U ∧ E.sz ≤ ao ∧ ∀ i, i < NC → E.ad i ≠ ao
theorem OT.moved {E : EV} {tL : ClassId} {ao : Nat} {u U : State} (hvm : u.vm.Alike U.vm) (h : OT E tL ao u) : OT E tL ao U := ⟨va_K.moved hvm h.1, fun a b h1 h2 h3 h4 h5 => (h.2.1 a b h1 h2 h3 h4 h5).moved hvm, h.2.2⟩
def WO (E : EV) (tL : ClassId) (ao : Nat) (g : G) (f : Nat → Int64) (U : State) : Prop := E.sz ≤ U.heap.size ∧ va_P E.D vwCl (wl E g ++ [oE tL ao f]) U.heap ∧ va_K E.D vwCl E.tys U ∧ AD E ∧ NK U ∧ OO E U U.heap ∧ OT E tL ao U ∧ ao < U.heap.size
def PCo (E : EV) (tL : ClassId) (ao sz : Nat) (av : List Value) (g : G) (f : Nat → Int64) : Array Value → State → Prop := va_Pc av (fun U => U.heap.size = sz ∧ WO E tL ao g f U)
abbrev WR : Type := Int32 × G × (Nat → Int64)
def QO (E : EV) (tL : ClassId) (ao sz : Nat) (u : WR) : Array Value → State → Outcome → State → Prop := va_Qi (fun (r' : Int32) (_ : Unit) => r' = u.1) (fun _ t => va_P E.D vwCl (wl E u.2.1 ++ [oE tL ao u.2.2]) t.heap) (AO E ao sz)
def wzH (y : MethodName) (c : ByteArray) (n : Nat) (hh : List (Nat × Nat × Nat × Nat)) : List Cond := Cond.codeWith y c n (some .int) hh :: TB
def MO (E : EV) (tL : ClassId) (ao : Nat) (l : Launch) (y : MethodName) (c : ByteArray) (n : Nat) (hh : List (Nat × Nat × Nat × Nat)) (av : List Value) (g : G) (f : Nat → Int64) (u : WR) : Prop := ∀ sz, Met l y (wzH y c n hh) (rmD 8 3 18) (PCo E tL ao sz av g f) (QO E tL ao sz u) 3 18 (AO E ao sz)
def GO (E : EV) (ao : Nat) (s : State) (H : Heap) (locs : List Loc) (g : G) (xs : va_W) : Prop := va_P E.D vwCl (wl E g ++ xs) H ∧ va_D (AO E ao s.heap.size) (wl E g ++ xs) ∧ va_S (AO E ao s.heap.size) s.heap H locs
def hTab (x : ExceptionTableEntry) : Nat × Nat × Nat × Nat := (x.startPc, x.endPc, x.handlerPc, x.catchType)
theorem MO.of {E : EV} {tL : ClassId} {ao : Nat} {l : Launch} {y : MethodName} {cc : ByteArray} {n : Nat} {hh : List (Nat × Nat × Nat × Nat)} {av : List Value} {g : G} {f : Nat → Int64} {u : WR} (hy : plainName y.cls = true) (hn : (lg_sl av).length ≤ n)
    (body : ∀ (p : Program) (e : Env) (s : State) (m : MethodId) (args : Array Value) (below : List Frame) (meth : Method) (c : Code), Cx p s m args meth c cc n y.cls E → c.exceptionTable.toList.map hTab = hh → meth.sig.returnType = some .int → OT E tL ao s → ∀ ls : Array Slot, lv_has ls n (lv_args 0 av) → GO E ao s s.heap [] g [oE tL ao f] →
      W p l e (rmD 8 3 18) s m args below meth c s.heap [] 0 0 (MQ below (QO E tL ao s.heap.size u) args s 3 18 (AO E ao s.heap.size)) (F0 m 0 ls [])) : MO E tL ao l y cc n hh av g f u := by
  intro sz
  have hw : (wzH y cc n hh) = Cond.codeWith y cc n (some .int) hh :: TB := rfl
  refine MetFree.of_bodyS (code := cc) (maxLocals := n) (ret := some .int) hy ?_ ?_
  · intro args s m h hn
    obtain ⟨m9, meth, c, hn9, h1, h2, h3, h4, -, h5, h6, -⟩ := Cond.codeWith_spec (atoms_spec (ws := wzH y cc n hh) h _ (by rw [hw]; exact List.mem_cons_self))
    cases hn.symm.trans hn9
    exact ⟨meth, c, h1, h2, h3, h4, h5, h6⟩
  · intro p e s m args below meth c s₁ B hml hP _
    have hh0 : s₁.heap = s.heap := by rw [B.state]; rfl
    obtain ⟨rfl, rfl, h2, h3, h4, h5, h6, h7, h8, h9⟩ := hP
    have hts := atoms_spec (ws := wzH y cc n hh) B.pre
    have hown : s.vm.findClass y.cls = some m.cls := findClass_of_methodNamed B.named
    have htab : c.exceptionTable.toList.map hTab = hh := by
      obtain ⟨m9, meth9, c9, hn9, h1, h2, -, -, h3, -⟩ := Cond.codeWith_spec (hts _ (by rw [hw]; exact List.mem_cons_self))
      cases Option.some.inj (hn9.symm.trans B.named)
      cases Option.some.inj (h1.symm.trans B.method)
      cases Option.some.inj (h2.symm.trans (Stand.of_body B).code)
      exact h3
    obtain ⟨t, a1, o, b1, b2, b3⟩ := body p e s m _ below meth c ⟨B.exec, B.bytes, hml, hown, fun w hw => hts w (List.mem_cons_of_mem _ hw), h4, h6, B.notSynchronized, h2, h5, h7⟩ htab B.returns h8 _ (lv_entry av hn) (by
      refine ⟨h3, ⟨fun i j p q hp hq he => ?_, fun k q hq => ?_⟩, va_S.rf⟩
      · by_cases hi : i < NC
        · rw [wlx_at hi] at hp
          cases hp
          by_cases hj : j < NC
          · rw [wlx_at hj] at hq
            cases hq
            exact h5.1 i j hi hj he
          · rw [wlx_ge hj] at hq
            have : q = oE tL ao f := by
              have := List.mem_of_getElem? hq
              simpa using this
            subst this
            exact absurd he (h8.2.2.2 i hi)
        · rw [wlx_ge hi] at hp
          have e1 : p = oE tL ao f := by
            have := List.mem_of_getElem? hp
            simpa using this
          subst e1
          have l1 := (List.getElem?_eq_some_iff.mp hp).1
          by_cases hj : j < NC
          · rw [wlx_at hj] at hq
            cases hq
            exact absurd he.symm (h8.2.2.2 j hj)
          · rw [wlx_ge hj] at hq
            have l2 := (List.getElem?_eq_some_iff.mp hq).1
            simp at l1 l2
            omega
      · by_cases hk : k < NC
        · rw [wlx_at hk] at hq
          cases hq
          exact Or.inl (Or.inl ⟨k, hk, rfl⟩)
        · rw [wlx_ge hk] at hq
          have : q = oE tL ao f := by
            have := List.mem_of_getElem? hq
            simpa using this
          subst this
          exact Or.inr rfl) s₁ hh0 (Stand.of_body B)
    rw [← lg_entry_eq] at a1
    exact ⟨t, o, a1, b1, b2, b3⟩
section OWN
variable {p : Program} {l : Launch} {e : Env} {R : Room} {s : State} {m : MethodId} {args : Array Value} {below : List Frame} {meth : Method} {c : Code} {H : Heap} {locs : List Loc} {cells slots mc ms : Nat} {Q : State → Prop} {cc : ByteArray} {n : Nat} {own : String} {E : EV} {tL : ClassId} {ao pc : Nat} {ls : Array Slot} {rest st : List Value} {g : G} {f : Nat → Int64} {xs : va_W}
theorem AO_ge (C : Cx p s m args meth c cc n own E) (hO : OT E tL ao s) {q : Nat} (h : AO E ao s.heap.size q) : E.sz ≤ q := by
  rcases h with h | rfl
  · exact AA_ge C.2.2.2.2.2.2.2.2.2.1 C.2.2.2.2.2.2.2.2.1 h
  · exact hO.2.2.1
theorem preO (C : Cx p s m args meth c cc n own E) (hO : OT E tL ao s) (hG : GO E ao s H locs g xs) (av : List Value) : ∀ U : State, U.heap = H → s.WarmedH U.vm → PC E H.size av g av.toArray U := by
  intro U hU hW
  have hge := fun (q : Nat) => AO_ge C hO (q := q)
  obtain ⟨-, -, -, -, -, hK, hN, -, hz, hA, hOO⟩ := C
  have hS := hG.2.2
  have hsz : E.sz ≤ H.size := Nat.le_trans hz hS.1
  refine ⟨rfl, by rw [hU], by rw [hU]; exact hsz, ?_, va_K.moved hW.alike hK, hA, fun w hw => Nw_warm hW hw (hN w hw), ?_⟩
  · rw [hU]
    intro k q hq
    refine hG.1 k q ?_
    rw [List.getElem?_append_left (List.getElem?_eq_some_iff.mp hq).1]
    exact hq
  · rw [hU]
    exact OO.step hW hz (fun a ha => hS.2.1 a (Nat.lt_of_lt_of_le ha hz) (fun h => Nat.not_le.mpr ha (hge a h))) hOO
theorem AO_in (hG : GO E ao s H locs g xs) : ∀ q, AA E H.size q → AO E ao s.heap.size q := by
  rintro q (h | h)
  · exact Or.inl (Or.inl h)
  · exact Or.inl (Or.inr (Nat.le_trans hG.2.2.1 h))
theorem GO_after (hG : GO E ao s H locs g xs) {H1 : Heap} {locs1 : List Loc} {g1 : G} (hB : va_P E.D vwCl (wl E g1) H1) (hk : ∀ q : Nat, q < H.size → ¬ AA E H.size q → H1[q]? = H[q]?) (hS : va_S (AO E ao s.heap.size) s.heap H1 locs1) : GO E ao s H1 locs1 g1 xs := by
  refine ⟨va_P.app hB (fun k q hq => ?_), Gd_D hG.2.1, hS⟩
  have hq' : (wl E g ++ xs)[NC + k]? = some q := by
    rw [wlx_ge (by omega), Nat.add_sub_cancel_left]
    exact hq
  have hat := hG.1 _ q hq'
  have hlt := hat.lt
  refine hat.kept (hk q.1 hlt ?_)
  rintro (⟨i, hi, e9⟩ | hge)
  · have := hG.2.1.1 (NC + k) i q (E.ad i, cel E g i) hq' (wlx_at hi) e9
    omega
  · omega
theorem o_call (C : Cx p s m args meth c cc n own E) (hls : ls.size = n) (hO : OT E tL ao s) (hG : GO E ao s H locs g xs) {y : MethodName} {c' : ByteArray} {n' : Nat} {rt : Option FieldType} {k mc' ms' np o ci idx N : Nat} (As : List Value) (rest : List Value) {T : u_T} {tt : Nat → FieldType} {w : XR} (hC : MXr E l y c' n' rt k mc' ms' (.ref (E.ad o) :: As) g w) (hm : MLV own idx y c' n' rt np) (h6 : Cond.methodLink own idx y ∈ TB) (hk : kd o = ci) (hKC : KC ci y.cls T N tt) (hlen : As.length = np) (hR : (rmD k mc' ms').frames + 1 ≤ R.frames ∧ 8 + (n' + 11) + (rmD k mc' ms').locals ≤ R.locals) (hrest : (rest.map fun v => v.category).sum ≤ 8) (hf : cells + mc' ≤ R.cells ∧ slots + ms' ≤ R.slots) (hst : st = As.reverse ++ .ref (E.ad o) :: rest) (hd : decode cc pc = .ok (.invokevirtual idx, 3))
    (kk : w.1 = 0 → ∀ (H1 : Heap) (locs1 : List Loc), GO E ao s H1 locs1 w.2.2 xs → W p l e R s m args below meth c H1 locs1 (cells + mc') (slots + ms') Q (F0 m (pc + 3) ls (.int w.2.1 :: rest)))
    (kx : w.1 ≠ 0 → ∀ (H1 : Heap) (locs1 : List Loc) (q : Addr) (ce : Cell), GO E ao s H1 locs1 w.2.2 xs → H1[q]? = some ce → ce.vm = .none → s.vm.findClass (exN w.1) = some ce.cls → vx_W p l e R s m args below meth c H1 locs1 (cells + mc') (slots + ms') Q (F0 m pc ls rest) q) : W p l e R s m args below meth c H locs cells slots Q (F0 m pc ls st) := by
  have hpre := preO C hO hG (.ref (E.ad o) :: As)
  obtain ⟨hx, hb, hml, hown, hts, hK, hN, -⟩ := id C
  obtain ⟨h1, h2, h3, h4, h5, -⟩ := hm
  have hci := KC_lt hKC
  have ho : o < NC := kd_lt hk (by omega)
  have he : (wl E g ++ xs)[o]? = some (E.ad o, .inr (ci, fsl E g o ci)) := by rw [wlx_at ho, cel_o hk hci]
  have hrecv := va_recv hK hG.1 (ci := ci) hKC.1 he
  have hr := vx_runV (C := y.cls) (Ts := TB) (p := p) (meth := meth) (e := e) (R := R) (below := below) (c := c) (locs := locs) (cells := cells) (slots := slots) (g := F0 m pc ls st) (rest := rest) ⟨hx, hb, hml, hown, hts⟩ (hC H.size) ⟨callB_of np hts (gwz h1) rfl rfl rfl (hts _ h2) (hts _ h6) h5 hR, hts _ h3, hts _ h4⟩ ⟨PC_blind, hrecv, hpre⟩ rfl hlen hls hst (lv_room hrest) hd hf
  refine vx_calli hr hG.2.2 (fun q _ h => AO_in hG q h) (AO_in hG) (fun q _ h => AO_in hG q h) (fun En ce q9 u9 t H1 locs1 e1 hvm hpx hBX hz hk hS hce hcv hcl => ?_) (fun r9 u9 t H1 locs1 e1 hvm hpost hB hz hk hS => ?_)
  · obtain ⟨rfl, hBX⟩ := hBX
    exact kx hpx H1 locs1 q9 ce (GO_after hG (by rw [← e1]; exact hBX) hk hS) hce hcv hcl
  · obtain ⟨h0, rfl⟩ := hpost
    exact kk h0 H1 locs1 (GO_after hG (by rw [← e1]; exact hB) hk hS)
theorem o_last (C : Cx p s m args meth c cc n own E) (hO : OT E tL ao s) (hG : GO E ao s H locs g [oE tL ao f]) {v : Int64} (hd : decode cc pc = .ok (.lastore, 1))
    (kk : ∀ (H1 : Heap) (locs1 : List Loc), GO E ao s H1 locs1 g [oE tL ao (vp_updL f 0 v)] → W p l e R s m args below meth c H1 locs1 cells slots Q (F0 m (pc + 1) ls rest)) : W p l e R s m args below meth c H locs cells slots Q (F0 m pc ls (.long v :: .int 0 :: .ref ao :: rest)) := by
  have hset : (wl E g ++ [oE tL ao f]).set NC (ao, .inl (tL, 1, .inr (.inl (vp_updL f (0 : Int32).toNatClampNeg v)))) = wl E g ++ [oE tL ao (vp_updL f 0 v)] := by
    rw [List.set_append, if_neg (by rw [wl_len]; omega), wl_len]
    rfl
  have hat : (wl E g ++ [oE tL ao f])[NC]? = some (ao, .inl (tL, 1, .inr (.inl f))) := by
    rw [wlx_ge (by omega), Nat.sub_self]
    rfl
  refine va_last C.1 C.2.1 hO.1 hG.1 hG.2.1 hG.2.2 NC 0 hat rfl (by unfold vp_in; decide) hd (fun H1 locs1 a1 a2 a3 => ?_)
  rw [hset] at a1 a2
  exact kk H1 locs1 ⟨a1, a2, a3⟩
theorem o_iret (C : Cx p s m args meth c cc n own E) (hG : GO E ao s H locs g [oE tL ao f]) (hr : meth.sig.returnType = some .int) {v : Int32} {u : WR} (hd : decode cc pc = .ok (.ireturn, 1)) (hc : cells ≤ mc ∧ slots ≤ ms) (h : (v, g, f) = u) : W p l e R s m args below meth c H locs cells slots (MQ below (QO E tL ao s.heap.size u) args s mc ms (AO E ao s.heap.size)) (F0 m pc ls [.int v]) := by
  subst h
  exact W.widen hc.1 hc.2 (W.zret C.1 C.2.1 hr rfl (fun t ht hW => ⟨⟨v, (), rfl, rfl, by show va_P _ _ _ t.heap; rw [ht]; exact hG.1⟩, hG.2.2.F ht⟩) hG.2.2.2.2 hd C.lk)
/-- thrown: caught by the row i of the table; the rows ahead name other classes -/
theorem o_catch (C : Cx p s m args meth c cc n own E) (hO : OT E tL ao s) {hh : List (Nat × Nat × Nat × Nat)} (ht : c.exceptionTable.toList.map hTab = hh) {k : Nat} {ce : Cell} {q : Addr} (pre : List (Nat × Nat × Nat × Nat)) (x : Nat × Nat × Nat × Nat) (suf : List (Nat × Nat × Nat × Nat)) (hs : hh = pre ++ x :: suf)
    (hpass : ∀ z ∈ pre, ∃ j, 0 < j ∧ j < 4 ∧ j ≠ k ∧ z.2.2.2 ≠ 0 ∧ Cond.classLink own z.2.2.2 (exN j) ∈ TB) (hk : 0 < k ∧ k < 4) (hx : x.1 ≤ pc ∧ pc < x.2.1) (h0 : x.2.2.2 ≠ 0) (hl : Cond.classLink own x.2.2.2 (exN k) ∈ TB) (hcast : Cond.castable (exN k) (exN k) ∈ NB) (hce : H[q]? = some ce) (hv : ce.vm = .none) (hcl : s.vm.findClass (exN k) = some ce.cls)
    (kk : W p l e R s m args below meth c H locs cells slots Q (F0 m x.2.2.1 ls [.ref q])) : vx_W p l e R s m args below meth c H locs cells slots Q (F0 m pc ls rest) q := by
  subst hs
  obtain ⟨A, B9, hAB, hA, hB⟩ := List.map_eq_append_iff.mp ht
  obtain ⟨x9, B, hxB, hx9, hB'⟩ := List.map_eq_cons_iff.mp hB
  subst hxB
  subst hx9
  have hts := C.2.2.2.2.1
  refine vx_catch C.2.2.2.1 A x9 B hAB (fun z hz => ?_) ?_ h0 (hts _ hl) (va_Nw.use rfl (C.2.2.2.2.2.2.1 _ hcast)) hce hv hcl kk
  · obtain ⟨j, j0, j4, jk, z0, hzl⟩ := hpass (hTab z) (by rw [← hA]; exact List.mem_map_of_mem hz)
    exact Or.inr ⟨z0, exN j, hts _ hzl, hO.2.1 k j hk.1 hk.2 j0 j4 (Ne.symm jk)⟩
  · obtain ⟨h1, h2⟩ := hx
    have h1 : x9.startPc ≤ pc := h1
    have h2 : pc < x9.endPc := h2
    simp [covers, h1, h2]
end OWN
def wr1 (e1 : Nat) (w : XR) (f : Nat → Int64) (v : Int64) : Option WR := if w.1 = 0 then some (0, w.2.2, vp_updL f 0 v) else if w.1 = e1 then some (1, w.2.2, f) else none
def wr2 (e1 e2 : Nat) (w : XR) (f : Nat → Int64) (v : Int64) : Option WR := if w.1 = 0 then some (0, w.2.2, vp_updL f 0 v) else if w.1 = e1 then some (1, w.2.2, f) else if w.1 = e2 then some (2, w.2.2, f) else none
def wr3 (e1 e2 e3 : Nat) (w : XR) (f : Nat → Int64) (v : Int64) : Option WR := if w.1 = 0 then some (0, w.2.2, vp_updL f 0 v) else if w.1 = e1 then some (1, w.2.2, f) else if w.1 = e2 then some (2, w.2.2, f) else if w.1 = e3 then some (3, w.2.2, f) else none
