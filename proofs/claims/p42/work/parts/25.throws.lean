/-! methods that return or throw: (0, answer, world) or (which exception, 0, world) -/
abbrev XR : Type := Nat × Int32 × G
def exN (k : Nat) : String := if k = 1 then "java/lang/IllegalStateException" else if k = 2 then "java/lang/IllegalArgumentException" else "java/lang/IndexOutOfBoundsException"
abbrev exNames : List String := ["java/lang/RuntimeException", "java/lang/Exception"]
def QXr (E : EV) (sz : Nat) (u : XR) : Array Value → State → Outcome → State → Prop := va_Qi (fun (r' : Int32) (_ : Unit) => u.1 = 0 ∧ r' = u.2.1) (PT E u.2.2) (AA E sz)
def QXv (E : EV) (sz : Nat) (u : XR) : Array Value → State → Outcome → State → Prop := va_Qv (fun (_ : Unit) => u.1 = 0) (PT E u.2.2) (AA E sz)
def XCx (E : EV) (sz : Nat) (u : XR) : String → State → State → Prop := vx_X (fun (_ : Unit) => u.1 ≠ 0) (fun En _ t => En = exN u.1 ∧ va_P E.D vwCl (wl E u.2.2) t.heap) (AA E sz)
def MX (E : EV) (l : Launch) (y : MethodName) (c : ByteArray) (n : Nat) (rt : Option FieldType) (k mc ms : Nat) (av : List Value) (g : G) (QQ : Nat → Array Value → State → Outcome → State → Prop) (u : XR) : Prop := ∀ sz, vx_Met l y (wz y c n rt) (rmD k mc ms) (PC E sz av g) (QQ sz) (XCx E sz u) mc ms (AA E sz)
abbrev MXr (E : EV) (l : Launch) (y : MethodName) (c : ByteArray) (n : Nat) (rt : Option FieldType) (k mc ms : Nat) (av : List Value) (g : G) (u : XR) : Prop := MX E l y c n rt k mc ms av g (fun sz => QXr E sz u) u
abbrev MXv (E : EV) (l : Launch) (y : MethodName) (c : ByteArray) (n : Nat) (rt : Option FieldType) (k mc ms : Nat) (av : List Value) (g : G) (u : XR) : Prop := MX E l y c n rt k mc ms av g (fun sz => QXv E sz u) u
def xb (x : Option XR) (f : G → Option XR) : Option XR := x.bind fun w => if w.1 = 0 then f w.2.2 else some w
theorem xb_inv {x : Option XR} {f : G → Option XR} {u : XR} (h : xb x f = some u) : ∃ w, x = some w ∧ ((w.1 = 0 ∧ f w.2.2 = some u) ∨ (w.1 ≠ 0 ∧ w = u)) := by
  obtain ⟨w, hw, h⟩ := bind_inv h
  refine ⟨w, hw, ?_⟩
  by_cases hc : w.1 = 0
  · rw [if_pos hc] at h; exact Or.inl ⟨hc, h⟩
  · rw [if_neg hc] at h; exact Or.inr ⟨hc, Option.some.inj h⟩
theorem MX.of {E : EV} {l : Launch} {y : MethodName} {cc : ByteArray} {n : Nat} {rt : Option FieldType} {k mc ms : Nat} {av : List Value} {g : G} {QQ : Nat → Array Value → State → Outcome → State → Prop} {u : XR} (hy : plainName y.cls = true) (hn : (lg_sl av).length ≤ n)
    (body : ∀ (p : Program) (e : Env) (s : State) (m : MethodId) (args : Array Value) (below : List Frame) (meth : Method) (c : Code), Cx p s m args meth c cc n y.cls E → (∀ x ∈ c.exceptionTable.toList, False) → meth.sig.returnType = rt → ∀ ls : Array Slot, lv_has ls n (lv_args 0 av) → Gd E s s.heap [] g [] →
      W p l e (rmD k mc ms) s m args below meth c s.heap [] 0 0 (vx_MQ below (QQ s.heap.size) (XCx E s.heap.size u) args s mc ms (AA E s.heap.size)) (F0 m 0 ls [])) : MX E l y cc n rt k mc ms av g QQ u := by
  intro sz
  refine vx_ofW (cc := cc) (maxL := n) (ret := rt) hy rfl ?_
  intro p e s m args below meth c s₁ B hml ht hv
  obtain ⟨rfl, rfl, h2, h3, h4, h5, h6, h7⟩ := hv
  have hts := atoms_spec (ws := wz y cc n rt) B.pre
  have hown : s.vm.findClass y.cls = some m.cls := findClass_of_methodNamed B.named
  rw [lg_entry_eq]
  refine body p e s m _ below meth c ⟨B.exec, B.bytes, hml, hown, fun w hw => hts w (List.mem_cons_of_mem _ hw), h4, h6, B.notSynchronized, h2, h5, h7⟩ ht B.returns _ (lv_entry av hn) ?_
  refine ⟨by rw [List.append_nil]; exact h3, by rw [List.append_nil]; exact wl_D h5 (fun i hi => Or.inl ⟨i, hi, rfl⟩), va_S.rf⟩
/-- what an exception of kind ek wants to be made and thrown in the class own -/
def XW (own : String) (ik ic ek : Nat) : Prop := Bundle.fit (exN ek) = true ∧ (∀ n ∈ exNames, Bundle.fit n = true) ∧ Cond.classLink own ik (exN ek) ∈ TB ∧ Cond.initialized (exN ek) ∈ TB ∧ (∀ w ∈ vx_atS own ic (exN ek) exNames, w ∈ TB ∨ w ∈ NB) ∧ (∀ w ∈ Cond.classLink own ik (exN ek) :: Cond.initialized (exN ek) :: vx_atS own ic (exN ek) exNames, vx_ot w = true)
def inTN (w : Cond) : Bool := (decide (w ∈ lw_tbl) && goodWord w) || (decide (w ∈ tables_1) && isNest w)
theorem inTN_ok {w : Cond} (h : inTN w = true) : w ∈ TB ∨ w ∈ NB := by
  unfold inTN at h
  rcases Bool.or_eq_true _ _ ▸ h with h | h
  · exact Or.inl (mTB h)
  · exact Or.inr (mNB h)
section THROWS
variable {p : Program} {l : Launch} {e : Env} {R : Room} {s : State} {m : MethodId} {args : Array Value} {below : List Frame} {meth : Method} {c : Code} {H : Heap} {locs : List Loc} {cells slots mc ms : Nat} {Q : State → Prop} {cc : ByteArray} {n : Nat} {own : String} {E : EV} {pc : Nat} {ls : Array Slot} {rest st : List Value} {g : G} {u : XR} {Qc : Array Value → State → Outcome → State → Prop}
theorem Cx.lk (C : Cx p s m args meth c cc n own E) : meth.locks = false := C.2.2.2.2.2.2.2.1
theorem x_ok (C : Cx p s m args meth c cc n own E) (hG : Gd E s H locs g []) {ek : Nat} (h : some ((ek, 0, g) : XR) = some u) (hek : ek ≠ 0) : ∀ t : State, s.vm.Alike t.vm → H.size ≤ t.heap.size → (∀ q : Nat, q < H.size → t.heap[q]? = H[q]?) → XCx E s.heap.size u (exN ek) s t := by
  intro t hvm hz hq
  cases h
  have hP := hG.1
  rw [List.append_nil] at hP
  refine ⟨(), hek, ⟨rfl, fun k q hk => ?_⟩, Nat.le_trans hG.2.2.1 hz, fun q h1 h2 => ?_⟩
  · have hat := hP k q hk
    exact hat.kept (hq q.1 hat.lt)
  · rw [hq q (Nat.lt_of_lt_of_le h1 hG.2.2.1)]
    exact hG.2.2.2.1 q h1 h2
theorem r_throwS (C : Cx p s m args meth c cc n own E) (hls : ls.size = n) (hG : Gd E s H locs g []) (hl : l.stackTraces = false) (ht : ∀ x ∈ c.exceptionTable.toList, False) {ek ik is ic : Nat} (i : Nat) (hw : XW own ik ic ek) (hi : i < NS) (ho : (sG i).1 = own ∧ (sG i).2.1 = is) (hek : ek ≠ 0)
    (d0 : decode cc pc = .ok (.new ik, 3)) (d3 : decode cc (pc + 3) = .ok (.dup, 1)) (d4 : decode cc (pc + 4) = .ok (.ldc is, 2)) (d6 : decode cc (pc + 6) = .ok (.invokespecial ic, 3)) (d9 : decode cc (pc + 9) = .ok (.athrow, 1))
    (hR : 5 < R.frames ∧ (rest.map fun v => v.category).sum + 82 ≤ R.locals ∧ cells + 1 ≤ R.cells ∧ slots + 6 ≤ R.slots) (hc : cells + 1 ≤ mc ∧ slots + 6 ≤ ms) (h : some ((ek, 0, g) : XR) = some u) :
    W p l e R s m args below meth c H locs cells slots (vx_MQ below Qc (XCx E s.heap.size u) args s mc ms (AA E s.heap.size)) (F0 m pc ls rest) := by
  obtain ⟨h1, h2, h3, h4, h5, h6⟩ := hw
  obtain ⟨rfl, rfl⟩ := ho
  have hts := C.2.2.2.2.1
  have hN : NK s := C.2.2.2.2.2.2.1
  have hat : ∀ w ∈ vx_atS (sG i).1 ic (exN ek) exNames, w.before args s = true := fun w hw => by
    rcases h5 w hw with h | h
    · exact hts w h
    · have hn := nestNB h
      have hz := hN w h
      cases w <;> first | exact va_Nw.use rfl hz | exact hz | cases hn
  exact vx_throwS C.1 C.2.1 hl C.2.2.2.1 h1 h2 (hts _ h3) (hts _ h4) (C.oo.2.2.2.2.2.2 i hi).2 hat h6 (⟨C.oo.2.2.1.1.narrow C.na, C.oo.2.2.1.2.narrow C.na⟩) (⟨C.oo.2.2.2.1.1.narrow C.na, C.oo.2.2.2.1.2.narrow C.na⟩) hG.2.2 (hls.trans C.2.2.1.symm) d0 d3 d4 d6 d9 (fun x hx => (ht x hx).elim) hR.1 hR.2.1 hR.2.2.1 hR.2.2.2 C.lk (x_ok C hG h hek) hG.2.2.2.2 hc.1 hc.2
theorem r_throwSW (C : Cx p s m args meth c cc n own E) (hls : ls.size = n) (hG : Gd E s H locs g []) (hl : l.stackTraces = false) (ht : ∀ x ∈ c.exceptionTable.toList, False) {ek ik is ic : Nat} (i : Nat) (hw : XW own ik ic ek) (hi : i < NS) (ho : (sG i).1 = own ∧ (sG i).2.1 = is) (hek : ek ≠ 0)
    (d0 : decode cc pc = .ok (.new ik, 3)) (d3 : decode cc (pc + 3) = .ok (.dup, 1)) (d4 : decode cc (pc + 4) = .ok (.ldc_w is, 3)) (d7 : decode cc (pc + 7) = .ok (.invokespecial ic, 3)) (d10 : decode cc (pc + 10) = .ok (.athrow, 1))
    (hR : 5 < R.frames ∧ (rest.map fun v => v.category).sum + 82 ≤ R.locals ∧ cells + 1 ≤ R.cells ∧ slots + 6 ≤ R.slots) (hc : cells + 1 ≤ mc ∧ slots + 6 ≤ ms) (h : some ((ek, 0, g) : XR) = some u) :
    W p l e R s m args below meth c H locs cells slots (vx_MQ below Qc (XCx E s.heap.size u) args s mc ms (AA E s.heap.size)) (F0 m pc ls rest) := by
  obtain ⟨h1, h2, h3, h4, h5, h6⟩ := hw
  obtain ⟨rfl, rfl⟩ := ho
  have hts := C.2.2.2.2.1
  have hN : NK s := C.2.2.2.2.2.2.1
  have hat : ∀ w ∈ vx_atS (sG i).1 ic (exN ek) exNames, w.before args s = true := fun w hw => by
    rcases h5 w hw with h | h
    · exact hts w h
    · have hn := nestNB h
      have hz := hN w h
      cases w <;> first | exact va_Nw.use rfl hz | exact hz | cases hn
  exact vx_throwSW C.1 C.2.1 hl C.2.2.2.1 h1 h2 (hts _ h3) (hts _ h4) (C.oo.2.2.2.2.2.2 i hi).2 hat h6 (⟨C.oo.2.2.1.1.narrow C.na, C.oo.2.2.1.2.narrow C.na⟩) (⟨C.oo.2.2.2.1.1.narrow C.na, C.oo.2.2.2.1.2.narrow C.na⟩) hG.2.2 (hls.trans C.2.2.1.symm) d0 d3 d4 d7 d10 (fun x hx => (ht x hx).elim) hR.1 hR.2.1 hR.2.2.1 hR.2.2.2 C.lk (x_ok C hG h hek) hG.2.2.2.2 hc.1 hc.2
theorem r_iretX (C : Cx p s m args meth c cc n own E) (hG : Gd E s H locs g []) {ty : FieldType} (hr : meth.sig.returnType = some ty) {v : Int32} (hn : narrow ty (.int v) = .int v) (hd : decode cc pc = .ok (.ireturn, 1)) (hc : cells ≤ mc ∧ slots ≤ ms) (h : some ((0, v, g) : XR) = some u) : W p l e R s m args below meth c H locs cells slots (vx_MQ below (QXr E s.heap.size u) (XCx E s.heap.size u) args s mc ms (AA E s.heap.size)) (F0 m pc ls [.int v]) := by
  cases h
  have hP := hG.1
  rw [List.append_nil] at hP
  exact W.widen hc.1 hc.2 (vx_ret (W.zret C.1 C.2.1 hr hn (fun t ht hW => ⟨⟨v, (), rfl, ⟨rfl, rfl⟩, by show va_P _ _ _ t.heap; rw [ht]; exact hP⟩, hG.2.2.F ht⟩) hG.2.2.2.2 hd C.lk))
theorem r_vretX (C : Cx p s m args meth c cc n own E) (hG : Gd E s H locs g []) (hr : meth.sig.returnType = none) (hd : decode cc pc = .ok (.return_, 1)) (hc : cells ≤ mc ∧ slots ≤ ms) (h : some ((0, 0, g) : XR) = some u) : W p l e R s m args below meth c H locs cells slots (vx_MQ below (QXv E s.heap.size u) (XCx E s.heap.size u) args s mc ms (AA E s.heap.size)) (F0 m pc ls []) := by
  cases h
  have hP := hG.1
  rw [List.append_nil] at hP
  exact W.widen hc.1 hc.2 (vx_ret (W.vret C.1 C.2.1 hr (fun t ht hW => ⟨⟨(), rfl, rfl, by show va_P _ _ _ t.heap; rw [ht]; exact hP⟩, hG.2.2.F ht⟩) hG.2.2.2.2 hd C.lk))
theorem afx_V (C : Cx p s m args meth c cc n own E) (hG : Gd E s H locs g []) (ht : ∀ x ∈ c.exceptionTable.toList, False) {mc' ms' : Nat} {a : Array Value} {w : XR} {st0 : List Value} (hr : vx_Run p l e R s m args below meth c H locs cells slots mc' ms' (F0 m pc ls st0) rest (QXv E H.size w a) (XCx E H.size w) (AA E H.size)) (hc : cells + mc' ≤ mc ∧ slots + ms' ≤ ms) {fn : G → Option XR} (h : (w.1 = 0 ∧ fn w.2.2 = some u) ∨ (w.1 ≠ 0 ∧ w = u))
    (kk : ∀ (H1 : Heap) (locs1 : List Loc) (g1 : G), Gd E s H1 locs1 g1 [] → fn g1 = some u → W p l e R s m args below meth c H1 locs1 (cells + mc') (slots + ms') (vx_MQ below Qc (XCx E s.heap.size u) args s mc ms (AA E s.heap.size)) (F0 m (pc + 3) ls rest)) : W p l e R s m args below meth c H locs cells slots (vx_MQ below Qc (XCx E s.heap.size u) args s mc ms (AA E s.heap.size)) (F0 m pc ls st0) := by
  refine vx_callv hr hG.2.2 (fun q _ h => AA_in hG q h) (AA_in hG) (fun q _ h => AA_in hG q h) (fun En ce q9 u9 t H1 locs1 e1 hvm hpx hBX hz hk hS hce hcv hcl => ?_) (fun u9 t H1 locs1 e1 hvm hpost hB hz hk hS => ?_)
  · obtain ⟨rfl, hBX⟩ := hBX
    rcases h with ⟨h0, -⟩ | ⟨-, rfl⟩
    · exact absurd h0 hpx
    · refine vx_out (fun x hx => (ht x hx).elim) C.lk hce hcv hcl (fun t9 ht9 hvm9 => ⟨(), hpx, ⟨rfl, by rw [ht9, ← e1]; exact hBX⟩, ?_⟩) hS.2.2 hc.1 hc.2
      exact ⟨by rw [ht9]; exact hS.1, fun q q1 q2 => by rw [ht9]; exact hS.2.1 q q1 q2⟩
  · rcases h with ⟨-, h⟩ | ⟨h0, -⟩
    · exact kk H1 locs1 _ (Gd_after hG (by rw [← e1]; exact hB) hk hS) h
    · exact absurd hpost h0
theorem r_callVXV (C : Cx p s m args meth c cc n own E) (hls : ls.size = n) (hG : Gd E s H locs g []) (ht : ∀ x ∈ c.exceptionTable.toList, False) {y : MethodName} {c' : ByteArray} {n' : Nat} {rt : Option FieldType} {k mc' ms' np o ci idx N : Nat} (As : List Value) (rest : List Value) {T : u_T} {tt : Nat → FieldType} {kz : Option XR} (hC : ∀ u, kz = some u → MXv E l y c' n' rt k mc' ms' (.ref (E.ad o) :: As) g u) (hm : MLV own idx y c' n' rt np) (h6 : Cond.methodLink own idx y ∈ TB) (hk : kd o = ci) (hKC : KC ci y.cls T N tt) (hlen : As.length = np) (hR : (rmD k mc' ms').frames + 1 ≤ R.frames ∧ 8 + (n' + 11) + (rmD k mc' ms').locals ≤ R.locals) (hrest : (rest.map fun v => v.category).sum ≤ 8) (hf : cells + mc' ≤ R.cells ∧ slots + ms' ≤ R.slots) (hc : cells + mc' ≤ mc ∧ slots + ms' ≤ ms) (hst : st = As.reverse ++ .ref (E.ad o) :: rest) (hd : decode cc pc = .ok (.invokevirtual idx, 3)) {fn : G → Option XR} (h : xb kz fn = some u)
    (kk : ∀ (H1 : Heap) (locs1 : List Loc) (g1 : G), Gd E s H1 locs1 g1 [] → fn g1 = some u → W p l e R s m args below meth c H1 locs1 (cells + mc') (slots + ms') (vx_MQ below Qc (XCx E s.heap.size u) args s mc ms (AA E s.heap.size)) (F0 m (pc + 3) ls rest)) : W p l e R s m args below meth c H locs cells slots (vx_MQ below Qc (XCx E s.heap.size u) args s mc ms (AA E s.heap.size)) (F0 m pc ls st) := by
  obtain ⟨w, hw, h⟩ := xb_inv h
  have hpre := pre_ok C hG (.ref (E.ad o) :: As)
  obtain ⟨hx, hb, hml, hown, hts, hK, hN, -⟩ := id C
  obtain ⟨h1, h2, h3, h4, h5, -⟩ := hm
  have hci := KC_lt hKC
  have ho : o < NC := kd_lt hk (by omega)
  have he : (wl E g ++ [])[o]? = some (E.ad o, .inr (ci + 2, fsl E g o ci)) := by rw [wlx_at ho, cel_o hk hci]
  have hrecv := va_recv hK hG.1 (ci := ci + 2) hKC.1 he
  exact afx_V C hG ht (vx_runV (C := y.cls) (Ts := TB) ⟨hx, hb, hml, hown, hts⟩ (hC w hw H.size) ⟨callB_of np hts (gwz h1) rfl rfl rfl (hts _ h2) (hts _ h6) h5 hR, hts _ h3, hts _ h4⟩ ⟨PC_blind, hrecv, hpre⟩ rfl hlen hls hst (lv_room hrest) hd hf) hc h kk
theorem r_callSXV (C : Cx p s m args meth c cc n own E) (hls : ls.size = n) (hG : Gd E s H locs g []) (ht : ∀ x ∈ c.exceptionTable.toList, False) {y : MethodName} {c' : ByteArray} {n' : Nat} {rt : Option FieldType} {k mc' ms' np idx : Nat} (As : List Value) (rest : List Value) {kz : Option XR} (hC : ∀ u, kz = some u → MXv E l y c' n' rt k mc' ms' As g u) (hm : MLS own idx y c' n' rt np) (h6 : Cond.methodLink own idx y ∈ TB) (hlen : As.length = np) (hR : (rmD k mc' ms').frames + 1 ≤ R.frames ∧ 8 + (n' + 11) + (rmD k mc' ms').locals ≤ R.locals) (hrest : (rest.map fun v => v.category).sum ≤ 8) (hf : cells + mc' ≤ R.cells ∧ slots + ms' ≤ R.slots) (hc : cells + mc' ≤ mc ∧ slots + ms' ≤ ms) (hst : st = As.reverse ++ rest) (hd : decode cc pc = .ok (.invokestatic idx, 3)) {fn : G → Option XR} (h : xb kz fn = some u)
    (kk : ∀ (H1 : Heap) (locs1 : List Loc) (g1 : G), Gd E s H1 locs1 g1 [] → fn g1 = some u → W p l e R s m args below meth c H1 locs1 (cells + mc') (slots + ms') (vx_MQ below Qc (XCx E s.heap.size u) args s mc ms (AA E s.heap.size)) (F0 m (pc + 3) ls rest)) : W p l e R s m args below meth c H locs cells slots (vx_MQ below Qc (XCx E s.heap.size u) args s mc ms (AA E s.heap.size)) (F0 m pc ls st) := by
  obtain ⟨w, hw, h⟩ := xb_inv h
  have hpre := pre_ok C hG As
  obtain ⟨hx, hb, hml, hown, hts, hK, hN, -⟩ := id C
  obtain ⟨h1, h2, h3, h5, -⟩ := hm
  exact afx_V C hG ht (vx_runS (Ts := TB) ⟨hx, hb, hml, hown, hts⟩ (hC w hw H.size) ⟨callB_of np hts (gwz h1) rfl rfl rfl (hts _ h2) (hts _ h6) h5 hR, hts _ h3⟩ ⟨PC_blind, hpre⟩ rfl hlen hls hst (lv_room hrest) hd hf) hc h kk
end THROWS
def zrX (v : Int32) (g : G) : Option XR := if v = 0 ∨ v = 1 then some (0, v, g) else none
theorem zrX_inv {v : Int32} {g : G} {u : XR} (h : zrX v g = some u) : narrow .boolean (.int v) = .int v ∧ some ((0, v, g) : XR) = some u := by
  unfold zrX at h
  by_cases hc : v = 0 ∨ v = 1
  · rw [if_pos hc] at h
    refine ⟨?_, h⟩
    rcases hc with rfl | rfl <;> rfl
  · rw [if_neg hc] at h; cases h
theorem r_zretX {p : Program} {l : Launch} {e : Env} {R : Room} {s : State} {m : MethodId} {args : Array Value} {below : List Frame} {meth : Method} {c : Code} {H : Heap} {locs : List Loc} {cells slots mc ms : Nat} {cc : ByteArray} {n : Nat} {own : String} {E : EV} {pc : Nat} {ls : Array Slot} {g : G} {u : XR} (C : Cx p s m args meth c cc n own E) (hG : Gd E s H locs g []) (hr : meth.sig.returnType = some .boolean) {v : Int32} (hd : decode cc pc = .ok (.ireturn, 1)) (hc : cells ≤ mc ∧ slots ≤ ms) (h : zrX v g = some u) : W p l e R s m args below meth c H locs cells slots (vx_MQ below (QXr E s.heap.size u) (XCx E s.heap.size u) args s mc ms (AA E s.heap.size)) (F0 m pc ls [.int v]) :=
  r_iretX C hG hr (zrX_inv h).1 hd hc (zrX_inv h).2
