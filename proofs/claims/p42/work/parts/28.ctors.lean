/-! constructors: worlds as written lists -/
def Hd (D : va_G) (A : Nat → Prop) (s : State) (H : Heap) (locs : List Loc) (ws : va_W) : Prop := va_P D vwCl ws H ∧ va_D A ws ∧ va_S A s.heap H locs
abbrev tysOf (tI tB : ClassId) : List (ClassId × FieldType) := [(tI, .int), (tB, .byte)]
def PC0 (D : va_G) (tI tB : ClassId) (sz : Nat) (av : List Value) (ws : va_W) : Array Value → State → Prop := va_Pc av (fun U => U.heap.size = sz ∧ va_P D vwCl ws U.heap ∧ va_K D vwCl (tysOf tI tB) U ∧ va_D (fun _ => True) ws ∧ NK U)
def MC (D : va_G) (tI tB : ClassId) (l : Launch) (y : MethodName) (c : ByteArray) (n k mc ms : Nat) (av : List Value) (ws : va_W) (B : (Nat → Prop) → Heap → Prop) : Prop := ∀ sz, Met l y (wz y c n none) (rmD k mc ms) (PC0 D tI tB sz av ws) (va_Qv (fun (_ : Unit) => True) (fun _ t => B (va_A ws sz) t.heap) (va_A ws sz)) mc ms (va_A ws sz)
def C0 (p : Program) (s : State) (m : MethodId) (args : Array Value) (meth : Method) (c : Code) (cc : ByteArray) (n : Nat) (own : String) (D : va_G) (tI tB : ClassId) (A : Nat → Prop) : Prop :=
  p.tables.exec = Jvm.exec ∧ c.code = cc ∧ c.maxLocals = n ∧ s.vm.findClass own = some m.cls ∧ (∀ w ∈ TB, w.before args s = true) ∧ va_K D vwCl (tysOf tI tB) s ∧ NK s ∧ meth.locks = false ∧ ∀ q, s.heap.size ≤ q → A q
theorem PC0_blind {D : va_G} {tI tB : ClassId} {sz : Nat} {av : List Value} {ws : va_W} : FrameBlind (PC0 D tI tB sz av ws) := by
  intro a U f mk h
  obtain ⟨h0, h1, h2, h3, h4, h5⟩ := h
  exact ⟨h0, h1, h2, va_K.moved (u := U) (U := U.calling f mk a) (Vm.Alike.refl U.vm) h3, h4, fun w hw => Nw_same (u := U) rfl hw (h5 w hw)⟩
theorem MC.of {D : va_G} {tI tB : ClassId} {l : Launch} {y : MethodName} {cc : ByteArray} {n k mc ms : Nat} {av : List Value} {ws : va_W} {B : (Nat → Prop) → Heap → Prop} (hy : plainName y.cls = true) (hn : (lg_sl av).length ≤ n)
    (body : ∀ (p : Program) (e : Env) (s : State) (m : MethodId) (args : Array Value) (below : List Frame) (meth : Method) (c : Code) (A : Nat → Prop), C0 p s m args meth c cc n y.cls D tI tB A → meth.sig.returnType = none → meth.name = y.name → ∀ ls : Array Slot, lv_has ls n (lv_args 0 av) → Hd D A s s.heap [] ws →
      W p l e (rmD k mc ms) s m args below meth c s.heap [] 0 0 (MQ below (va_Qv (fun (_ : Unit) => True) (fun _ t => B A t.heap) A) args s mc ms A) (F0 m 0 ls [])) : MC D tI tB l y cc n k mc ms av ws B := by
  intro sz
  refine Met.ofW (cc := cc) (maxL := n) (ret := none) hy rfl ?_
  intro p e s m args below meth c s₁ B9 hml hv
  obtain ⟨rfl, rfl, h2, h3, h4, h5⟩ := hv
  have hts := atoms_spec (ws := wz y cc n none) B9.pre
  have hown : s.vm.findClass y.cls = some m.cls := findClass_of_methodNamed B9.named
  rw [lg_entry_eq]
  exact body p e s m _ below meth c (va_A ws s.heap.size) ⟨B9.exec, B9.bytes, hml, hown, fun w hw => hts w (List.mem_cons_of_mem _ hw), h3, h5, B9.notSynchronized, fun q hq => Or.inr hq⟩ B9.returns (name_of_methodNamed B9.named B9.method).1 _ (lv_entry av hn) ⟨h2, h4.self, va_S.rf⟩
section CTORS
variable {p : Program} {l : Launch} {e : Env} {R : Room} {s : State} {m : MethodId} {args : Array Value} {below : List Frame} {meth : Method} {c : Code} {H : Heap} {locs : List Loc} {cells slots : Nat} {Q : State → Prop} {cc : ByteArray} {n : Nat} {own : String} {pc : Nat} {ls : Array Slot} {rest st : List Value} {D : va_G} {tI tB : ClassId} {A : Nat → Prop} {ws : va_W}
theorem r0_obj (C : C0 p s m args meth c cc n own D tI tB A) (hls : ls.size = n) {idx a : Nat} (h1 : Cond.methodLink own idx Lib.objectInit ∈ TB) (h2 : Cond.instanceMethod Lib.objectInit ∈ TB) (h3 : Cond.code Lib.objectInit ⟨#[0xb1]⟩ 1 none ∈ TB) (hR : 1 ≤ R.frames ∧ (rest.map fun v => v.category).sum + 12 ≤ R.locals) (hd : decode cc pc = .ok (.invokespecial idx, 3))
    (kk : W p l e R s m args below meth c H locs cells slots Q (F0 m (pc + 3) ls rest)) : W p l e R s m args below meth c H locs cells slots Q (F0 m pc ls (.ref a :: rest)) := by
  obtain ⟨hx, hb, hml, hown, hts, -⟩ := C
  refine W.objInit hx hb hown (hts _ h1) (hts _ h2) (hts _ h3) rfl (hls.trans hml.symm) rfl hd hR.1 (by have := hR.2; simpa [JFrame.monitorRoom] using this) ?_
  exact W.eq (g2 := F0 m (pc + 3) ls rest) rfl kk
theorem tyI0 (C : C0 p s m args meth c cc n own D tI tB A) {cA : ClassId} {tys : List (ClassId × FieldType)} (hK : va_K D vwCl (tys ++ [(cA, .int)]) s) : cA = tI := by
  have h1 : s.vm.findClass ("[" ++ (FieldType.int).toString) = some cA := (hK.2 tys.length (cA, .int) (by simp)).2
  have h2 : s.vm.findClass ("[" ++ (FieldType.int).toString) = some tI := (C.2.2.2.2.2.1.2 0 (tI, .int) rfl).2
  exact Option.some.inj (h1.symm.trans h2)
theorem tyB0 (C : C0 p s m args meth c cc n own D tI tB A) {cA : ClassId} {tys : List (ClassId × FieldType)} (hK : va_K D vwCl (tys ++ [(cA, .byte)]) s) : cA = tB := by
  have h1 : s.vm.findClass ("[" ++ (FieldType.byte).toString) = some cA := (hK.2 tys.length (cA, .byte) (by simp)).2
  have h2 : s.vm.findClass ("[" ++ (FieldType.byte).toString) = some tB := (C.2.2.2.2.2.1.2 1 (tB, .byte) rfl).2
  exact Option.some.inj (h1.symm.trans h2)
theorem r0_newI (C : C0 p s m args meth c cc n own D tI tB A) (hH : Hd D A s H locs ws) {z : Int32} (N : Nat) (hA9 : Cond.arrayClass .int ∈ TB) (hz : ¬ z < 0 ∧ z.toNatClampNeg = N) (hN : N ≤ 3000) (hcells : cells + 1 ≤ R.cells) (hslots : slots + N ≤ R.slots) (hd : decode cc pc = .ok (.newarray .int, 2))
    (kk : ∀ (q : Nat) (H1 : Heap), Hd D A s H1 locs (ws ++ [(q, .inl (tI, N, .inl (fun _ => 0)))]) → W p l e R s m args below meth c H1 locs (cells + 1) (slots + N) Q (F0 m (pc + 2) ls (.ref q :: rest))) : W p l e R s m args below meth c H locs cells slots Q (F0 m pc ls (.int z :: rest)) := by
  refine va_newa (atype := .int) (ty := .int) (a0 := (N, .inl (fun _ => 0))) C.1 C.2.1 (C.2.2.2.2.1 _ hA9) rfl C.2.2.2.2.2.1 hH.1 hH.2.1 hH.2.2 C.2.2.2.2.2.2.2.2 (fun cA => rfl) hz.1 hz.2 (by show N * 4 ≤ 536870912; omega) hcells hslots hd (fun q cA H1 a1 a2 a3 a4 => ?_)
  have e := tyI0 C a1
  subst e
  exact kk q H1 ⟨a2, a3, a4⟩
theorem r0_newB (C : C0 p s m args meth c cc n own D tI tB A) (hH : Hd D A s H locs ws) {z : Int32} (N : Nat) (hA9 : Cond.arrayClass .byte ∈ TB) (hz : ¬ z < 0 ∧ z.toNatClampNeg = N) (hN : N ≤ 3000) (hcells : cells + 1 ≤ R.cells) (hslots : slots + N ≤ R.slots) (hd : decode cc pc = .ok (.newarray .byte, 2))
    (kk : ∀ (q : Nat) (H1 : Heap), Hd D A s H1 locs (ws ++ [(q, .inl (tB, N, .inl (fun _ => 0)))]) → W p l e R s m args below meth c H1 locs (cells + 1) (slots + N) Q (F0 m (pc + 2) ls (.ref q :: rest))) : W p l e R s m args below meth c H locs cells slots Q (F0 m pc ls (.int z :: rest)) := by
  refine va_newa (atype := .byte) (ty := .byte) (a0 := (N, .inl (fun _ => 0))) C.1 C.2.1 (C.2.2.2.2.1 _ hA9) rfl C.2.2.2.2.2.1 hH.1 hH.2.1 hH.2.2 C.2.2.2.2.2.2.2.2 (fun cA => rfl) hz.1 hz.2 (by show N * 1 ≤ 536870912; omega) hcells hslots hd (fun q cA H1 a1 a2 a3 a4 => ?_)
  have e := tyB0 C a1
  subst e
  exact kk q H1 ⟨a2, a3, a4⟩
theorem r0_new (C : C0 p s m args meth c cc n own D tI tB A) (hH : Hd D A s H locs ws) {ci N idx : Nat} {cn : String} {T : u_T} {tt : Nat → FieldType} (hKC : KC ci cn T N tt) (fs : List Value) (h1 : Cond.classLink own idx cn ∈ TB) (h2 : Cond.instantiable cn N ∈ TB) (h3 : Cond.initialized cn ∈ TB) (hfs : ∀ j, j < N → defaultValue (tt j) = vp_V fs j) (hcells : cells + 1 ≤ R.cells) (hslots : slots + N ≤ R.slots) (hd : decode cc pc = .ok (.new idx, 3))
    (kk : ∀ (q : Nat) (H1 : Heap), Hd D A s H1 locs (ws ++ [(q, .inr (ci + 2, fs))]) → W p l e R s m args below meth c H1 locs (cells + 1) (slots + N) Q (F0 m (pc + 3) ls (.ref q :: rest))) : W p l e R s m args below meth c H locs cells slots Q (F0 m pc ls rest) := by
  obtain ⟨hc, hin, hty, -, -⟩ := hKC
  exact va_new (ci := ci + 2) (fs := fs) (C := cn) (T := T) (N := N) C.1 C.2.1 C.2.2.2.2.1 hin tt hty C.2.2.2.1 (C.2.2.2.2.1 _ h1) (C.2.2.2.2.1 _ h2) (C.2.2.2.2.1 _ h3) C.2.2.2.2.2.1 hH.1 hH.2.1 hH.2.2 C.2.2.2.2.2.2.2.2 hc hfs hcells hslots hd (fun q H1 a1 a2 a3 => kk q H1 ⟨a1, a2, a3⟩)
theorem r0_get (C : C0 p s m args meth c cc n own D tI tB A) (hH : Hd D A s H locs ws) {index ci k a : Nat} {fin : Bool} {ty : FieldType} (f : FL own index ci k fin ty) (q0 : Nat) {fs : List Value} (he : ws[q0]? = some (a, .inr (ci + 2, fs))) {v : Value} (hv : fs[k]? = some v) (hd : decode cc pc = .ok (.getfield index, 3))
    (kk : W p l e R s m args below meth c H locs cells slots Q (F0 m (pc + 3) ls (v :: rest))) : W p l e R s m args below meth c H locs cells slots Q (F0 m pc ls (.ref a :: rest)) := by
  obtain ⟨hx, hb, -, hown, hts, hK, hN, -⟩ := C
  obtain ⟨cn, T, N, tt, hKC, hk', -, -, hl⟩ := f
  obtain ⟨hc, hin, -, -, hn⟩ := hKC
  rcases hl with hl | ⟨host, hl⟩
  · exact va_get (D := D) (ci := ci + 2) (C := cn) (T := T) (N := N) hx hb hts hin hown hK hH.1 q0 he hc k hk' (hts _ hl) (fun _ h9 => h9) hv hd kk
  · exact va_getN (D := D) (ci := ci + 2) (C := cn) (T := T) (N := N) hx hb hts hin hown hK hH.1 q0 he hc k hk' (va_Nw.use rfl (hN _ hl)) (fun _ h9 => h9) hv hd kk
theorem r0_put (C : C0 p s m args meth c cc n own D tI tB A) (hH : Hd D A s H locs ws) {index ci k a : Nat} {ty : FieldType} {v : Value} {cn : String} {T : u_T} {N : Nat} {tt : Nat → FieldType} (hKC : KC ci cn T N tt) (hk' : k < N) (hf : (T k).2.2.2 = false) (htt : tt k = ty) (hl : Cond.fieldLink own index (T k).1 (T k).2.1 (T k).2.2.1 ∈ TB) (q0 : Nat) {fs : List Value} (he : ws[q0]? = some (a, .inr (ci + 2, fs))) (hn : narrow ty v = v) (hfit : fits ty v = true) (hlen : k < fs.length) (hd : decode cc pc = .ok (.putfield index, 3))
    (kk : ∀ (H1 : Heap) (locs1 : List Loc), Hd D A s H1 locs1 (ws.set q0 (a, .inr (ci + 2, fs.set k v))) → W p l e R s m args below meth c H1 locs1 cells slots Q (F0 m (pc + 3) ls rest)) : W p l e R s m args below meth c H locs cells slots Q (F0 m pc ls (v :: .ref a :: rest)) := by
  obtain ⟨hx, hb, -, hown, hts, hK, -⟩ := C
  obtain ⟨hc, hin, hty, hnm, hn2⟩ := hKC
  exact va_put (D := D) (ci := ci + 2) (C := cn) (T := T) (N := N) hx hb hts hin tt hty hnm hown hK hH.1 hH.2.1 hH.2.2 q0 he hc k hk' (hts _ hl) (fun _ h9 => h9) hf (by rw [hty k hk', htt]) hn hfit hlen hd (fun H1 locs1 a1 a2 a3 => kk H1 locs1 ⟨a1, a2, a3⟩)
theorem r0_putF (C : C0 p s m args meth c cc n own D tI tB A) (hnm9 : meth.name = "<init>") (hH : Hd D A s H locs ws) {index ci k a : Nat} {ty : FieldType} {v : Value} {cn : String} {T : u_T} {N : Nat} {tt : Nat → FieldType} (hKC : KC ci cn T N tt) (hk' : k < N) (hf : (T k).2.2.2 = true) (htt : tt k = ty) (ho : (T k).1 = own) (hl : Cond.fieldLink own index (T k).1 (T k).2.1 (T k).2.2.1 ∈ TB) (q0 : Nat) {fs : List Value} (he : ws[q0]? = some (a, .inr (ci + 2, fs))) (hn : narrow ty v = v) (hfit : fits ty v = true) (hlen : k < fs.length) (hd : decode cc pc = .ok (.putfield index, 3))
    (kk : ∀ (H1 : Heap) (locs1 : List Loc), Hd D A s H1 locs1 (ws.set q0 (a, .inr (ci + 2, fs.set k v))) → W p l e R s m args below meth c H1 locs1 cells slots Q (F0 m (pc + 3) ls rest)) : W p l e R s m args below meth c H locs cells slots Q (F0 m pc ls (v :: .ref a :: rest)) := by
  obtain ⟨hx, hb, -, hown, hts, hK, -⟩ := C
  obtain ⟨hc, hin, hty, hnm, hn2⟩ := hKC
  exact va_putF (D := D) (ci := ci + 2) (C := cn) (T := T) (N := N) hx hb hts hin tt hty hnm hown hK hH.1 hH.2.1 hH.2.2 q0 he hc k hk' (hts _ hl) (fun _ h9 => h9) hf hnm9 ho (by rw [hty k hk', htt]) hn hfit hlen hd (fun H1 locs1 a1 a2 a3 => kk H1 locs1 ⟨a1, a2, a3⟩)
theorem r0_call (C : C0 p s m args meth c cc n own D tI tB A) (hls : ls.size = n) (hH : Hd D A s H locs ws) {y : MethodName} {c' : ByteArray} {n' k mc ms np a idx : Nat} {cel9 : va_E} (As rest : List Value) {B : (Nat → Prop) → Heap → Prop} (hM : MC D tI tB l y c' n' k mc ms (.ref a :: As) [(a, cel9)] B) (h1 : Cond.code y c' n' none ∈ TB) (h2 : Cond.initialized y.cls ∈ TB) (h3 : Cond.instanceMethod y ∈ TB) (h5 : hdOk y np) (h4 : y.name = "<init>") (h6 : Cond.methodLink own idx y ∈ TB ∨ ∃ host, Cond.methodLinkNest own idx y host ∈ NB)
    (hlen : As.length = np) (hR : (rmD k mc ms).frames + 1 ≤ R.frames ∧ 8 + (n' + 11) + (rmD k mc ms).locals ≤ R.locals) (hrest : (rest.map fun v => v.category).sum ≤ 8) (hf : cells + mc ≤ R.cells ∧ slots + ms ≤ R.slots) (hst : st = As.reverse ++ .ref a :: rest) (hd : decode cc pc = .ok (.invokespecial idx, 3)) (i : Nat) (he : ws[i]? = some (a, cel9)) (isR : List Nat) (wr : va_W) (hr9 : isR.map (fun i => ws[i]?) = wr.map some) (hn9 : va_nd isR = true) (hdis : ∀ j ∈ isR, j ∉ [i])
    (kk : ∀ (H1 : Heap) (locs1 : List Loc), B (va_A [(a, cel9)] H.size) H1 → (∀ w1 : va_W, va_P D vwCl w1 H1 → va_D (va_A [(a, cel9)] H.size) w1 → Hd D A s H1 locs1 (wr ++ w1)) → W p l e R s m args below meth c H1 locs1 (cells + mc) (slots + ms) Q (F0 m (pc + 3) ls rest)) : W p l e R s m args below meth c H locs cells slots Q (F0 m pc ls st) := by
  obtain ⟨hx, hb, hml, hown, hts, hK, hN, hlk, hA⟩ := id C
  have hC : [i].map (fun i => ws[i]?) = [(a, cel9)].map some := by simp [he]
  have hPc := hH.1.sub (ws' := [(a, cel9)]) [i] (by simp [he])
  have hDc := hH.2.1.sub (ws' := [(a, cel9)]) [i] rfl hC
  have hFc := va_free (wc := [(a, cel9)]) hH.2.1 hH.2.2 hA [i] hC
  have hpre : PreS s H (PC0 D tI tB H.size (.ref a :: As) [(a, cel9)]) (.ref a :: As) := ⟨PC0_blind, fun U hU hW => ⟨rfl, by rw [hU], by rw [hU]; exact hPc, va_K.moved hW.alike hK, hDc.weaken (fun _ _ _ _ => trivial), fun w hw => Nw_warm hW hw (hN w hw)⟩⟩
  have key : va_Run p l e R s m args below meth c H locs cells slots mc ms (F0 m pc ls st) rest (va_Qv (fun (_ : Unit) => True) (fun _ t => B (va_A [(a, cel9)] H.size) t.heap) (va_A [(a, cel9)] H.size) (Value.ref a :: As).toArray) (va_A [(a, cel9)] H.size) := by
    rcases h6 with h6 | ⟨host, h6⟩
    · exact va_runI (Ts := TB) ⟨hx, hb, hml, hown, hts⟩ (hM H.size) ⟨callB_of np hts (gwz h1) rfl rfl rfl (hts _ h2) (hts _ h6) h5 hR, h4, hts _ h3⟩ hpre rfl hlen hls hst (lv_room hrest) hd hf
    · exact va_runIN (Ts := TB) (host := host) ⟨hx, hb, hml, hown, hts⟩ (hM H.size) ⟨va_cnB np hts (gwz h1) rfl rfl rfl (hN _ h6) (hts _ h2) h5 hR, h4, hts _ h3⟩ hpre rfl hlen hls hst (lv_room hrest) hd hf
  refine va_callv key hH.2.2 (fun q _ h => hFc q h) hFc (fun u9 t H1 locs1 ht hvm hw hB hz hk hS => ?_)
  rw [ht] at hB
  refine kk H1 locs1 hB (fun w1 b1 b2 => ?_)
  obtain ⟨j1, j2⟩ := va_join (wr := wr) (w1 := w1) hH.1 hH.2.1 [i] isR hC hr9 hn9 hdis hk hFc b1 b2
  exact ⟨j1, j2, hS⟩
theorem r0_ret (C : C0 p s m args meth c cc n own D tI tB A) (hH : Hd D A s H locs ws) (hr : meth.sig.returnType = none) {mc ms : Nat} (hc : cells ≤ mc ∧ slots ≤ ms) {B : (Nat → Prop) → Heap → Prop} (hB : B A H) (hd : decode cc pc = .ok (.return_, 1)) : W p l e R s m args below meth c H locs cells slots (MQ below (va_Qv (fun (_ : Unit) => True) (fun _ t => B A t.heap) A) args s mc ms A) (F0 m pc ls []) := by
  have hl : meth.locks = false := C.2.2.2.2.2.2.2.1
  exact W.widen hc.1 hc.2 (W.vret C.1 C.2.1 hr (fun t ht hW => ⟨⟨(), rfl, trivial, by show B A t.heap; rw [ht]; exact hB⟩, hH.2.2.F ht⟩) hH.2.2.2.2 hd hl)
end CTORS
