/-! calls: what links a call, the callee's precondition, the world behind it -/
def hdOk (y : MethodName) (np : Nat) : Prop := y.cls ≠ "java/lang/invoke/MethodHandle" ∧ y.cls ≠ "java/lang/invoke/VarHandle" ∧ (parseMethodDescriptor y.desc).map (fun d => d.parameters.length) = some np
def MLV (own : String) (idx : Nat) (y : MethodName) (c : ByteArray) (n : Nat) (rt : Option FieldType) (np : Nat) : Prop := Cond.code y c n rt ∈ TB ∧ Cond.initialized y.cls ∈ TB ∧ Cond.instanceMethod y ∈ TB ∧ Cond.selects y.cls y y ∈ TB ∧ hdOk y np ∧ (Cond.methodLink own idx y ∈ TB ∨ ∃ host, Cond.methodLinkNest own idx y host ∈ NB)
def MLS (own : String) (idx : Nat) (y : MethodName) (c : ByteArray) (n : Nat) (rt : Option FieldType) (np : Nat) : Prop := Cond.code y c n rt ∈ TB ∧ Cond.initialized y.cls ∈ TB ∧ Cond.static y ∈ TB ∧ hdOk y np ∧ (Cond.methodLink own idx y ∈ TB ∨ ∃ host, Cond.methodLinkNest own idx y host ∈ NB)
theorem rm_ok {k K n mc ms mc' ms' : Nat} (h : k < K) (hn : n ≤ 41) : (rmD k mc ms).frames + 1 ≤ (rmD K mc' ms').frames ∧ 8 + (n + 11) + (rmD k mc ms).locals ≤ (rmD K mc' ms').locals := by
  refine ⟨h, ?_⟩
  show 8 + (n + 11) + 60 * k ≤ 60 * K
  omega
section CALLS
variable {p : Program} {l : Launch} {e : Env} {R : Room} {s : State} {m : MethodId} {args : Array Value} {below : List Frame} {meth : Method} {c : Code} {H : Heap} {locs : List Loc} {cells slots : Nat} {Q : State → Prop} {cc : ByteArray} {n : Nat} {own : String} {E : EV} {pc : Nat} {ls : Array Slot} {rest st : List Value} {g : G} {xs : va_W} {ρ : Type} {r : ρ}
theorem pre_ok (C : Cx p s m args meth c cc n own E) (hG : Gd E s H locs g xs) (av : List Value) : ∀ U : State, U.heap = H → s.WarmedH U.vm → PC E H.size av g av.toArray U := by
  intro U hU hW
  obtain ⟨-, -, -, -, -, hK, hN, -, hz, hA, hO⟩ := C
  have hS := hG.2.2
  have hsz : E.sz ≤ H.size := Nat.le_trans hz hS.1
  refine ⟨rfl, by rw [hU], by rw [hU]; exact hsz, ?_, va_K.moved hW.alike hK, hA, fun w hw => Nw_warm hW hw (hN w hw), ?_⟩
  · rw [hU]
    intro k q hq
    refine hG.1 k q ?_
    rw [List.getElem?_append_left (List.getElem?_eq_some_iff.mp hq).1]
    exact hq
  · rw [hU]
    exact OO.step hW hz (fun a ha => hS.2.1 a (Nat.lt_of_lt_of_le ha hz) (fun h => Nat.not_le.mpr ha (AA_ge hA hz h))) hO
theorem Gd_D {A : Nat → Prop} {g1 : G} (h : va_D A (wl E g ++ xs)) : va_D A (wl E g1 ++ xs) := by
  have key : ∀ (i : Nat) (q : Nat × va_E), (wl E g1 ++ xs)[i]? = some q → ∃ q' : Nat × va_E, (wl E g ++ xs)[i]? = some q' ∧ q'.1 = q.1 := by
    intro i q hq
    by_cases hi : i < NC
    · rw [wlx_at hi] at hq
      cases hq
      exact ⟨_, wlx_at hi, rfl⟩
    · rw [wlx_ge hi] at hq
      exact ⟨q, by rw [wlx_ge hi]; exact hq, rfl⟩
  refine ⟨fun i j a b ha hb he => ?_, fun k q hq => ?_⟩
  · obtain ⟨a', h1, e1⟩ := key i a ha
    obtain ⟨b', h2, e2⟩ := key j b hb
    exact h.1 i j a' b' h1 h2 (by rw [e1, e2, he])
  · obtain ⟨q', h1, e1⟩ := key k q hq
    rw [← e1]
    exact h.2 k q' h1
theorem Gd_after (hG : Gd E s H locs g xs) {H1 : Heap} {locs1 : List Loc} {g1 : G} (hB : va_P E.D vwCl (wl E g1) H1) (hk : ∀ q : Nat, q < H.size → ¬ AA E H.size q → H1[q]? = H[q]?) (hS : va_S (AA E s.heap.size) s.heap H1 locs1) : Gd E s H1 locs1 g1 xs := by
  refine ⟨va_P.app hB (fun k q hq => ?_), Gd_D hG.2.1, hS⟩
  have hq' : (wl E g ++ xs)[NC + k]? = some q := by
    rw [wlx_ge (by omega), Nat.add_sub_cancel_left]
    exact hq
  have hat := hG.1 _ q hq'
  have hlt := hat.lt
  refine hat.kept (hk q.1 hlt ?_)
  rintro (⟨i, hi, e9⟩ | hge)
  · have := hG.2.1.1 (NC + k) i q (E.ad i, cel E g i) hq' (wlx_at hi) e9
    omega
  · omega
theorem AA_in (hG : Gd E s H locs g xs) : (∀ q, AA E H.size q → AA E s.heap.size q) := by
  rintro q (h | h)
  · exact Or.inl h
  · exact Or.inr (Nat.le_trans hG.2.2.1 h)
theorem run_V (C : Cx p s m args meth c cc n own E) (hls : ls.size = n) (hG : Gd E s H locs g xs) {y : MethodName} {c' : ByteArray} {n' : Nat} {rt : Option FieldType} {k mc ms np o ci idx N : Nat} {As : List Value} {QQ : Nat → Array Value → State → Outcome → State → Prop} {T : u_T} {tt : Nat → FieldType}
    (hM : MG E l y c' n' rt k mc ms (.ref (E.ad o) :: As) g QQ) (hm : MLV own idx y c' n' rt np) (hk : kd o = ci) (hKC : KC ci y.cls T N tt) (hlen : As.length = np) (hR : (rmD k mc ms).frames + 1 ≤ R.frames ∧ 8 + (n' + 11) + (rmD k mc ms).locals ≤ R.locals) (hrest : (rest.map fun v => v.category).sum ≤ 8) (hf : cells + mc ≤ R.cells ∧ slots + ms ≤ R.slots) (hst : st = As.reverse ++ .ref (E.ad o) :: rest) (hd : decode cc pc = .ok (.invokevirtual idx, 3)) :
    va_Run p l e R s m args below meth c H locs cells slots mc ms (F0 m pc ls st) rest (QQ H.size (Value.ref (E.ad o) :: As).toArray) (AA E H.size) := by
  have hpre := pre_ok C hG (.ref (E.ad o) :: As)
  obtain ⟨hx, hb, hml, hown, hts, hK, hN, -⟩ := id C
  obtain ⟨h1, h2, h3, h4, h5, h6⟩ := hm
  have hci := KC_lt hKC
  have ho : o < NC := kd_lt hk (by omega)
  have he : (wl E g ++ xs)[o]? = some (E.ad o, .inr (ci + 2, fsl E g o ci)) := by rw [wlx_at ho, cel_o hk hci]
  have hrecv := va_recv hK hG.1 (ci := ci + 2) hKC.1 he
  rcases h6 with h6 | ⟨host, h6⟩
  · exact va_runV (C := y.cls) (Ts := TB) ⟨hx, hb, hml, hown, hts⟩ (hM H.size) ⟨callB_of np hts (gwz h1) rfl rfl rfl (hts _ h2) (hts _ h6) h5 hR, hts _ h3, hts _ h4⟩ ⟨PC_blind, hrecv, hpre⟩ rfl hlen hls hst (lv_room hrest) hd hf
  · exact va_runVN (C := y.cls) (Ts := TB) (host := host) ⟨hx, hb, hml, hown, hts⟩ (hM H.size) ⟨va_cnB np hts (gwz h1) rfl rfl rfl (hN _ h6) (hts _ h2) h5 hR, hts _ h3, hts _ h4⟩ ⟨PC_blind, hrecv, hpre⟩ rfl hlen hls hst (lv_room hrest) hd hf
theorem run_S (C : Cx p s m args meth c cc n own E) (hls : ls.size = n) (hG : Gd E s H locs g xs) {y : MethodName} {c' : ByteArray} {n' : Nat} {rt : Option FieldType} {k mc ms np idx : Nat} {As : List Value} {QQ : Nat → Array Value → State → Outcome → State → Prop}
    (hM : MG E l y c' n' rt k mc ms As g QQ) (hm : MLS own idx y c' n' rt np) (hlen : As.length = np) (hR : (rmD k mc ms).frames + 1 ≤ R.frames ∧ 8 + (n' + 11) + (rmD k mc ms).locals ≤ R.locals) (hrest : (rest.map fun v => v.category).sum ≤ 8) (hf : cells + mc ≤ R.cells ∧ slots + ms ≤ R.slots) (hst : st = As.reverse ++ rest) (hd : decode cc pc = .ok (.invokestatic idx, 3)) :
    va_Run p l e R s m args below meth c H locs cells slots mc ms (F0 m pc ls st) rest (QQ H.size As.toArray) (AA E H.size) := by
  have hpre := pre_ok C hG As
  obtain ⟨hx, hb, hml, hown, hts, hK, hN, -⟩ := id C
  obtain ⟨h1, h2, h3, h5, h6⟩ := hm
  rcases h6 with h6 | ⟨host, h6⟩
  · exact va_runS (Ts := TB) ⟨hx, hb, hml, hown, hts⟩ (hM H.size) ⟨callB_of np hts (gwz h1) rfl rfl rfl (hts _ h2) (hts _ h6) h5 hR, hts _ h3⟩ ⟨PC_blind, hpre⟩ rfl hlen hls hst (lv_room hrest) hd hf
  · exact va_runSN (Ts := TB) (host := host) ⟨hx, hb, hml, hown, hts⟩ (hM H.size) ⟨va_cnB np hts (gwz h1) rfl rfl rfl (hN _ h6) (hts _ h2) h5 hR, hts _ h3, trivial⟩ ⟨PC_blind, hpre⟩ rfl hlen hls hst (lv_room hrest) hd hf
theorem af_I (hG : Gd E s H locs g xs) {mc ms : Nat} {a : Array Value} {u : Int32 × G} {st0 : List Value} (hr : va_Run p l e R s m args below meth c H locs cells slots mc ms (F0 m pc ls st0) rest (QI E H.size u.1 u.2 a) (AA E H.size))
    (kk : ∀ (H1 : Heap) (locs1 : List Loc), Gd E s H1 locs1 u.2 xs → W p l e R s m args below meth c H1 locs1 (cells + mc) (slots + ms) Q (F0 m (pc + 3) ls (.int u.1 :: rest))) : W p l e R s m args below meth c H locs cells slots Q (F0 m pc ls st0) := by
  refine va_calli hr hG.2.2 (fun q _ h => AA_in hG q h) (AA_in hG) (fun r9 u9 t H1 locs1 ht hvm hw hB hz hk hS => ?_)
  have hw : r9 = u.1 := hw
  subst hw
  exact kk H1 locs1 (Gd_after hG (by rw [← ht]; exact hB) hk hS)
theorem af_L (hG : Gd E s H locs g xs) {mc ms : Nat} {a : Array Value} {u : Int64 × G} {st0 : List Value} (hr : va_Run p l e R s m args below meth c H locs cells slots mc ms (F0 m pc ls st0) rest (QL E H.size u.1 u.2 a) (AA E H.size))
    (kk : ∀ (H1 : Heap) (locs1 : List Loc), Gd E s H1 locs1 u.2 xs → W p l e R s m args below meth c H1 locs1 (cells + mc) (slots + ms) Q (F0 m (pc + 3) ls (.long u.1 :: rest))) : W p l e R s m args below meth c H locs cells slots Q (F0 m pc ls st0) := by
  refine va_calll hr hG.2.2 (fun q _ h => AA_in hG q h) (AA_in hG) (fun r9 u9 t H1 locs1 ht hvm hw hB hz hk hS => ?_)
  have hw : r9 = u.1 := hw
  subst hw
  exact kk H1 locs1 (Gd_after hG (by rw [← ht]; exact hB) hk hS)
theorem af_V (hG : Gd E s H locs g xs) {mc ms : Nat} {a : Array Value} {u : G} {st0 : List Value} (hr : va_Run p l e R s m args below meth c H locs cells slots mc ms (F0 m pc ls st0) rest (QV E H.size u a) (AA E H.size))
    (kk : ∀ (H1 : Heap) (locs1 : List Loc), Gd E s H1 locs1 u xs → W p l e R s m args below meth c H1 locs1 (cells + mc) (slots + ms) Q (F0 m (pc + 3) ls rest)) : W p l e R s m args below meth c H locs cells slots Q (F0 m pc ls st0) := by
  refine va_callv hr hG.2.2 (fun q _ h => AA_in hG q h) (AA_in hG) (fun u9 t H1 locs1 ht hvm hw hB hz hk hS => ?_)
  exact kk H1 locs1 (Gd_after hG (by rw [← ht]; exact hB) hk hS)
theorem af_A (hG : Gd E s H locs g xs) {mc ms : Nat} {a : Array Value} {u : Nat × G} {st0 : List Value} (hr : va_Run p l e R s m args below meth c H locs cells slots mc ms (F0 m pc ls st0) rest (QA E H.size (E.aK u.1) u.2 a) (AA E H.size))
    (kk : ∀ (H1 : Heap) (locs1 : List Loc), Gd E s H1 locs1 u.2 xs → W p l e R s m args below meth c H1 locs1 (cells + mc) (slots + ms) Q (F0 m (pc + 3) ls (.ref (E.aK u.1) :: rest))) : W p l e R s m args below meth c H locs cells slots Q (F0 m pc ls st0) := by
  refine va_callr hr hG.2.2 (fun q _ h => AA_in hG q h) (AA_in hG) (fun u9 a9 t H1 locs1 ht hvm hw hB hz hk hS => ?_)
  obtain ⟨rfl, hB⟩ := hB
  exact kk H1 locs1 (Gd_after hG (by rw [← ht]; exact hB) hk hS)
theorem r_callVI (C : Cx p s m args meth c cc n own E) (hls : ls.size = n) (hG : Gd E s H locs g xs) {y : MethodName} {c' : ByteArray} {n' : Nat} {rt : Option FieldType} {k np o ci idx N : Nat} (As : List Value) (rest : List Value) {T : u_T} {tt : Nat → FieldType} {kz : Option (Int32 × G)} (hC : ∀ u, kz = some u → MI E l y c' n' rt k 0 0 (.ref (E.ad o) :: As) g u) (hm : MLV own idx y c' n' rt np) (hk : kd o = ci) (hKC : KC ci y.cls T N tt) (hlen : As.length = np) (hR : (rmD k 0 0).frames + 1 ≤ R.frames ∧ 8 + (n' + 11) + (rmD k 0 0).locals ≤ R.locals) (hrest : (rest.map fun v => v.category).sum ≤ 8) (hf : cells + 0 ≤ R.cells ∧ slots + 0 ≤ R.slots) (hst : st = As.reverse ++ .ref (E.ad o) :: rest) (hd : decode cc pc = .ok (.invokevirtual idx, 3)) {fn : Int32 × G → Option ρ} (h : kz.bind fn = some r)
    (kk : ∀ (u : Int32 × G) (H1 : Heap) (locs1 : List Loc), Gd E s H1 locs1 u.2 xs → fn u = some r → W p l e R s m args below meth c H1 locs1 cells slots Q (F0 m (pc + 3) ls (.int u.1 :: rest))) : W p l e R s m args below meth c H locs cells slots Q (F0 m pc ls st) := by
  obtain ⟨u, hu, h⟩ := bind_inv h
  exact af_I hG (run_V C hls hG (hC u hu) hm hk hKC hlen hR hrest hf hst hd) (fun H1 locs1 a => kk u H1 locs1 a h)
theorem r_callVL (C : Cx p s m args meth c cc n own E) (hls : ls.size = n) (hG : Gd E s H locs g xs) {y : MethodName} {c' : ByteArray} {n' : Nat} {rt : Option FieldType} {k np o ci idx N : Nat} (As : List Value) (rest : List Value) {T : u_T} {tt : Nat → FieldType} {kz : Option (Int64 × G)} (hC : ∀ u, kz = some u → ML E l y c' n' rt k 0 0 (.ref (E.ad o) :: As) g u) (hm : MLV own idx y c' n' rt np) (hk : kd o = ci) (hKC : KC ci y.cls T N tt) (hlen : As.length = np) (hR : (rmD k 0 0).frames + 1 ≤ R.frames ∧ 8 + (n' + 11) + (rmD k 0 0).locals ≤ R.locals) (hrest : (rest.map fun v => v.category).sum ≤ 8) (hf : cells + 0 ≤ R.cells ∧ slots + 0 ≤ R.slots) (hst : st = As.reverse ++ .ref (E.ad o) :: rest) (hd : decode cc pc = .ok (.invokevirtual idx, 3)) {fn : Int64 × G → Option ρ} (h : kz.bind fn = some r)
    (kk : ∀ (u : Int64 × G) (H1 : Heap) (locs1 : List Loc), Gd E s H1 locs1 u.2 xs → fn u = some r → W p l e R s m args below meth c H1 locs1 cells slots Q (F0 m (pc + 3) ls (.long u.1 :: rest))) : W p l e R s m args below meth c H locs cells slots Q (F0 m pc ls st) := by
  obtain ⟨u, hu, h⟩ := bind_inv h
  exact af_L hG (run_V C hls hG (hC u hu) hm hk hKC hlen hR hrest hf hst hd) (fun H1 locs1 a => kk u H1 locs1 a h)
theorem r_callVV (C : Cx p s m args meth c cc n own E) (hls : ls.size = n) (hG : Gd E s H locs g xs) {y : MethodName} {c' : ByteArray} {n' : Nat} {rt : Option FieldType} {k np o ci idx N : Nat} (As : List Value) (rest : List Value) {T : u_T} {tt : Nat → FieldType} {kz : Option G} (hC : ∀ u, kz = some u → MV E l y c' n' rt k 0 0 (.ref (E.ad o) :: As) g u) (hm : MLV own idx y c' n' rt np) (hk : kd o = ci) (hKC : KC ci y.cls T N tt) (hlen : As.length = np) (hR : (rmD k 0 0).frames + 1 ≤ R.frames ∧ 8 + (n' + 11) + (rmD k 0 0).locals ≤ R.locals) (hrest : (rest.map fun v => v.category).sum ≤ 8) (hf : cells + 0 ≤ R.cells ∧ slots + 0 ≤ R.slots) (hst : st = As.reverse ++ .ref (E.ad o) :: rest) (hd : decode cc pc = .ok (.invokevirtual idx, 3)) {fn : G → Option ρ} (h : kz.bind fn = some r)
    (kk : ∀ (u : G) (H1 : Heap) (locs1 : List Loc), Gd E s H1 locs1 u xs → fn u = some r → W p l e R s m args below meth c H1 locs1 cells slots Q (F0 m (pc + 3) ls rest)) : W p l e R s m args below meth c H locs cells slots Q (F0 m pc ls st) := by
  obtain ⟨u, hu, h⟩ := bind_inv h
  exact af_V hG (run_V C hls hG (hC u hu) hm hk hKC hlen hR hrest hf hst hd) (fun H1 locs1 a => kk u H1 locs1 a h)
theorem r_callSI (C : Cx p s m args meth c cc n own E) (hls : ls.size = n) (hG : Gd E s H locs g xs) {y : MethodName} {c' : ByteArray} {n' : Nat} {rt : Option FieldType} {k np idx : Nat} (As : List Value) (rest : List Value) {kz : Option (Int32 × G)} (hC : ∀ u, kz = some u → MI E l y c' n' rt k 0 0 As g u) (hm : MLS own idx y c' n' rt np) (hlen : As.length = np) (hR : (rmD k 0 0).frames + 1 ≤ R.frames ∧ 8 + (n' + 11) + (rmD k 0 0).locals ≤ R.locals) (hrest : (rest.map fun v => v.category).sum ≤ 8) (hf : cells + 0 ≤ R.cells ∧ slots + 0 ≤ R.slots) (hst : st = As.reverse ++ rest) (hd : decode cc pc = .ok (.invokestatic idx, 3)) {fn : Int32 × G → Option ρ} (h : kz.bind fn = some r)
    (kk : ∀ (u : Int32 × G) (H1 : Heap) (locs1 : List Loc), Gd E s H1 locs1 u.2 xs → fn u = some r → W p l e R s m args below meth c H1 locs1 cells slots Q (F0 m (pc + 3) ls (.int u.1 :: rest))) : W p l e R s m args below meth c H locs cells slots Q (F0 m pc ls st) := by
  obtain ⟨u, hu, h⟩ := bind_inv h
  exact af_I hG (run_S C hls hG (hC u hu) hm hlen hR hrest hf hst hd) (fun H1 locs1 a => kk u H1 locs1 a h)
theorem r_callSV (C : Cx p s m args meth c cc n own E) (hls : ls.size = n) (hG : Gd E s H locs g xs) {y : MethodName} {c' : ByteArray} {n' : Nat} {rt : Option FieldType} {k np idx : Nat} (As : List Value) (rest : List Value) {kz : Option G} (hC : ∀ u, kz = some u → MV E l y c' n' rt k 0 0 As g u) (hm : MLS own idx y c' n' rt np) (hlen : As.length = np) (hR : (rmD k 0 0).frames + 1 ≤ R.frames ∧ 8 + (n' + 11) + (rmD k 0 0).locals ≤ R.locals) (hrest : (rest.map fun v => v.category).sum ≤ 8) (hf : cells + 0 ≤ R.cells ∧ slots + 0 ≤ R.slots) (hst : st = As.reverse ++ rest) (hd : decode cc pc = .ok (.invokestatic idx, 3)) {fn : G → Option ρ} (h : kz.bind fn = some r)
    (kk : ∀ (u : G) (H1 : Heap) (locs1 : List Loc), Gd E s H1 locs1 u xs → fn u = some r → W p l e R s m args below meth c H1 locs1 cells slots Q (F0 m (pc + 3) ls rest)) : W p l e R s m args below meth c H locs cells slots Q (F0 m pc ls st) := by
  obtain ⟨u, hu, h⟩ := bind_inv h
  exact af_V hG (run_S C hls hG (hC u hu) hm hlen hR hrest hf hst hd) (fun H1 locs1 a => kk u H1 locs1 a h)
theorem r_callSA (C : Cx p s m args meth c cc n own E) (hls : ls.size = n) (hG : Gd E s H locs g xs) {y : MethodName} {c' : ByteArray} {n' : Nat} {rt : Option FieldType} {k np idx : Nat} (As : List Value) (rest : List Value) {kz : Option (Nat × G)} (hC : ∀ u, kz = some u → MA E l y c' n' rt k 0 0 As g u) (hm : MLS own idx y c' n' rt np) (hlen : As.length = np) (hR : (rmD k 0 0).frames + 1 ≤ R.frames ∧ 8 + (n' + 11) + (rmD k 0 0).locals ≤ R.locals) (hrest : (rest.map fun v => v.category).sum ≤ 8) (hf : cells + 0 ≤ R.cells ∧ slots + 0 ≤ R.slots) (hst : st = As.reverse ++ rest) (hd : decode cc pc = .ok (.invokestatic idx, 3)) {fn : Nat × G → Option ρ} (h : kz.bind fn = some r)
    (kk : ∀ (u : Nat × G) (H1 : Heap) (locs1 : List Loc), Gd E s H1 locs1 u.2 xs → fn u = some r → W p l e R s m args below meth c H1 locs1 cells slots Q (F0 m (pc + 3) ls (.ref (E.aK u.1) :: rest))) : W p l e R s m args below meth c H locs cells slots Q (F0 m pc ls st) := by
  obtain ⟨u, hu, h⟩ := bind_inv h
  exact af_A hG (run_S C hls hG (hC u hu) hm hlen hR hrest hf hst hd) (fun H1 locs1 a => kk u H1 locs1 a h)
/-! Math and arraycopy -/
def LMax (own : String) (i : Nat) : Prop := Cond.methodLink own i Lib.Math.max.name ∈ TB ∧ Cond.static Lib.Math.max.name ∈ TB ∧ Cond.initialized "java/lang/Math" ∈ TB ∧ Cond.code Lib.Math.max.name Lib.Math.max.code 2 (some .int) ∈ TB
def LMin (own : String) (i : Nat) : Prop := Cond.methodLink own i Lib.Math.min.name ∈ TB ∧ Cond.static Lib.Math.min.name ∈ TB ∧ Cond.initialized "java/lang/Math" ∈ TB ∧ Cond.code Lib.Math.min.name Lib.Math.min.code 2 (some .int) ∈ TB
def LAbs (own : String) (i : Nat) : Prop := Cond.methodLink own i Lib.Math.abs.name ∈ TB ∧ Cond.static Lib.Math.abs.name ∈ TB ∧ Cond.initialized "java/lang/Math" ∈ TB ∧ Cond.code Lib.Math.abs.name Lib.Math.abs.code 1 (some .int) ∈ TB
def LMaxL (own : String) (i : Nat) : Prop := Cond.methodLink own i Lib.MathLoose.max_long.x ∈ TB ∧ Cond.static Lib.MathLoose.max_long.x ∈ TB ∧ Cond.initialized "java/lang/Math" ∈ TB ∧ Cond.code Lib.MathLoose.max_long.x Lib.MathLoose.max_long.code 4 (some .long) ∈ TB
def LMinL (own : String) (i : Nat) : Prop := Cond.methodLink own i Lib.MathLoose.min_long.x ∈ TB ∧ Cond.static Lib.MathLoose.min_long.x ∈ TB ∧ Cond.initialized "java/lang/Math" ∈ TB ∧ Cond.code Lib.MathLoose.min_long.x Lib.MathLoose.min_long.code 4 (some .long) ∈ TB
def LCpy (own : String) (i : Nat) : Prop := Cond.methodLink own i arraycopyName ∈ TB ∧ Cond.native arraycopyName ∈ TB ∧ Cond.static arraycopyName ∈ TB ∧ Cond.initialized "java/lang/System" ∈ TB
theorem r_max (C : Cx p s m args meth c cc n own E) (hls : ls.size = n) {i : Nat} (hm : LMax own i) (hR : 1 ≤ R.frames ∧ (rest.map fun v => v.category).sum + 13 ≤ R.locals ∧ cells ≤ R.cells ∧ slots ≤ R.slots) {x y : Int32} (hd : decode cc pc = .ok (.invokestatic i, 3))
    (kk : W p l e R s m args below meth c H locs cells slots Q (F0 m (pc + 3) ls (.int (if x < y then y else x) :: rest))) : W p l e R s m args below meth c H locs cells slots Q (F0 m pc ls (.int y :: .int x :: rest)) := by
  obtain ⟨hx, hb, hml, hown, hts, -⟩ := C
  exact va_mmax hx hb (hml.trans hls.symm) hown (hts _ hm.1) (hts _ hm.2.1) (hts _ hm.2.2.1) (hts _ hm.2.2.2) hR.1 hR.2.1 hR.2.2.1 hR.2.2.2 hd kk
theorem r_min (C : Cx p s m args meth c cc n own E) (hls : ls.size = n) {i : Nat} (hm : LMin own i) (hR : 1 ≤ R.frames ∧ (rest.map fun v => v.category).sum + 13 ≤ R.locals ∧ cells ≤ R.cells ∧ slots ≤ R.slots) {x y : Int32} (hd : decode cc pc = .ok (.invokestatic i, 3))
    (kk : W p l e R s m args below meth c H locs cells slots Q (F0 m (pc + 3) ls (.int (if y < x then y else x) :: rest))) : W p l e R s m args below meth c H locs cells slots Q (F0 m pc ls (.int y :: .int x :: rest)) := by
  obtain ⟨hx, hb, hml, hown, hts, -⟩ := C
  exact va_mmin hx hb (hml.trans hls.symm) hown (hts _ hm.1) (hts _ hm.2.1) (hts _ hm.2.2.1) (hts _ hm.2.2.2) hR.1 hR.2.1 hR.2.2.1 hR.2.2.2 hd kk
theorem r_abs (C : Cx p s m args meth c cc n own E) (hls : ls.size = n) {i : Nat} (hm : LAbs own i) (hR : 1 ≤ R.frames ∧ (rest.map fun v => v.category).sum + 13 ≤ R.locals ∧ cells ≤ R.cells ∧ slots ≤ R.slots) {x : Int32} (hd : decode cc pc = .ok (.invokestatic i, 3))
    (kk : W p l e R s m args below meth c H locs cells slots Q (F0 m (pc + 3) ls (.int (if 0 ≤ x then x else 0 - x) :: rest))) : W p l e R s m args below meth c H locs cells slots Q (F0 m pc ls (.int x :: rest)) := by
  obtain ⟨hx, hb, hml, hown, hts, -⟩ := C
  exact va_mabs hx hb (hml.trans hls.symm) hown (hts _ hm.1) (hts _ hm.2.1) (hts _ hm.2.2.1) (hts _ hm.2.2.2) hR.1 hR.2.1 hR.2.2.1 hR.2.2.2 hd kk
theorem r_maxL (C : Cx p s m args meth c cc n own E) (hls : ls.size = n) {i : Nat} (hm : LMaxL own i) (hR : 1 ≤ R.frames ∧ (rest.map fun v => v.category).sum + 15 ≤ R.locals ∧ cells ≤ R.cells ∧ slots ≤ R.slots) {x y : Int64} (hd : decode cc pc = .ok (.invokestatic i, 3))
    (kk : W p l e R s m args below meth c H locs cells slots Q (F0 m (pc + 3) ls (.long (if y < x then x else y) :: rest))) : W p l e R s m args below meth c H locs cells slots Q (F0 m pc ls (.long y :: .long x :: rest)) := by
  obtain ⟨hx, hb, hml, hown, hts, -⟩ := C
  exact va_mmax_long hx hb (hml.trans hls.symm) hown (hts _ hm.1) (hts _ hm.2.1) (hts _ hm.2.2.1) (hts _ hm.2.2.2) hR.1 hR.2.1 hR.2.2.1 hR.2.2.2 hd kk
theorem r_minL (C : Cx p s m args meth c cc n own E) (hls : ls.size = n) {i : Nat} (hm : LMinL own i) (hR : 1 ≤ R.frames ∧ (rest.map fun v => v.category).sum + 15 ≤ R.locals ∧ cells ≤ R.cells ∧ slots ≤ R.slots) {x y : Int64} (hd : decode cc pc = .ok (.invokestatic i, 3))
    (kk : W p l e R s m args below meth c H locs cells slots Q (F0 m (pc + 3) ls (.long (if y < x then y else x) :: rest))) : W p l e R s m args below meth c H locs cells slots Q (F0 m pc ls (.long y :: .long x :: rest)) := by
  obtain ⟨hx, hb, hml, hown, hts, -⟩ := C
  exact va_mmin_long hx hb (hml.trans hls.symm) hown (hts _ hm.1) (hts _ hm.2.1) (hts _ hm.2.2.1) (hts _ hm.2.2.2) hR.1 hR.2.1 hR.2.2.1 hR.2.2.2 hd kk
theorem r_cpy (C : Cx p s m args meth c cc n own E) (hls : ls.size = n) (hG : Gd E s H locs g xs) {i a b N : Nat} (hm : LCpy own i) (ha : kd a = 100000 + N) (hb9 : kd b = 100000 + N) (hN : N < 100000) {z : Int32} (hz : z = nI N) (hR : 1 ≤ R.frames ∧ (rest.map fun v => v.category).sum + (nativeFrameWords "java/lang/System" "arraycopy" 5 + 11) ≤ R.locals) (hd : decode cc pc = .ok (.invokestatic i, 3)) {fn : G → Option ρ} (h : bd (cpy g a b N) fn = some r)
    (kk : ∀ (H1 : Heap) (locs1 : List Loc) (g1 : G), Gd E s H1 locs1 g1 xs → fn g1 = some r → W p l e R s m args below meth c H1 locs1 cells slots Q (F0 m (pc + 3) ls rest)) : W p l e R s m args below meth c H locs cells slots Q (F0 m pc ls (.int z :: .int 0 :: .ref (E.ad b) :: .int 0 :: .ref (E.ad a) :: rest)) := by
  obtain ⟨hx, hb, hml, hown, hts, hK, -⟩ := C
  subst hz
  have hoa : a < NC := kd_lt ha (by omega)
  have hob : b < NC := kd_lt hb9 (by omega)
  have hea : (wl E g ++ xs)[a]? = some (E.ad a, .inl (E.tI, N, .inl (g a))) := by rw [wlx_at hoa, cel_i ha hN]
  have heb : (wl E g ++ xs)[b]? = some (E.ad b, .inl (E.tI, N, .inl (g b))) := by rw [wlx_at hob, cel_i hb9 hN]
  have hcl : (nI N).toNatClampNeg = N := nI_clamp (by omega)
  have h0 : (0 : Int32).toNatClampNeg = 0 := by decide
  have hset : (wl E g ++ xs).set b (E.ad b, .inl (E.tI, N, .inl (va_cpy (g a) (g b) (0 : Int32).toNatClampNeg (0 : Int32).toNatClampNeg (nI N).toNatClampNeg))) = wl E (cpy g a b N) ++ xs := by
    rw [hcl, h0]
    have hf : va_cpy (g a) (g b) 0 0 N = cpy g a b N b := by
      funext j
      by_cases hj : j < N <;> simp [va_cpy, cpy, hj]
    have hne : ∀ i9, i9 ≠ b → cpy g a b N i9 = g i9 := fun i9 hi => funext fun _ => if_neg (fun q => hi q.1)
    apply List.ext_getElem?
    intro i9
    rw [List.getElem?_set]
    by_cases hi : b = i9
    · subst hi
      rw [if_pos rfl, if_pos (by rw [List.length_append, wl_len]; omega), wlx_at hob, cel_i hb9 hN, hf]
    · rw [if_neg hi]
      by_cases hN9 : i9 < NC
      · rw [wlx_at hN9, wlx_at hN9]
        unfold cel fsl fval
        rw [hne i9 (Ne.symm hi)]
      · rw [wlx_ge hN9, wlx_ge hN9]
  refine va_copyi hx hb (hml.trans hls.symm) hown (hts _ hm.1) (hts _ hm.2.1) (hts _ hm.2.2.1) (hts _ hm.2.2.2) hK hG.1 hG.2.1 hG.2.2 a b 0 0 hea heb rfl rfl rfl (by decide) (by decide) (nI_pos (by omega)) (by rw [hcl, h0]; omega) (by rw [hcl, h0]; omega) (fun _ _ => rfl) hR.1 hR.2 hd (fun H1 locs1 a1 a2 a3 => ?_)
  rw [hset] at a1 a2
  exact kk H1 locs1 _ ⟨a1, a2, a3⟩ h
end CALLS
