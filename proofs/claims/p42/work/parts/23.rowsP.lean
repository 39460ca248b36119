/-! calls of methods that write nothing; their ends; fuel; where references lead -/
def FU : Nat := 100000
def zrP (v : Int32) : Option Int32 := if v = 0 ∨ v = 1 then some v else none
theorem zrP_inv {v u : Int32} (h : zrP v = some u) : narrow .boolean (.int v) = .int v ∧ some v = some u := by
  unfold zrP at h
  by_cases hc : v = 0 ∨ v = 1
  · rw [if_pos hc] at h
    refine ⟨?_, h⟩
    rcases hc with rfl | rfl <;> rfl
  · rw [if_neg hc] at h; cases h
theorem mTBi {w : Cond} (i : Nat) (h : lw_tbl[i]? = some w) (hg : goodWord w = true) : w ∈ TB := List.mem_filter.mpr ⟨List.mem_of_getElem? h, hg⟩
theorem mNBi {w : Cond} (i : Nat) (h : tables_1[i]? = some w) (hg : isNest w = true) : w ∈ NB := List.mem_filter.mpr ⟨List.mem_of_getElem? h, hg⟩
section CALLSP
variable {p : Program} {l : Launch} {e : Env} {R : Room} {s : State} {m : MethodId} {args : Array Value} {below : List Frame} {meth : Method} {c : Code} {H : Heap} {locs : List Loc} {cells slots : Nat} {Q : State → Prop} {cc : ByteArray} {n : Nat} {own : String} {E : EV} {pc : Nat} {ls : Array Slot} {rest st : List Value} {g : G} {xs : va_W} {ρ : Type} {r : ρ}
theorem r_callVIP (C : Cx p s m args meth c cc n own E) (hls : ls.size = n) (hG : Gd E s H locs g xs) {y : MethodName} {c' : ByteArray} {n' : Nat} {rt : Option FieldType} {k np o ci idx N : Nat} (As : List Value) (rest : List Value) {T : u_T} {tt : Nat → FieldType} {kz : Option Int32} (hC : ∀ u, kz = some u → MI E l y c' n' rt k 0 0 (.ref (E.ad o) :: As) g (u, g)) (hm : MLV own idx y c' n' rt np) (hk : kd o = ci) (hKC : KC ci y.cls T N tt) (hlen : As.length = np) (hR : (rmD k 0 0).frames + 1 ≤ R.frames ∧ 8 + (n' + 11) + (rmD k 0 0).locals ≤ R.locals) (hrest : (rest.map fun v => v.category).sum ≤ 8) (hf : cells + 0 ≤ R.cells ∧ slots + 0 ≤ R.slots) (hst : st = As.reverse ++ .ref (E.ad o) :: rest) (hd : decode cc pc = .ok (.invokevirtual idx, 3)) {fn : Int32 → Option ρ} (h : kz.bind fn = some r)
    (kk : ∀ (u : Int32) (H1 : Heap) (locs1 : List Loc), Gd E s H1 locs1 g xs → fn u = some r → W p l e R s m args below meth c H1 locs1 cells slots Q (F0 m (pc + 3) ls (.int u :: rest))) : W p l e R s m args below meth c H locs cells slots Q (F0 m pc ls st) := by
  obtain ⟨u, hu, h⟩ := bind_inv h
  exact af_I hG (run_V C hls hG (hC u hu) hm hk hKC hlen hR hrest hf hst hd) (fun H1 locs1 a => kk u H1 locs1 a h)
theorem r_callSIP (C : Cx p s m args meth c cc n own E) (hls : ls.size = n) (hG : Gd E s H locs g xs) {y : MethodName} {c' : ByteArray} {n' : Nat} {rt : Option FieldType} {k np idx : Nat} (As : List Value) (rest : List Value) {kz : Option Int32} (hC : ∀ u, kz = some u → MI E l y c' n' rt k 0 0 As g (u, g)) (hm : MLS own idx y c' n' rt np) (hlen : As.length = np) (hR : (rmD k 0 0).frames + 1 ≤ R.frames ∧ 8 + (n' + 11) + (rmD k 0 0).locals ≤ R.locals) (hrest : (rest.map fun v => v.category).sum ≤ 8) (hf : cells + 0 ≤ R.cells ∧ slots + 0 ≤ R.slots) (hst : st = As.reverse ++ rest) (hd : decode cc pc = .ok (.invokestatic idx, 3)) {fn : Int32 → Option ρ} (h : kz.bind fn = some r)
    (kk : ∀ (u : Int32) (H1 : Heap) (locs1 : List Loc), Gd E s H1 locs1 g xs → fn u = some r → W p l e R s m args below meth c H1 locs1 cells slots Q (F0 m (pc + 3) ls (.int u :: rest))) : W p l e R s m args below meth c H locs cells slots Q (F0 m pc ls st) := by
  obtain ⟨u, hu, h⟩ := bind_inv h
  exact af_I hG (run_S C hls hG (hC u hu) hm hlen hR hrest hf hst hd) (fun H1 locs1 a => kk u H1 locs1 a h)
theorem r_callVLP (C : Cx p s m args meth c cc n own E) (hls : ls.size = n) (hG : Gd E s H locs g xs) {y : MethodName} {c' : ByteArray} {n' : Nat} {rt : Option FieldType} {k np o ci idx N : Nat} (As : List Value) (rest : List Value) {T : u_T} {tt : Nat → FieldType} {kz : Option Int64} (hC : ∀ u, kz = some u → ML E l y c' n' rt k 0 0 (.ref (E.ad o) :: As) g (u, g)) (hm : MLV own idx y c' n' rt np) (hk : kd o = ci) (hKC : KC ci y.cls T N tt) (hlen : As.length = np) (hR : (rmD k 0 0).frames + 1 ≤ R.frames ∧ 8 + (n' + 11) + (rmD k 0 0).locals ≤ R.locals) (hrest : (rest.map fun v => v.category).sum ≤ 8) (hf : cells + 0 ≤ R.cells ∧ slots + 0 ≤ R.slots) (hst : st = As.reverse ++ .ref (E.ad o) :: rest) (hd : decode cc pc = .ok (.invokevirtual idx, 3)) {fn : Int64 → Option ρ} (h : kz.bind fn = some r)
    (kk : ∀ (u : Int64) (H1 : Heap) (locs1 : List Loc), Gd E s H1 locs1 g xs → fn u = some r → W p l e R s m args below meth c H1 locs1 cells slots Q (F0 m (pc + 3) ls (.long u :: rest))) : W p l e R s m args below meth c H locs cells slots Q (F0 m pc ls st) := by
  obtain ⟨u, hu, h⟩ := bind_inv h
  exact af_L hG (run_V C hls hG (hC u hu) hm hk hKC hlen hR hrest hf hst hd) (fun H1 locs1 a => kk u H1 locs1 a h)
theorem r_callSLP (C : Cx p s m args meth c cc n own E) (hls : ls.size = n) (hG : Gd E s H locs g xs) {y : MethodName} {c' : ByteArray} {n' : Nat} {rt : Option FieldType} {k np idx : Nat} (As : List Value) (rest : List Value) {kz : Option Int64} (hC : ∀ u, kz = some u → ML E l y c' n' rt k 0 0 As g (u, g)) (hm : MLS own idx y c' n' rt np) (hlen : As.length = np) (hR : (rmD k 0 0).frames + 1 ≤ R.frames ∧ 8 + (n' + 11) + (rmD k 0 0).locals ≤ R.locals) (hrest : (rest.map fun v => v.category).sum ≤ 8) (hf : cells + 0 ≤ R.cells ∧ slots + 0 ≤ R.slots) (hst : st = As.reverse ++ rest) (hd : decode cc pc = .ok (.invokestatic idx, 3)) {fn : Int64 → Option ρ} (h : kz.bind fn = some r)
    (kk : ∀ (u : Int64) (H1 : Heap) (locs1 : List Loc), Gd E s H1 locs1 g xs → fn u = some r → W p l e R s m args below meth c H1 locs1 cells slots Q (F0 m (pc + 3) ls (.long u :: rest))) : W p l e R s m args below meth c H locs cells slots Q (F0 m pc ls st) := by
  obtain ⟨u, hu, h⟩ := bind_inv h
  exact af_L hG (run_S C hls hG (hC u hu) hm hlen hR hrest hf hst hd) (fun H1 locs1 a => kk u H1 locs1 a h)
theorem r_callVAP (C : Cx p s m args meth c cc n own E) (hls : ls.size = n) (hG : Gd E s H locs g xs) {y : MethodName} {c' : ByteArray} {n' : Nat} {rt : Option FieldType} {k np o ci idx N : Nat} (As : List Value) (rest : List Value) {T : u_T} {tt : Nat → FieldType} {kz : Option Nat} (hC : ∀ u, kz = some u → MA E l y c' n' rt k 0 0 (.ref (E.ad o) :: As) g (u, g)) (hm : MLV own idx y c' n' rt np) (hk : kd o = ci) (hKC : KC ci y.cls T N tt) (hlen : As.length = np) (hR : (rmD k 0 0).frames + 1 ≤ R.frames ∧ 8 + (n' + 11) + (rmD k 0 0).locals ≤ R.locals) (hrest : (rest.map fun v => v.category).sum ≤ 8) (hf : cells + 0 ≤ R.cells ∧ slots + 0 ≤ R.slots) (hst : st = As.reverse ++ .ref (E.ad o) :: rest) (hd : decode cc pc = .ok (.invokevirtual idx, 3)) {fn : Nat → Option ρ} (h : kz.bind fn = some r)
    (kk : ∀ (u : Nat) (H1 : Heap) (locs1 : List Loc), Gd E s H1 locs1 g xs → fn u = some r → W p l e R s m args below meth c H1 locs1 cells slots Q (F0 m (pc + 3) ls (.ref (E.aK u) :: rest))) : W p l e R s m args below meth c H locs cells slots Q (F0 m pc ls st) := by
  obtain ⟨u, hu, h⟩ := bind_inv h
  exact af_A hG (run_V C hls hG (hC u hu) hm hk hKC hlen hR hrest hf hst hd) (fun H1 locs1 a => kk u H1 locs1 a h)
theorem r_callSAP (C : Cx p s m args meth c cc n own E) (hls : ls.size = n) (hG : Gd E s H locs g xs) {y : MethodName} {c' : ByteArray} {n' : Nat} {rt : Option FieldType} {k np idx : Nat} (As : List Value) (rest : List Value) {kz : Option Nat} (hC : ∀ u, kz = some u → MA E l y c' n' rt k 0 0 As g (u, g)) (hm : MLS own idx y c' n' rt np) (hlen : As.length = np) (hR : (rmD k 0 0).frames + 1 ≤ R.frames ∧ 8 + (n' + 11) + (rmD k 0 0).locals ≤ R.locals) (hrest : (rest.map fun v => v.category).sum ≤ 8) (hf : cells + 0 ≤ R.cells ∧ slots + 0 ≤ R.slots) (hst : st = As.reverse ++ rest) (hd : decode cc pc = .ok (.invokestatic idx, 3)) {fn : Nat → Option ρ} (h : kz.bind fn = some r)
    (kk : ∀ (u : Nat) (H1 : Heap) (locs1 : List Loc), Gd E s H1 locs1 g xs → fn u = some r → W p l e R s m args below meth c H1 locs1 cells slots Q (F0 m (pc + 3) ls (.ref (E.aK u) :: rest))) : W p l e R s m args below meth c H locs cells slots Q (F0 m pc ls st) := by
  obtain ⟨u, hu, h⟩ := bind_inv h
  exact af_A hG (run_S C hls hG (hC u hu) hm hlen hR hrest hf hst hd) (fun H1 locs1 a => kk u H1 locs1 a h)
theorem r_iretP (C : Cx p s m args meth c cc n own E) (hG : Gd E s H locs g []) {ty : FieldType} (hr : meth.sig.returnType = some ty) {v u : Int32} (hn : narrow ty (.int v) = .int v) (hd : decode cc pc = .ok (.ireturn, 1)) (h : some v = some u) : W p l e R s m args below meth c H locs cells slots (MQ below (QI E s.heap.size u g) args s cells slots (AA E s.heap.size)) (F0 m pc ls [.int v]) := by
  cases h
  exact r_iret (u := (v, g)) C hG hr hn hd rfl
theorem r_zretP (C : Cx p s m args meth c cc n own E) (hG : Gd E s H locs g []) (hr : meth.sig.returnType = some .boolean) {v u : Int32} (hd : decode cc pc = .ok (.ireturn, 1)) (h : zrP v = some u) : W p l e R s m args below meth c H locs cells slots (MQ below (QI E s.heap.size u g) args s cells slots (AA E s.heap.size)) (F0 m pc ls [.int v]) :=
  r_iretP C hG hr (zrP_inv h).1 hd (zrP_inv h).2
theorem r_lretP (C : Cx p s m args meth c cc n own E) (hG : Gd E s H locs g []) (hr : meth.sig.returnType = some .long) {v u : Int64} (hd : decode cc pc = .ok (.lreturn, 1)) (h : some v = some u) : W p l e R s m args below meth c H locs cells slots (MQ below (QL E s.heap.size u g) args s cells slots (AA E s.heap.size)) (F0 m pc ls [.long v]) := by
  cases h
  exact r_lret (u := (v, g)) C hG hr hd rfl
end CALLSP
theorem kR2_0 {o : Nat} (h : kd o = 2) : kd (o + 1) = 100010 := (show ∀ o, o < NC → kd o = 2 → kd (o + 1) = 100010 by decide +kernel) o (kd_lt h (by decide)) h
theorem kR2_1 {o : Nat} (h : kd o = 2) : kd (o + 2) = 100010 := (show ∀ o, o < NC → kd o = 2 → kd (o + 2) = 100010 by decide +kernel) o (kd_lt h (by decide)) h
theorem kR2_2 {o : Nat} (h : kd o = 2) : kd (o + 3) = 100400 := (show ∀ o, o < NC → kd o = 2 → kd (o + 3) = 100400 by decide +kernel) o (kd_lt h (by decide)) h
theorem kR2_3 {o : Nat} (h : kd o = 2) : kd (o + 4) = 100400 := (show ∀ o, o < NC → kd o = 2 → kd (o + 4) = 100400 by decide +kernel) o (kd_lt h (by decide)) h
theorem kR3_0 {o : Nat} (h : kd o = 3) : kd (o + 1) = 100012 := (show ∀ o, o < NC → kd o = 3 → kd (o + 1) = 100012 by decide +kernel) o (kd_lt h (by decide)) h
theorem kR3_1 {o : Nat} (h : kd o = 3) : kd (o + 2) = 100012 := (show ∀ o, o < NC → kd o = 3 → kd (o + 2) = 100012 by decide +kernel) o (kd_lt h (by decide)) h
theorem kR4_0 {o : Nat} (h : kd o = 4) : kd (o + 1) = 100010 := (show ∀ o, o < NC → kd o = 4 → kd (o + 1) = 100010 by decide +kernel) o (kd_lt h (by decide)) h
theorem kR4_1 {o : Nat} (h : kd o = 4) : kd (o + 2) = 100010 := (show ∀ o, o < NC → kd o = 4 → kd (o + 2) = 100010 by decide +kernel) o (kd_lt h (by decide)) h
theorem kR4_2 {o : Nat} (h : kd o = 4) : kd (o + 3) = 100010 := (show ∀ o, o < NC → kd o = 4 → kd (o + 3) = 100010 by decide +kernel) o (kd_lt h (by decide)) h
theorem kR4_3 {o : Nat} (h : kd o = 4) : kd (o + 4) = 100010 := (show ∀ o, o < NC → kd o = 4 → kd (o + 4) = 100010 by decide +kernel) o (kd_lt h (by decide)) h
theorem kR4_4 {o : Nat} (h : kd o = 4) : kd (o + 5) = 100010 := (show ∀ o, o < NC → kd o = 4 → kd (o + 5) = 100010 by decide +kernel) o (kd_lt h (by decide)) h
theorem kR4_5 {o : Nat} (h : kd o = 4) : kd (o + 6) = 100010 := (show ∀ o, o < NC → kd o = 4 → kd (o + 6) = 100010 by decide +kernel) o (kd_lt h (by decide)) h
theorem kR4_6 {o : Nat} (h : kd o = 4) : kd (o + 7) = 100010 := (show ∀ o, o < NC → kd o = 4 → kd (o + 7) = 100010 by decide +kernel) o (kd_lt h (by decide)) h
theorem kR7_1 {o : Nat} (h : kd o = 7) : kd (o + 1) = 4 := (show ∀ o, o < NC → kd o = 7 → kd (o + 1) = 4 by decide +kernel) o (kd_lt h (by decide)) h
theorem kR7_2 {o : Nat} (h : kd o = 7) : kd (o + 9) = 3 := (show ∀ o, o < NC → kd o = 7 → kd (o + 9) = 3 by decide +kernel) o (kd_lt h (by decide)) h
theorem kR7_3 {o : Nat} (h : kd o = 7) : kd (o + 12) = 100400 := (show ∀ o, o < NC → kd o = 7 → kd (o + 12) = 100400 by decide +kernel) o (kd_lt h (by decide)) h
