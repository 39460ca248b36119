/-! Strings: rows over the run's String constants; two of the JDK's own methods by hand -/
def ckS {ρ : Type} (i : Nat) (x : Option ρ) : Option ρ := if i < NS then x else none
def sld {ρ : Type} (i : Nat) (j : Int32) (f : Int32 → Option ρ) : Option ρ := if i < NS then (if j < 0 ∨ sL i ≤ j.toNatClampNeg then none else f ((sB i).getD j.toNatClampNeg 0)) else none
def zcP (v : Int32) : Option Int32 := if 0 ≤ v ∧ v ≤ 65535 then some v else none
theorem ckS_inv {ρ : Type} {i : Nat} {x : Option ρ} {r : ρ} (h : ckS i x = some r) : i < NS ∧ x = some r := by
  unfold ckS at h
  by_cases hc : i < NS
  · rw [if_pos hc] at h; exact ⟨hc, h⟩
  · rw [if_neg hc] at h; cases h
theorem sld_inv {ρ : Type} {i : Nat} {j : Int32} {f : Int32 → Option ρ} {r : ρ} (h : sld i j f = some r) : i < NS ∧ vp_in j (sL i) ∧ f ((sB i).getD j.toNatClampNeg 0) = some r := by
  unfold sld at h
  by_cases hc : i < NS
  · rw [if_pos hc] at h
    by_cases hd : j < 0 ∨ sL i ≤ j.toNatClampNeg
    · rw [if_pos hd] at h; cases h
    · rw [if_neg hd] at h; exact ⟨hc, hd, h⟩
  · rw [if_neg hc] at h; cases h
theorem zcP_inv {v u : Int32} (h : zcP v = some u) : narrow .char (.int v) = .int v ∧ some v = some u := by
  unfold zcP at h
  by_cases hc : 0 ≤ v ∧ v ≤ 65535
  · rw [if_pos hc] at h
    refine ⟨?_, h⟩
    have h1 : (65535 : Int32).toInt = ((65535 : Nat) : Int) := by decide
    obtain ⟨j, hj, rfl⟩ := nI_of2 h1 (Int32.not_lt.mpr hc.1) hc.2
    exact (pk_charN (by omega)).1
  · rw [if_neg hc] at h; cases h
section STRS
variable {p : Program} {l : Launch} {e : Env} {R : Room} {s : State} {m : MethodId} {args : Array Value} {below : List Frame} {meth : Method} {c : Code} {H : Heap} {locs : List Loc} {cells slots : Nat} {Q : State → Prop} {cc : ByteArray} {n : Nat} {own : String} {E : EV} {pc : Nat} {ls : Array Slot} {rest st : List Value} {g : G} {xs : va_W} {ρ : Type} {r : ρ}
theorem Cx.oo (C : Cx p s m args meth c cc n own E) : OOx E.sz E.aK E.aV E.tW s s.heap := C.2.2.2.2.2.2.2.2.2.2.1
theorem Cx.ox (C : Cx p s m args meth c cc n own E) : va_X E.sb E.sL E.sx s s.heap ∧ E.sb < E.sz := C.2.2.2.2.2.2.2.2.2.2.2
theorem Cx.na (C : Cx p s m args meth c cc n own E) : ∀ q, AA E s.heap.size q → A0 E.sz q := fun _ h => AA_ge C.2.2.2.2.2.2.2.2.2.1 C.2.2.2.2.2.2.2.2.1 h
theorem Cx.so (C : Cx p s m args meth c cc n own E) {i : Nat} (hi : i < NS) : SO1 E.sz E.aK E.aV i s s.heap := (C.oo.2.2.2.2.2.2 i hi).1
theorem r_sval (C : Cx p s m args meth c cc n own E) (hG : Gd E s H locs g xs) {i idx : Nat} (hl : Cond.fieldLink own idx "java/lang/String" "value" "[B" ∈ TB) (hd : decode cc pc = .ok (.getfield idx, 3)) {x : Option ρ} (h : ckS i x = some r) (kk : x = some r → W p l e R s m args below meth c H locs cells slots Q (F0 m (pc + 3) ls (.ref (E.aV i) :: rest))) : W p l e R s m args below meth c H locs cells slots Q (F0 m pc ls (.ref (E.aK i) :: rest)) := by
  obtain ⟨hi, h⟩ := ckS_inv h
  exact vk_getf C.1 C.2.1 ((C.so hi).2.2.1.narrow C.na) hG.2.2 C.2.2.2.1 (C.2.2.2.2.1 _ hl) (fun _ h9 => h9) hd (kk h)
theorem r_scod (C : Cx p s m args meth c cc n own E) (hG : Gd E s H locs g xs) {i idx : Nat} (hl : Cond.fieldLink own idx "java/lang/String" "coder" "B" ∈ TB) (hd : decode cc pc = .ok (.getfield idx, 3)) {x : Option ρ} (h : ckS i x = some r) (kk : x = some r → W p l e R s m args below meth c H locs cells slots Q (F0 m (pc + 3) ls (.int 0 :: rest))) : W p l e R s m args below meth c H locs cells slots Q (F0 m pc ls (.ref (E.aK i) :: rest)) := by
  obtain ⟨hi, h⟩ := ckS_inv h
  exact vk_getf C.1 C.2.1 ((C.so hi).2.1.narrow C.na) hG.2.2 C.2.2.2.1 (C.2.2.2.2.1 _ hl) (fun _ h9 => h9) hd (kk h)
theorem r_slen (C : Cx p s m args meth c cc n own E) (hG : Gd E s H locs g xs) {i : Nat} (hd : decode cc pc = .ok (.arraylength, 1)) {x : Option ρ} (h : ckS i x = some r) (kk : x = some r → W p l e R s m args below meth c H locs cells slots Q (F0 m (pc + 1) ls (.int (nI (sL i)) :: rest))) : W p l e R s m args below meth c H locs cells slots Q (F0 m pc ls (.ref (E.aV i) :: rest)) := by
  obtain ⟨hi, h⟩ := ckS_inv h
  exact va_tlen C.1 C.2.1 ((C.so hi).2.2.2.narrow C.na) hG.2.2 rfl hd (kk h)
theorem r_sbld (C : Cx p s m args meth c cc n own E) (hG : Gd E s H locs g xs) {i : Nat} {j : Int32} (hd : decode cc pc = .ok (.baload, 1)) {fn : Int32 → Option ρ} (h : sld i j fn = some r) (kk : ∀ x : Int32, fn x = some r → W p l e R s m args below meth c H locs cells slots Q (F0 m (pc + 1) ls (.int x :: rest))) : W p l e R s m args below meth c H locs cells slots Q (F0 m pc ls (.int j :: .ref (E.aV i) :: rest)) := by
  obtain ⟨hi, hin, h⟩ := sld_inv h
  exact va_tb C.1 C.2.1 ((C.so hi).2.2.2.narrow C.na) hG.2.2 hin rfl hd (kk _ h)
theorem r_gCS (C : Cx p s m args meth c cc n own E) (hG : Gd E s H locs g xs) {idx : Nat} (hl : Cond.fieldLink own idx "java/lang/String" "COMPACT_STRINGS" "Z" ∈ TB) (hd : decode cc pc = .ok (.getstatic idx, 3)) (kk : W p l e R s m args below meth c H locs cells slots Q (F0 m (pc + 3) ls (.int 1 :: rest))) : W p l e R s m args below meth c H locs cells slots Q (F0 m pc ls rest) :=
  va_gets C.1 C.2.1 (C.oo.1.narrow C.na) hG.2.2 C.2.2.2.1 (C.2.2.2.2.1 _ hl) (fun _ h9 => h9) hd kk
theorem r_ldcS (C : Cx p s m args meth c cc n own E) {idx : Nat} (i : Nat) (hi : i < NS) (ho : (sG i).1 = own ∧ (sG i).2.1 = idx) (hd : decode cc pc = .ok (.ldc idx, 2)) (kk : W p l e R s m args below meth c H locs cells slots Q (F0 m (pc + 2) ls (.ref (E.aK i) :: rest))) : W p l e R s m args below meth c H locs cells slots Q (F0 m pc ls rest) := by
  obtain ⟨rfl, rfl⟩ := ho
  exact va_ldcS C.1 C.2.1 C.2.2.2.1 (C.oo.2.2.2.2.2.2 i hi).2 hd kk
theorem run_VS (C : Cx p s m args meth c cc n own E) (hls : ls.size = n) (hG : Gd E s H locs g xs) {y : MethodName} {c' : ByteArray} {n' : Nat} {rt : Option FieldType} {k mc ms np i idx : Nat} {As : List Value} {QQ : Nat → Array Value → State → Outcome → State → Prop}
    (hM : MG E l y c' n' rt k mc ms (.ref (E.aK i) :: As) g QQ) (hm : MLV own idx y c' n' rt np) (hi : i < NS) (hy : y.cls = "java/lang/String") (hlen : As.length = np) (hR : (rmD k mc ms).frames + 1 ≤ R.frames ∧ 8 + (n' + 11) + (rmD k mc ms).locals ≤ R.locals) (hrest : (rest.map fun v => v.category).sum ≤ 8) (hf : cells + mc ≤ R.cells ∧ slots + ms ≤ R.slots) (hst : st = As.reverse ++ .ref (E.aK i) :: rest) (hd : decode cc pc = .ok (.invokevirtual idx, 3)) :
    va_Run p l e R s m args below meth c H locs cells slots mc ms (F0 m pc ls st) rest (QQ H.size (Value.ref (E.aK i) :: As).toArray) (AA E H.size) := by
  have hpre := pre_ok C hG (.ref (E.aK i) :: As)
  have hrecv : ∃ cell : Cell, H[E.aK i]? = some cell ∧ cell.vm.isStatics = false ∧ s.vm.findClass y.cls = some cell.cls := by
    obtain ⟨cell, h1, h2, h3, -⟩ := ((C.so hi).1.narrow C.na).kept hG.2.2.2.1
    exact ⟨cell, h1, h2, by rw [hy]; exact h3⟩
  obtain ⟨hx, hb, hml, hown, hts, hK, hN, -⟩ := id C
  obtain ⟨h1, h2, h3, h4, h5, h6⟩ := hm
  rcases h6 with h6 | ⟨host, h6⟩
  · exact va_runV (C := y.cls) (Ts := TB) ⟨hx, hb, hml, hown, hts⟩ (hM H.size) ⟨callB_of np hts (gwz h1) rfl rfl rfl (hts _ h2) (hts _ h6) h5 hR, hts _ h3, hts _ h4⟩ ⟨PC_blind, hrecv, hpre⟩ rfl hlen hls hst (lv_room hrest) hd hf
  · exact va_runVN (C := y.cls) (Ts := TB) (host := host) ⟨hx, hb, hml, hown, hts⟩ (hM H.size) ⟨va_cnB np hts (gwz h1) rfl rfl rfl (hN _ h6) (hts _ h2) h5 hR, hts _ h3, hts _ h4⟩ ⟨PC_blind, hrecv, hpre⟩ rfl hlen hls hst (lv_room hrest) hd hf
theorem r_callVIS (C : Cx p s m args meth c cc n own E) (hls : ls.size = n) (hG : Gd E s H locs g xs) {y : MethodName} {c' : ByteArray} {n' : Nat} {rt : Option FieldType} {k np i idx : Nat} (As : List Value) (rest : List Value) {kz : Option Int32} (hC : ∀ u, kz = some u → MI E l y c' n' rt k 0 0 (.ref (E.aK i) :: As) g (u, g)) (hm : MLV own idx y c' n' rt np) (hy : y.cls = "java/lang/String") (hlen : As.length = np) (hR : (rmD k 0 0).frames + 1 ≤ R.frames ∧ 8 + (n' + 11) + (rmD k 0 0).locals ≤ R.locals) (hrest : (rest.map fun v => v.category).sum ≤ 8) (hf : cells + 0 ≤ R.cells ∧ slots + 0 ≤ R.slots) (hst : st = As.reverse ++ .ref (E.aK i) :: rest) (hd : decode cc pc = .ok (.invokevirtual idx, 3)) {fn : Int32 → Option ρ} (h : ckS i (kz.bind fn) = some r)
    (kk : ∀ (u : Int32) (H1 : Heap) (locs1 : List Loc), Gd E s H1 locs1 g xs → fn u = some r → W p l e R s m args below meth c H1 locs1 cells slots Q (F0 m (pc + 3) ls (.int u :: rest))) : W p l e R s m args below meth c H locs cells slots Q (F0 m pc ls st) := by
  obtain ⟨hi, h⟩ := ckS_inv h
  obtain ⟨u, hu, h⟩ := bind_inv h
  exact af_I hG (run_VS C hls hG (hC u hu) hm hi hy hlen hR hrest hf hst hd) (fun H1 locs1 a => kk u H1 locs1 a h)
theorem r_callSVP (C : Cx p s m args meth c cc n own E) (hls : ls.size = n) (hG : Gd E s H locs g xs) {y : MethodName} {c' : ByteArray} {n' : Nat} {rt : Option FieldType} {k np idx : Nat} (As : List Value) (rest : List Value) {kz : Option Unit} (hC : ∀ u, kz = some u → MV E l y c' n' rt k 0 0 As g g) (hm : MLS own idx y c' n' rt np) (hlen : As.length = np) (hR : (rmD k 0 0).frames + 1 ≤ R.frames ∧ 8 + (n' + 11) + (rmD k 0 0).locals ≤ R.locals) (hrest : (rest.map fun v => v.category).sum ≤ 8) (hf : cells + 0 ≤ R.cells ∧ slots + 0 ≤ R.slots) (hst : st = As.reverse ++ rest) (hd : decode cc pc = .ok (.invokestatic idx, 3)) {fn : Unit → Option ρ} (h : kz.bind fn = some r)
    (kk : ∀ (u : Unit) (H1 : Heap) (locs1 : List Loc), Gd E s H1 locs1 g xs → fn u = some r → W p l e R s m args below meth c H1 locs1 cells slots Q (F0 m (pc + 3) ls rest)) : W p l e R s m args below meth c H locs cells slots Q (F0 m pc ls st) := by
  obtain ⟨u, hu, h⟩ := bind_inv h
  exact af_V hG (run_S C hls hG (hC u hu) hm hlen hR hrest hf hst hd) (fun H1 locs1 a => kk u H1 locs1 a h)
theorem r_cretP (C : Cx p s m args meth c cc n own E) (hG : Gd E s H locs g []) (hr : meth.sig.returnType = some .char) {v u : Int32} (hd : decode cc pc = .ok (.ireturn, 1)) (h : zcP v = some u) : W p l e R s m args below meth c H locs cells slots (MQ below (QI E s.heap.size u g) args s cells slots (AA E s.heap.size)) (F0 m pc ls [.int v]) :=
  r_iretP C hG hr (zcP_inv h).1 hd (zcP_inv h).2
theorem r_aretP (C : Cx p s m args meth c cc n own E) (hG : Gd E s H locs g []) {nm : String} (hr : meth.sig.returnType = some (.object nm)) {v u : Nat} (hd : decode cc pc = .ok (.areturn, 1)) (h : some v = some u) : W p l e R s m args below meth c H locs cells slots (MQ below (QA E s.heap.size (E.aK u) g) args s cells slots (AA E s.heap.size)) (F0 m pc ls [.ref (E.aK v)]) := by
  cases h
  have hl : meth.locks = false := C.2.2.2.2.2.2.2.1
  have hP := hG.1
  rw [List.append_nil] at hP
  exact W.aret C.1 C.2.1 hr (Or.inl ⟨nm, rfl⟩) (Or.inr ⟨_, rfl⟩) (fun t ht hW => ⟨⟨(), E.aK v, rfl, trivial, rfl, by show va_P _ _ _ t.heap; rw [ht]; exact hP⟩, hG.2.2.F ht⟩) hG.2.2.2.2 hd hl
end STRS
