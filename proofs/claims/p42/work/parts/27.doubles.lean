/-! doubles: a quotient that is no NaN -/
def ddv {ρ : Type} (x y : UInt64) (f : UInt64 → Option ρ) : Option ρ := if FP.ddiv x y &&& 0x7fffffffffffffff ≤ 0x7ff0000000000000 then f (FP.ddiv x y) else none
theorem ddv_inv {ρ : Type} {x y : UInt64} {f : UInt64 → Option ρ} {r : ρ} (h : ddv x y f = some r) : vf_n64 (FP.ddiv x y) ∧ f (FP.ddiv x y) = some r := by
  unfold ddv at h
  by_cases hc : FP.ddiv x y &&& 0x7fffffffffffffff ≤ 0x7ff0000000000000
  · rw [if_pos hc] at h; exact ⟨hc, h⟩
  · rw [if_neg hc] at h; cases h
def QD (E : EV) (sz : Nat) (r : UInt64) (g : G) : Array Value → State → Outcome → State → Prop := va_Qd (fun (r' : UInt64) (_ : Unit) => r' = r) (PT E g) (AA E sz)
abbrev MD (E : EV) (l : Launch) (y : MethodName) (c : ByteArray) (n : Nat) (rt : Option FieldType) (k mc ms : Nat) (av : List Value) (g : G) (u : UInt64 × G) : Prop := MG E l y c n rt k mc ms av g (fun sz => QD E sz u.1 u.2)
section DBL
variable {p : Program} {l : Launch} {e : Env} {R : Room} {s : State} {m : MethodId} {args : Array Value} {below : List Frame} {meth : Method} {c : Code} {H : Heap} {locs : List Loc} {cells slots : Nat} {Q : State → Prop} {cc : ByteArray} {n : Nat} {own : String} {E : EV} {pc : Nat} {ls : Array Slot} {rest st : List Value} {g : G} {xs : va_W} {ρ : Type} {r : ρ}
theorem r_ddiv (C : Cx p s m args meth c cc n own E) {x y : UInt64} (hd : decode cc pc = .ok (.ddiv, 1)) {fn : UInt64 → Option ρ} (h : ddv x y fn = some r) (kk : ∀ z : UInt64, fn z = some r → W p l e R s m args below meth c H locs cells slots Q (F0 m (pc + 1) ls (.double z :: rest))) : W p l e R s m args below meth c H locs cells slots Q (F0 m pc ls (.double y :: .double x :: rest)) := by
  obtain ⟨h0, h1⟩ := ddv_inv h
  exact lv_ddiv C.1 C.2.1 hd h0 (kk _ h1)
theorem r_dret (C : Cx p s m args meth c cc n own E) (hG : Gd E s H locs g []) (hr : meth.sig.returnType = some .double) {v : UInt64} {u : UInt64 × G} (hd : decode cc pc = .ok (.dreturn, 1)) (h : some (v, g) = some u) : W p l e R s m args below meth c H locs cells slots (MQ below (QD E s.heap.size u.1 u.2) args s cells slots (AA E s.heap.size)) (F0 m pc ls [.double v]) := by
  cases h
  have hl : meth.locks = false := C.2.2.2.2.2.2.2.1
  have hP := hG.1
  rw [List.append_nil] at hP
  exact W.dret C.1 C.2.1 hr (fun t ht hW => ⟨⟨v, (), rfl, rfl, by show va_P _ _ _ t.heap; rw [ht]; exact hP⟩, hG.2.2.F ht⟩) hG.2.2.2.2 hd hl
theorem af_D (hG : Gd E s H locs g xs) {mc ms : Nat} {a : Array Value} {u : UInt64 × G} {st0 : List Value} (hr : va_Run p l e R s m args below meth c H locs cells slots mc ms (F0 m pc ls st0) rest (QD E H.size u.1 u.2 a) (AA E H.size))
    (kk : ∀ (H1 : Heap) (locs1 : List Loc), Gd E s H1 locs1 u.2 xs → W p l e R s m args below meth c H1 locs1 (cells + mc) (slots + ms) Q (F0 m (pc + 3) ls (.double u.1 :: rest))) : W p l e R s m args below meth c H locs cells slots Q (F0 m pc ls st0) := by
  refine va_calld hr hG.2.2 (fun q _ h => AA_in hG q h) (AA_in hG) (fun r9 u9 t H1 locs1 ht hvm hw hB hz hk hS => ?_)
  have hw : r9 = u.1 := hw
  subst hw
  exact kk H1 locs1 (Gd_after hG (by rw [← ht]; exact hB) hk hS)
end DBL
