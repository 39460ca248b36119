/-! a method's own array of numbers, beside the world -/
def tA (E : EV) (q N : Nat) (t : Nat → Int32) : Nat × va_E := (q, .inl (E.tI, N, .inl t))
def tld {ρ : Type} (t : Nat → Int32) (n : Nat) (i : Int32) (f : Int32 → Option ρ) : Option ρ := if i < 0 ∨ n ≤ i.toNatClampNeg then none else f (t i.toNatClampNeg)
def tsto {ρ : Type} (t : Nat → Int32) (n : Nat) (i v : Int32) (f : (Nat → Int32) → Option ρ) : Option ρ := if i < 0 ∨ n ≤ i.toNatClampNeg then none else f (upd t i.toNatClampNeg v)
theorem tld_inv {ρ : Type} {t : Nat → Int32} {n : Nat} {i : Int32} {f : Int32 → Option ρ} {r : ρ} (h : tld t n i f = some r) : vp_in i n ∧ f (t i.toNatClampNeg) = some r := by
  unfold tld at h
  by_cases hc : i < 0 ∨ n ≤ i.toNatClampNeg
  · rw [if_pos hc] at h; cases h
  · rw [if_neg hc] at h; exact ⟨hc, h⟩
theorem tsto_inv {ρ : Type} {t : Nat → Int32} {n : Nat} {i v : Int32} {f : (Nat → Int32) → Option ρ} {r : ρ} (h : tsto t n i v f = some r) : vp_in i n ∧ f (upd t i.toNatClampNeg v) = some r := by
  unfold tsto at h
  by_cases hc : i < 0 ∨ n ≤ i.toNatClampNeg
  · rw [if_pos hc] at h; cases h
  · rw [if_neg hc] at h; exact ⟨hc, h⟩
section TEMPS
variable {p : Program} {l : Launch} {e : Env} {R : Room} {s : State} {m : MethodId} {args : Array Value} {below : List Frame} {meth : Method} {c : Code} {H : Heap} {locs : List Loc} {cells slots : Nat} {Q : State → Prop} {cc : ByteArray} {n : Nat} {own : String} {E : EV} {pc : Nat} {ls : Array Slot} {rest st : List Value} {g : G} {xs : va_W} {ρ : Type} {r : ρ}
theorem Gd_drop (h : Gd E s H locs g xs) : Gd E s H locs g [] := by
  obtain ⟨h1, h2, h3⟩ := h
  have key : ∀ (k : Nat) (q : Nat × va_E), (wl E g ++ [])[k]? = some q → (wl E g ++ xs)[k]? = some q := by
    intro k q hq
    rw [List.append_nil] at hq
    rw [List.getElem?_append_left (List.getElem?_eq_some_iff.mp hq).1]
    exact hq
  exact ⟨fun k q hq => h1 k q (key k q hq), ⟨fun i j a b ha hb he => h2.1 i j a b (key i a ha) (key j b hb) he, fun k q hq => h2.2 k q (key k q hq)⟩, h3⟩
theorem tyI (C : Cx p s m args meth c cc n own E) {cA : ClassId} {tys : List (ClassId × FieldType)} (hK : va_K E.D vwCl (tys ++ [(cA, .int)]) s) : cA = E.tI := by
  have h1 : s.vm.findClass ("[" ++ (FieldType.int).toString) = some cA := (hK.2 tys.length (cA, .int) (by simp)).2
  have h2 : s.vm.findClass ("[" ++ (FieldType.int).toString) = some E.tI := (C.2.2.2.2.2.1.2 0 (E.tI, .int) rfl).2
  exact Option.some.inj (h1.symm.trans h2)
theorem r_newI (C : Cx p s m args meth c cc n own E) (hG : Gd E s H locs g []) {z : Int32} (N : Nat) (hA9 : Cond.arrayClass .int ∈ TB) (hz : ¬ z < 0 ∧ z.toNatClampNeg = N) (hN : N ≤ 1000) (hcells : cells + 1 ≤ R.cells) (hslots : slots + N ≤ R.slots) (hd : decode cc pc = .ok (.newarray .int, 2))
    (kk : ∀ (q : Nat) (H1 : Heap), Gd E s H1 locs g [tA E q N (fun _ => 0)] → W p l e R s m args below meth c H1 locs (cells + 1) (slots + N) Q (F0 m (pc + 2) ls (.ref q :: rest))) : W p l e R s m args below meth c H locs cells slots Q (F0 m pc ls (.int z :: rest)) := by
  have hP := hG.1
  have hD := hG.2.1
  rw [List.append_nil] at hP hD
  refine va_newa (atype := .int) (ty := .int) (a0 := (N, .inl (fun _ => 0))) C.1 C.2.1 (C.2.2.2.2.1 _ hA9) rfl C.2.2.2.2.2.1 hP hD hG.2.2 (fun q hq => Or.inr hq) (fun cA => rfl) hz.1 hz.2 (by show N * 4 ≤ 536870912; omega) hcells hslots hd (fun q cA H1 a1 a2 a3 a4 => ?_)
  have e := tyI C a1
  subst e
  exact kk q H1 ⟨a2, a3, a4⟩
theorem tA_at {q N : Nat} {t : Nat → Int32} : (wl E g ++ [tA E q N t])[NC]? = some (q, .inl (E.tI, N, .inl t)) := by
  rw [wlx_ge (by omega), Nat.sub_self]
  rfl
theorem r_tst (C : Cx p s m args meth c cc n own E) {q N : Nat} {t : Nat → Int32} (hG : Gd E s H locs g [tA E q N t]) {i v : Int32} (hd : decode cc pc = .ok (.iastore, 1)) {fn : (Nat → Int32) → Option ρ} (h : tsto t N i v fn = some r)
    (kk : ∀ (t1 : Nat → Int32) (H1 : Heap) (locs1 : List Loc), Gd E s H1 locs1 g [tA E q N t1] → fn t1 = some r → W p l e R s m args below meth c H1 locs1 cells slots Q (F0 m (pc + 1) ls rest)) : W p l e R s m args below meth c H locs cells slots Q (F0 m pc ls (.int v :: .int i :: .ref q :: rest)) := by
  obtain ⟨hin, h⟩ := tsto_inv h
  have hset : (wl E g ++ [tA E q N t]).set NC (q, .inl (E.tI, N, .inl (upd t i.toNatClampNeg v))) = wl E g ++ [tA E q N (upd t i.toNatClampNeg v)] := by
    rw [List.set_append, if_neg (by rw [wl_len]; omega), wl_len]
    rfl
  refine va_iast C.1 C.2.1 C.2.2.2.2.2.1 hG.1 hG.2.1 hG.2.2 NC 0 tA_at rfl hin hd (fun H1 locs1 a1 a2 a3 => ?_)
  rw [hset] at a1 a2
  exact kk _ H1 locs1 ⟨a1, a2, a3⟩ h
theorem r_tld (C : Cx p s m args meth c cc n own E) {q N : Nat} {t : Nat → Int32} (hG : Gd E s H locs g [tA E q N t]) {i : Int32} (hd : decode cc pc = .ok (.iaload, 1)) {fn : Int32 → Option ρ} (h : tld t N i fn = some r)
    (kk : ∀ x : Int32, fn x = some r → W p l e R s m args below meth c H locs cells slots Q (F0 m (pc + 1) ls (.int x :: rest))) : W p l e R s m args below meth c H locs cells slots Q (F0 m pc ls (.int i :: .ref q :: rest)) := by
  obtain ⟨hin, h⟩ := tld_inv h
  exact va_iald C.1 C.2.1 C.2.2.2.2.2.1 hG.1 NC 0 tA_at rfl hin hd (kk _ h)
theorem r_tln (C : Cx p s m args meth c cc n own E) {q N : Nat} {t : Nat → Int32} (hG : Gd E s H locs g [tA E q N t]) {v : Int32} (hv : Int32.ofNat N = v) (hd : decode cc pc = .ok (.arraylength, 1))
    (kk : W p l e R s m args below meth c H locs cells slots Q (F0 m (pc + 1) ls (.int v :: rest))) : W p l e R s m args below meth c H locs cells slots Q (F0 m pc ls (.ref q :: rest)) :=
  va_alen C.1 C.2.1 C.2.2.2.2.2.1 hG.1 NC 0 tA_at rfl hv hd kk
end TEMPS
