/-! the words that every contract may use: all good words of the tables -/
def TB : List Cond := lw_tbl.filter goodWord
def isNest : Cond → Bool
  | .fieldLinkNest _ _ _ _ _ _ => true
  | .methodLinkNest _ _ _ _ => true
  | .castable _ _ => true
  | .declares _ => true
  | .arrayOver _ => true
  | .privateMethod _ => true
  | _ => false
def NB : List Cond := tables_1.filter isNest
theorem mTB {w : Cond} (h : (decide (w ∈ lw_tbl) && goodWord w) = true) : w ∈ TB := by
  simp only [Bool.and_eq_true, decide_eq_true_eq] at h
  exact List.mem_filter.mpr h
theorem mNB {w : Cond} (h : (decide (w ∈ tables_1) && isNest w) = true) : w ∈ NB := by
  simp only [Bool.and_eq_true, decide_eq_true_eq] at h
  exact List.mem_filter.mpr h
theorem goodTB {w : Cond} (h : w ∈ TB) : goodWord w = true := (List.mem_filter.mp h).2
theorem gTB : GoodIn TB TB := fun _ h => ⟨h, good_of_word (goodTB h)⟩
theorem nestNB {w : Cond} (h : w ∈ NB) : isNest w = true := (List.mem_filter.mp h).2
theorem ao_warm {t : FieldType} {s U : State} (hW : s.WarmedH U.vm) (hZ : va_Nw (.arrayOver t) s) : va_Nw (.arrayOver t) U := by
  have hal := hW.alike
  have hv : (Cond.arrayOver t).before #[] U = (Cond.arrayOver t).before #[] s := by
    have e : ∀ q : Class → Bool, (∀ k : Class, q k.bare = q k) → U.vm.classes.findIdx? q = s.vm.classes.findIdx? q := fun q hq => by
      have e9 : ∀ v : Vm, v.bare.classes.findIdx? q = v.classes.findIdx? q := fun v => by
        simp only [Vm.bare, Array.findIdx?_map]
        exact congrArg (fun z => v.classes.findIdx? z) (funext hq)
      rw [← e9 U.vm, ← e9 s.vm, hal.bare_eq]
    simp only [Cond.before, Cond.holds, Cond.value, hal.findClass]
    congr 1
    congr 1
    funext comp
    rw [e _ (fun k => rfl)]
    congr 1
    funext c
    exact hal.class_map _ (fun k r _ _ => rfl) c
  exact hv.trans hZ
theorem ao_same {t : FieldType} {u U : State} (hv : u.vm = U.vm) (hZ : va_Nw (.arrayOver t) u) : va_Nw (.arrayOver t) U := by
  have he : (Cond.arrayOver t).before #[] U = (Cond.arrayOver t).before #[] u := by
    simp only [Cond.before, Cond.holds, Cond.value, hv]
  exact he.trans hZ
theorem pm_warm {x : MethodName} {s U : State} (hW : s.WarmedH U.vm) (hZ : va_Nw (.privateMethod x) s) : va_Nw (.privateMethod x) U := va_tabs rfl (rfl : (s.setVm U.vm).vm = U.vm) (by rw [Cond.privateMethod_setVm hW.alike]; exact hZ)
theorem Nw_warm {w : Cond} {s U : State} (hW : s.WarmedH U.vm) (h : w ∈ NB) (hZ : va_Nw w s) : va_Nw w U := by
  have hn := nestNB h
  cases w <;> first | exact va_Nw.warmF hW hZ | exact va_Nw.warmM hW hZ | exact va_Nw.warmC hW hZ | exact va_Nw.warmD hW hZ | exact ao_warm hW hZ | exact pm_warm hW hZ | cases hn
theorem Nw_same {w : Cond} {u U : State} (hv : u.vm = U.vm) (h : w ∈ NB) (hZ : va_Nw w u) : va_Nw w U := by
  have hn := nestNB h
  cases w <;> first | exact ao_same hv hZ | exact va_Nw.same rfl hv hZ | cases hn
def wz (y : MethodName) (c : ByteArray) (n : Nat) (r : Option FieldType) : List Cond := Cond.code y c n r :: TB
theorem gwz {y : MethodName} {c : ByteArray} {n : Nat} {r : Option FieldType} (h : Cond.code y c n r ∈ TB) : GoodIn TB (wz y c n r) := fun w hw => by
  rcases List.mem_cons.mp hw with rfl | hw
  · exact gTB _ h
  · exact gTB _ hw
/-! the layout: 47 cells; kd: what lies where (below 13: an object of that class; 100000 + n: an int array of n; 200000 + n: a byte array of n) -/
abbrev NC : Nat := 47
def kdL : List Nat := [8, 5, 202000, 6, 100401, 100401, 100401, 100401, 2, 100010, 100010, 100400, 100400, 0, 1, 100010, 2, 100010, 100010, 100400, 100400, 7, 4, 100010, 100010, 100010, 100010, 100010, 100010, 100010, 3, 100012, 100012, 100400, 7, 4, 100010, 100010, 100010, 100010, 100010, 100010, 100010, 3, 100012, 100012, 100400]
def kd (i : Nat) : Nat := kdL.getD i 999999
/-- slots: 0 a number; 1000 + d the cell d places on; 2000 + j the cell j -/
def skL : List (List Nat) := [[2003, 2008, 0], [2001, 2003, 2008, 2015, 0], [1001, 1002, 1003, 1004, 0, 0, 0, 0, 0], [1001, 1002, 0, 0, 0], [1001, 1002, 1003, 1004, 1005, 1006, 1007, 0, 0, 0, 0, 0, 0, 0], [2002, 0], [2001, 2004, 2005, 2006, 2007, 0], [2016, 1001, 1009, 1012, 0, 0], [2001, 2003, 2013, 2014, 2008, 2016, 2021, 2034, 0]]
def sk (ci k : Nat) : Nat := (skL.getD ci []).getD k 0
def nsl (ci : Nat) : Nat := (skL.getD ci []).length
abbrev G : Type := Nat → Nat → Int32
def up (g : G) (o k : Nat) (v : Int32) : G := fun o' k' => if o' = o ∧ k' = k then v else g o' k'
/-- what stays through a run: classes, the two array classes, where the law's heap ended, addresses of cells, of Strings, of their bytes, of static rows, classes of other rows, the script: its cell, its length, its numbers -/
abbrev EV : Type := va_G × ClassId × ClassId × Nat × (Nat → Nat) × (Nat → Nat) × (Nat → Nat) × (Nat → Nat) × (Nat → ClassId) × Nat × Nat × (Nat → Int32)
abbrev EV.D (E : EV) : va_G := E.1
abbrev EV.tI (E : EV) : ClassId := E.2.1
abbrev EV.tB (E : EV) : ClassId := E.2.2.1
abbrev EV.sz (E : EV) : Nat := E.2.2.2.1
abbrev EV.ad (E : EV) : Nat → Nat := E.2.2.2.2.1
abbrev EV.aK (E : EV) : Nat → Nat := E.2.2.2.2.2.1
abbrev EV.aV (E : EV) : Nat → Nat := E.2.2.2.2.2.2.1
abbrev EV.tW (E : EV) : Nat → Nat := E.2.2.2.2.2.2.2.1
abbrev EV.tX (E : EV) : Nat → ClassId := E.2.2.2.2.2.2.2.2.1
abbrev EV.sb (E : EV) : Nat := E.2.2.2.2.2.2.2.2.2.1
abbrev EV.sL (E : EV) : Nat := E.2.2.2.2.2.2.2.2.2.2.1
abbrev EV.sx (E : EV) : Nat → Int32 := E.2.2.2.2.2.2.2.2.2.2.2
abbrev EV.tys (E : EV) : List (ClassId × FieldType) := [(E.tI, .int), (E.tB, .byte), (E.tX 0, .boolean), (E.tX 1, .array .int), (E.tX 2, .object "PeriscopeTrainLaw$Order")]
def fval (E : EV) (g : G) (o c k : Nat) : Value := if c = 0 then .int (g o k) else if c < 2000 then .ref (E.ad (o + (c - 1000))) else .ref (E.ad (c - 2000))
def fsl (E : EV) (g : G) (o ci : Nat) : List Value := (List.range (nsl ci)).map (fun k => fval E g o (sk ci k) k)
def cel (E : EV) (g : G) (o : Nat) : va_E := if kd o < 13 then .inr (kd o + 2, fsl E g o (kd o)) else if kd o < 200000 then .inl (E.tI, kd o - 100000, .inl (g o)) else .inl (E.tB, kd o - 200000, .inl (g o))
def wl (E : EV) (g : G) : va_W := (List.range NC).map (fun o => (E.ad o, cel E g o))
theorem kd_lt {o n : Nat} (h : kd o = n) (hn : n < 999999) : o < NC := by
  rcases Nat.lt_or_ge o NC with q | q
  · exact q
  · exfalso
    have hl : kdL.length ≤ o := Nat.le_trans (by decide) q
    have : kd o = 999999 := by
      unfold kd
      rw [List.getD_eq_getElem?_getD, List.getElem?_eq_none hl]
      rfl
    omega
theorem wl_len {E : EV} {g : G} : (wl E g).length = NC := by simp [wl]
theorem wl_at {E : EV} {g : G} {o : Nat} (ho : o < NC) : (wl E g)[o]? = some (E.ad o, cel E g o) := by
  unfold wl
  rw [List.getElem?_map, List.getElem?_range ho]
  rfl
theorem wlx_at {E : EV} {g : G} {xs : va_W} {o : Nat} (ho : o < NC) : (wl E g ++ xs)[o]? = some (E.ad o, cel E g o) := by
  rw [List.getElem?_append_left (by rw [wl_len]; exact ho), wl_at ho]
theorem wlx_ge {E : EV} {g : G} {xs : va_W} {o : Nat} (ho : ¬ o < NC) : (wl E g ++ xs)[o]? = xs[o - NC]? := by
  rw [List.getElem?_append_right (by rw [wl_len]; omega), wl_len]
theorem cel_o {E : EV} {g : G} {o ci : Nat} (h : kd o = ci) (hc : ci < 13) : cel E g o = .inr (ci + 2, fsl E g o ci) := by
  unfold cel
  rw [h, if_pos hc]
theorem cel_i {E : EV} {g : G} {o n : Nat} (h : kd o = 100000 + n) (hn : n < 100000) : cel E g o = .inl (E.tI, n, .inl (g o)) := by
  unfold cel
  rw [h, if_neg (by omega), if_pos (by omega), Nat.add_sub_cancel_left]
theorem cel_b {E : EV} {g : G} {o n : Nat} (h : kd o = 200000 + n) (hn : n < 100000) : cel E g o = .inl (E.tB, n, .inl (g o)) := by
  unfold cel
  rw [h, if_neg (by omega), if_neg (by omega), Nat.add_sub_cancel_left]
theorem fs_at {E : EV} {g : G} {o ci k : Nat} (hk : k < nsl ci) : (fsl E g o ci)[k]? = some (fval E g o (sk ci k) k) := by
  unfold fsl
  rw [List.getElem?_map, List.getElem?_range hk]
  rfl
theorem fs_len {E : EV} {g : G} {o ci : Nat} : (fsl E g o ci).length = nsl ci := by simp [fsl]
theorem up_ne {g : G} {o k : Nat} {v : Int32} {i : Nat} (h : i ≠ o) : up g o k v i = g i := funext fun _ => if_neg (fun q => h q.1)
theorem up_eq {g : G} {o k : Nat} {v : Int32} : up g o k v o = upd (g o) k v := funext fun j => by simp [up, upd]
theorem cel_same {E : EV} {g : G} {o k : Nat} {v : Int32} {i : Nat} (h : i ≠ o) : cel E (up g o k v) i = cel E g i := by
  unfold cel fsl fval
  rw [up_ne h]
theorem wl_set {E : EV} {g : G} {xs : va_W} {o k : Nat} {v : Int32} {y : va_E} (hy : cel E (up g o k v) o = y) (ho : o < NC) : (wl E g ++ xs).set o (E.ad o, y) = wl E (up g o k v) ++ xs := by
  apply List.ext_getElem?
  intro i
  rw [List.getElem?_set]
  by_cases hi : o = i
  · subst hi
    rw [if_pos rfl, if_pos (by rw [List.length_append, wl_len]; omega), wlx_at ho, hy]
  · rw [if_neg hi]
    by_cases hN : i < NC
    · rw [wlx_at hN, wlx_at hN, cel_same (Ne.symm hi)]
    · rw [wlx_ge hN, wlx_ge hN]
theorem fs_set {E : EV} {g : G} {o ci k : Nat} {v : Int32} (hs : sk ci k = 0) : (fsl E g o ci).set k (.int v) = fsl E (up g o k v) o ci := by
  apply List.ext_getElem?
  intro i
  rw [List.getElem?_set]
  by_cases hi : k = i
  · subst hi
    rw [if_pos rfl]
    by_cases hN : k < nsl ci
    · rw [if_pos (by rw [fs_len]; exact hN), fs_at hN, hs]
      simp [fval, up]
    · rw [if_neg (by rw [fs_len]; exact hN), List.getElem?_eq_none (by rw [fs_len]; omega)]
  · rw [if_neg hi]
    by_cases hN : i < nsl ci
    · rw [fs_at hN, fs_at hN]
      have e : up g o k v o i = g o i := if_neg (fun q => hi q.2.symm)
      unfold fval
      rw [e]
    · rw [List.getElem?_eq_none (by rw [fs_len]; omega), List.getElem?_eq_none (by rw [fs_len]; omega)]
/-! the classes -/
def KC (ci : Nat) (C : String) (T : u_T) (N : Nat) (ty : Nat → FieldType) : Prop := vwCl[ci + 2]? = some (C, T, N) ∧ (∀ w ∈ u_ws C T N, w ∈ TB) ∧ (∀ k, k < N → parseFieldDescriptor (T k).2.2.1 = some (ty k)) ∧ (∀ a, a < N → ∀ b, b < N → a ≠ b → (T a).2.1 ≠ (T b).2.1) ∧ nsl ci = N
theorem KC0 : KC 0 RX0 TX0 3 tyX0 := ⟨rfl, by decide +kernel, tyX0_ok, nmX0, by decide⟩
theorem KC1 : KC 1 RX1 TX1 5 tyX1 := ⟨rfl, by decide +kernel, tyX1_ok, nmX1, by decide⟩
theorem KC2 : KC 2 RX2 TX2 9 tyX2 := ⟨rfl, by decide +kernel, tyX2_ok, nmX2, by decide⟩
theorem KC3 : KC 3 RX3 TX3 5 tyX3 := ⟨rfl, by decide +kernel, tyX3_ok, nmX3, by decide⟩
theorem KC4 : KC 4 RX4 TX4 14 tyX4 := ⟨rfl, by decide +kernel, tyX4_ok, nmX4, by decide⟩
theorem KC5 : KC 5 RX5 TX5 2 tyX5 := ⟨rfl, by decide +kernel, tyX5_ok, nmX5, by decide⟩
theorem KC6 : KC 6 RX6 TX6 6 tyX6 := ⟨rfl, by decide +kernel, tyX6_ok, nmX6, by decide⟩
theorem KC7 : KC 7 RX7 TX7 6 tyX7 := ⟨rfl, by decide +kernel, tyX7_ok, nmX7, by decide⟩
theorem KC8 : KC 8 RX8 TX8 9 tyX8 := ⟨rfl, by decide +kernel, tyX8_ok, nmX8, by decide⟩
theorem KC_lt {ci : Nat} {C : String} {T : u_T} {N : Nat} {ty : Nat → FieldType} (h : KC ci C T N ty) : ci < 13 := by
  have h9 : ci + 2 < 15 := (List.getElem?_eq_some_iff.mp h.1).1
  omega
def FL (own : String) (index ci k : Nat) (fin : Bool) (ty : FieldType) : Prop := ∃ (C : String) (T : u_T) (N : Nat) (tt : Nat → FieldType), KC ci C T N tt ∧ k < N ∧ (T k).2.2.2 = fin ∧ tt k = ty ∧ (Cond.fieldLink own index (T k).1 (T k).2.1 (T k).2.2.1 ∈ TB ∨ ∃ host, Cond.fieldLinkNest own index (T k).1 (T k).2.1 (T k).2.2.1 host ∈ NB)
/-! outer facts (Strings, statics) -/
def OO (E : EV) (U : State) (H : Heap) : Prop := OOx E.sz E.aK E.aV E.tW U H ∧ va_X E.sb E.sL E.sx U H ∧ E.sb < E.sz
theorem OO.same {E : EV} {u U : State} {H : Heap} (hv : U.vm = u.vm) (h : OO E u H) : OO E U H := ⟨OOx.same hv h.1, h.2.1.moved (by rw [hv]; exact Vm.Alike.refl _), h.2.2⟩
theorem OO.step {E : EV} {u U : State} {H H1 : Heap} (hW : u.WarmedH U.vm) (hz : E.sz ≤ H.size) (hq : ∀ a : Nat, a < E.sz → H1[a]? = H[a]?) (h : OO E u H) : OO E U H1 := ⟨OOx.step hW (fun a _ ha => hq a (Nat.not_le.mp ha)) h.1, (h.2.1.moved hW.alike).kept (hq _ h.2.2), h.2.2⟩
/-! contracts -/
def AA (E : EV) (sz : Nat) : Nat → Prop := fun q => (∃ i, i < NC ∧ q = E.ad i) ∨ sz ≤ q
def AD (E : EV) : Prop := (∀ i j, i < NC → j < NC → E.ad i = E.ad j → i = j) ∧ ∀ i, i < NC → E.sz ≤ E.ad i
def NK (U : State) : Prop := ∀ w ∈ NB, va_Nw w U
def WB (E : EV) (g : G) (U : State) : Prop := E.sz ≤ U.heap.size ∧ va_P E.D vwCl (wl E g) U.heap ∧ va_K E.D vwCl E.tys U ∧ AD E ∧ NK U ∧ OO E U U.heap
def PC (E : EV) (sz : Nat) (av : List Value) (g : G) : Array Value → State → Prop := va_Pc av (fun U => U.heap.size = sz ∧ WB E g U)
def PT (E : EV) (g : G) : Unit → State → Prop := fun _ t => va_P E.D vwCl (wl E g) t.heap
def QI (E : EV) (sz : Nat) (r : Int32) (g : G) : Array Value → State → Outcome → State → Prop := va_Qi (fun (r' : Int32) (_ : Unit) => r' = r) (PT E g) (AA E sz)
def QL (E : EV) (sz : Nat) (r : Int64) (g : G) : Array Value → State → Outcome → State → Prop := va_Ql (fun (r' : Int64) (_ : Unit) => r' = r) (PT E g) (AA E sz)
def QV (E : EV) (sz : Nat) (g : G) : Array Value → State → Outcome → State → Prop := va_Qv (fun (_ : Unit) => True) (PT E g) (AA E sz)
def QA (E : EV) (sz : Nat) (r : Nat) (g : G) : Array Value → State → Outcome → State → Prop := va_Qr (fun (_ : Unit) => True) (fun _ a t => a = r ∧ PT E g () t) (AA E sz)
def rmD (k mc ms : Nat) : Room := { frames := k, cells := mc, slots := ms, locals := 60 * k }
def MG (E : EV) (l : Launch) (y : MethodName) (c : ByteArray) (n : Nat) (rt : Option FieldType) (k mc ms : Nat) (av : List Value) (g : G) (QQ : Nat → Array Value → State → Outcome → State → Prop) : Prop := ∀ sz, Met l y (wz y c n rt) (rmD k mc ms) (PC E sz av g) (QQ sz) mc ms (AA E sz)
/-- a method with a number as its answer -/
abbrev MI (E : EV) (l : Launch) (y : MethodName) (c : ByteArray) (n : Nat) (rt : Option FieldType) (k mc ms : Nat) (av : List Value) (g : G) (u : Int32 × G) : Prop := MG E l y c n rt k mc ms av g (fun sz => QI E sz u.1 u.2)
abbrev ML (E : EV) (l : Launch) (y : MethodName) (c : ByteArray) (n : Nat) (rt : Option FieldType) (k mc ms : Nat) (av : List Value) (g : G) (u : Int64 × G) : Prop := MG E l y c n rt k mc ms av g (fun sz => QL E sz u.1 u.2)
abbrev MV (E : EV) (l : Launch) (y : MethodName) (c : ByteArray) (n : Nat) (rt : Option FieldType) (k mc ms : Nat) (av : List Value) (g : G) (u : G) : Prop := MG E l y c n rt k mc ms av g (fun sz => QV E sz u)
abbrev MA (E : EV) (l : Launch) (y : MethodName) (c : ByteArray) (n : Nat) (rt : Option FieldType) (k mc ms : Nat) (av : List Value) (g : G) (u : Nat × G) : Prop := MG E l y c n rt k mc ms av g (fun sz => QA E sz (E.aK u.1) u.2)
/-- what holds in a method's frame -/
def Cx (p : Program) (s : State) (m : MethodId) (args : Array Value) (meth : Method) (c : Code) (cc : ByteArray) (n : Nat) (own : String) (E : EV) : Prop :=
  p.tables.exec = Jvm.exec ∧ c.code = cc ∧ c.maxLocals = n ∧ s.vm.findClass own = some m.cls ∧ (∀ w ∈ TB, w.before args s = true) ∧ va_K E.D vwCl E.tys s ∧ NK s ∧ meth.locks = false ∧ E.sz ≤ s.heap.size ∧ AD E ∧ OO E s s.heap
def Gd (E : EV) (s : State) (H : Heap) (locs : List Loc) (g : G) (xs : va_W) : Prop := va_P E.D vwCl (wl E g ++ xs) H ∧ va_D (AA E s.heap.size) (wl E g ++ xs) ∧ va_S (AA E s.heap.size) s.heap H locs
theorem wl_D {E : EV} {g : G} {A : Nat → Prop} (h : AD E) (hA : ∀ i, i < NC → A (E.ad i)) : va_D A (wl E g) := by
  have key : ∀ (k : Nat) (q : Nat × va_E), (wl E g)[k]? = some q → k < NC ∧ q.1 = E.ad k := by
    intro k q hq
    have hk : k < NC := by
      have := (List.getElem?_eq_some_iff.mp hq).1
      rwa [wl_len] at this
    rw [wl_at hk] at hq
    cases hq
    exact ⟨hk, rfl⟩
  refine ⟨fun i j p q hp hq he => ?_, fun k q hq => ?_⟩
  · obtain ⟨hi, ei⟩ := key i p hp
    obtain ⟨hj, ej⟩ := key j q hq
    exact h.1 i j hi hj (by rw [← ei, ← ej, he])
  · obtain ⟨hk, ek⟩ := key k q hq
    rw [ek]
    exact hA k hk
theorem PC_blind {E : EV} {sz : Nat} {av : List Value} {g : G} : FrameBlind (PC E sz av g) := by
  intro a U f mk h
  obtain ⟨h0, h1, h2, h3, h4, h5, h6, h7⟩ := h
  exact ⟨h0, h1, h2, h3, va_K.moved (u := U) (U := U.calling f mk a) (Vm.Alike.refl U.vm) h4, h5, fun w hw => Nw_same (u := U) rfl hw (h6 w hw), OO.same (u := U) rfl h7⟩
theorem AA_ge {E : EV} {sz q : Nat} (h : AD E) (hz : E.sz ≤ sz) (hq : AA E sz q) : E.sz ≤ q := by
  rcases hq with ⟨i, hi, rfl⟩ | hq
  · exact h.2 i hi
  · omega
/-- a method's proof begins -/
theorem MG.of {E : EV} {l : Launch} {y : MethodName} {cc : ByteArray} {n : Nat} {rt : Option FieldType} {k mc ms : Nat} {av : List Value} {g : G} {QQ : Nat → Array Value → State → Outcome → State → Prop} (hy : plainName y.cls = true) (hn : (lg_sl av).length ≤ n)
    (body : ∀ (p : Program) (e : Env) (s : State) (m : MethodId) (args : Array Value) (below : List Frame) (meth : Method) (c : Code), Cx p s m args meth c cc n y.cls E → meth.sig.returnType = rt → meth.name = y.name → ∀ ls : Array Slot, lv_has ls n (lv_args 0 av) → Gd E s s.heap [] g [] →
      W p l e (rmD k mc ms) s m args below meth c s.heap [] 0 0 (MQ below (QQ s.heap.size) args s mc ms (AA E s.heap.size)) (F0 m 0 ls [])) : MG E l y cc n rt k mc ms av g QQ := by
  intro sz
  refine Met.ofW (cc := cc) (maxL := n) (ret := rt) hy rfl ?_
  intro p e s m args below meth c s₁ B hml hv
  obtain ⟨rfl, rfl, h2, h3, h4, h5, h6, h7⟩ := hv
  have hts := atoms_spec (ws := wz y cc n rt) B.pre
  have hown : s.vm.findClass y.cls = some m.cls := findClass_of_methodNamed B.named
  rw [lg_entry_eq]
  refine body p e s m _ below meth c ⟨B.exec, B.bytes, hml, hown, fun w hw => hts w (List.mem_cons_of_mem _ hw), h4, h6, B.notSynchronized, h2, h5, h7⟩ B.returns (name_of_methodNamed B.named B.method).1 _ (lv_entry av hn) ?_
  refine ⟨by rw [List.append_nil]; exact h3, by rw [List.append_nil]; exact wl_D h5 (fun i hi => Or.inl ⟨i, hi, rfl⟩), va_S.rf⟩
/-! the pure side's words -/
def bd {β ρ : Type} (x : β) (f : β → Option ρ) : Option ρ := f x
def ld {ρ : Type} (g : G) (a n : Nat) (i : Int32) (f : Int32 → Option ρ) : Option ρ := if i < 0 ∨ n ≤ i.toNatClampNeg then none else f (g a i.toNatClampNeg)
def sto {ρ : Type} (g : G) (a n : Nat) (i v : Int32) (f : G → Option ρ) : Option ρ := if i < 0 ∨ n ≤ i.toNatClampNeg then none else f (up g a i.toNatClampNeg v)
def dv {ρ : Type} (x y : Int32) (f : Int32 → Option ρ) : Option ρ := if y = 0 then none else f (x / y)
def cpy (g : G) (a b n : Nat) : G := fun o j => if o = b ∧ j < n then g a j else g o j
theorem ld_inv {ρ : Type} {g : G} {a n : Nat} {i : Int32} {f : Int32 → Option ρ} {r : ρ} (h : ld g a n i f = some r) : vp_in i n ∧ f (g a i.toNatClampNeg) = some r := by
  unfold ld at h
  by_cases hc : i < 0 ∨ n ≤ i.toNatClampNeg
  · rw [if_pos hc] at h; cases h
  · rw [if_neg hc] at h; exact ⟨hc, h⟩
theorem sto_inv {ρ : Type} {g : G} {a n : Nat} {i v : Int32} {f : G → Option ρ} {r : ρ} (h : sto g a n i v f = some r) : vp_in i n ∧ f (up g a i.toNatClampNeg v) = some r := by
  unfold sto at h
  by_cases hc : i < 0 ∨ n ≤ i.toNatClampNeg
  · rw [if_pos hc] at h; cases h
  · rw [if_neg hc] at h; exact ⟨hc, h⟩
theorem dv_inv {ρ : Type} {x y : Int32} {f : Int32 → Option ρ} {r : ρ} (h : dv x y f = some r) : ¬ y = 0 ∧ f (x / y) = some r := by
  unfold dv at h
  by_cases hc : y = 0
  · rw [if_pos hc] at h; cases h
  · rw [if_neg hc] at h; exact ⟨hc, h⟩
theorem bind_inv {α ρ : Type} {x : Option α} {f : α → Option ρ} {r : ρ} (h : x.bind f = some r) : ∃ u, x = some u ∧ f u = some r := by
  cases x with
  | none => cases h
  | some u => exact ⟨u, rfl, h⟩
theorem if_inv {ρ : Type} {c : Prop} [Decidable c] {a b r : Option ρ} (h : (if c then a else b) = r) : (c → a = r) ∧ (¬ c → b = r) := ⟨fun hc => by rwa [if_pos hc] at h, fun hc => by rwa [if_neg hc] at h⟩
section ROWS
variable {p : Program} {l : Launch} {e : Env} {R : Room} {s : State} {m : MethodId} {args : Array Value} {below : List Frame} {meth : Method} {c : Code} {H : Heap} {locs : List Loc} {cells slots : Nat} {Q : State → Prop} {cc : ByteArray} {n : Nat} {own : String} {E : EV} {pc : Nat} {ls : Array Slot} {rest : List Value} {g : G} {xs : va_W} {ρ : Type} {r : ρ}
theorem r_get (C : Cx p s m args meth c cc n own E) (hG : Gd E s H locs g xs) {index ci k o : Nat} {fin : Bool} {ty : FieldType} (f : FL own index ci k fin ty) (hk : kd o = ci) (hd : decode cc pc = .ok (.getfield index, 3))
    (kk : W p l e R s m args below meth c H locs cells slots Q (F0 m (pc + 3) ls (fval E g o (sk ci k) k :: rest))) : W p l e R s m args below meth c H locs cells slots Q (F0 m pc ls (.ref (E.ad o) :: rest)) := by
  obtain ⟨hx, hb, -, hown, hts, hK, hN, -⟩ := C
  obtain ⟨cn, T, N, tt, hKC, hk', -, -, hl⟩ := f
  have hci := KC_lt hKC
  obtain ⟨hc, hin, -, -, hn⟩ := hKC
  have ho : o < NC := kd_lt hk (by omega)
  have he : (wl E g ++ xs)[o]? = some (E.ad o, .inr (ci + 2, fsl E g o ci)) := by rw [wlx_at ho, cel_o hk hci]
  have hv : (fsl E g o ci)[k]? = some (fval E g o (sk ci k) k) := fs_at (by omega)
  rcases hl with hl | ⟨host, hl⟩
  · exact va_get (D := E.D) (ci := ci + 2) (C := cn) (T := T) (N := N) hx hb hts hin hown hK hG.1 o he hc k hk' (hts _ hl) (fun _ h9 => h9) hv hd kk
  · exact va_getN (D := E.D) (ci := ci + 2) (C := cn) (T := T) (N := N) hx hb hts hin hown hK hG.1 o he hc k hk' (va_Nw.use rfl (hN _ hl)) (fun _ h9 => h9) hv hd kk
theorem r_getI (C : Cx p s m args meth c cc n own E) (hG : Gd E s H locs g xs) {index ci k o : Nat} {fin : Bool} {ty : FieldType} (f : FL own index ci k fin ty) (hk : kd o = ci) (hs : sk ci k = 0) (hd : decode cc pc = .ok (.getfield index, 3))
    (kk : W p l e R s m args below meth c H locs cells slots Q (F0 m (pc + 3) ls (.int (g o k) :: rest))) : W p l e R s m args below meth c H locs cells slots Q (F0 m pc ls (.ref (E.ad o) :: rest)) :=
  r_get C hG f hk hd (by rw [hs]; exact kk)
theorem r_getR (C : Cx p s m args meth c cc n own E) (hG : Gd E s H locs g xs) {index ci k o d : Nat} {fin : Bool} {ty : FieldType} (f : FL own index ci k fin ty) (hk : kd o = ci) (hs : sk ci k = 1000 + d) (hd9 : d < 1000) (hd : decode cc pc = .ok (.getfield index, 3))
    (kk : W p l e R s m args below meth c H locs cells slots Q (F0 m (pc + 3) ls (.ref (E.ad (o + d)) :: rest))) : W p l e R s m args below meth c H locs cells slots Q (F0 m pc ls (.ref (E.ad o) :: rest)) :=
  r_get C hG f hk hd (by rw [hs, show fval E g o (1000 + d) k = .ref (E.ad (o + d)) by unfold fval; rw [if_neg (by omega), if_pos (by omega), Nat.add_sub_cancel_left]]; exact kk)
theorem r_getA (C : Cx p s m args meth c cc n own E) (hG : Gd E s H locs g xs) {index ci k o j : Nat} {fin : Bool} {ty : FieldType} (f : FL own index ci k fin ty) (hk : kd o = ci) (hs : sk ci k = 2000 + j) (hd : decode cc pc = .ok (.getfield index, 3))
    (kk : W p l e R s m args below meth c H locs cells slots Q (F0 m (pc + 3) ls (.ref (E.ad j) :: rest))) : W p l e R s m args below meth c H locs cells slots Q (F0 m pc ls (.ref (E.ad o) :: rest)) :=
  r_get C hG f hk hd (by rw [hs, show fval E g o (2000 + j) k = .ref (E.ad j) by unfold fval; rw [if_neg (by omega), if_neg (by omega), Nat.add_sub_cancel_left]]; exact kk)
theorem r_put (C : Cx p s m args meth c cc n own E) (hG : Gd E s H locs g xs) {index ci k o : Nat} {ty : FieldType} {v : Int32} (f : FL own index ci k false ty) (hk : kd o = ci) (hs : sk ci k = 0) (hn : narrow ty (.int v) = .int v) (hfit : fits ty (.int v) = true) (hd : decode cc pc = .ok (.putfield index, 3))
    (kk : ∀ (H1 : Heap) (locs1 : List Loc), Gd E s H1 locs1 (up g o k v) xs → W p l e R s m args below meth c H1 locs1 cells slots Q (F0 m (pc + 3) ls rest)) : W p l e R s m args below meth c H locs cells slots Q (F0 m pc ls (.int v :: .ref (E.ad o) :: rest)) := by
  obtain ⟨hx, hb, -, hown, hts, hK, hN, -⟩ := C
  obtain ⟨cn, T, N, tt, hKC, hk', hfin, htt, hl⟩ := f
  have hci := KC_lt hKC
  obtain ⟨hc, hin, hty, hnm, hn2⟩ := hKC
  have ho : o < NC := kd_lt hk (by omega)
  have he : (wl E g ++ xs)[o]? = some (E.ad o, .inr (ci + 2, fsl E g o ci)) := by rw [wlx_at ho, cel_o hk hci]
  have hp9 : parseFieldDescriptor (T k).2.2.1 = some ty := by rw [hty k hk', htt]
  have hset : (wl E g ++ xs).set o (E.ad o, .inr (ci + 2, (fsl E g o ci).set k (.int v))) = wl E (up g o k v) ++ xs := wl_set (by rw [cel_o hk hci, fs_set hs]) ho
  have kk' : ∀ (H1 : Heap) (locs1 : List Loc), va_P E.D vwCl ((wl E g ++ xs).set o (E.ad o, .inr (ci + 2, (fsl E g o ci).set k (.int v)))) H1 → va_D (AA E s.heap.size) ((wl E g ++ xs).set o (E.ad o, .inr (ci + 2, (fsl E g o ci).set k (.int v)))) → va_S (AA E s.heap.size) s.heap H1 locs1 → W p l e R s m args below meth c H1 locs1 cells slots Q (F0 m (pc + 3) ls rest) := by
    intro H1 locs1 a1 a2 a3
    rw [hset] at a1 a2
    exact kk H1 locs1 ⟨a1, a2, a3⟩
  rcases hl with hl | ⟨host, hl⟩
  · exact va_put (D := E.D) (ci := ci + 2) (C := cn) (T := T) (N := N) hx hb hts hin tt hty hnm hown hK hG.1 hG.2.1 hG.2.2 o he hc k hk' (hts _ hl) (fun _ h9 => h9) hfin hp9 hn hfit (by rw [fs_len]; omega) hd kk'
  · exact va_putN (D := E.D) (ci := ci + 2) (C := cn) (T := T) (N := N) hx hb hts hin tt hty hnm hown hK hG.1 hG.2.1 hG.2.2 o he hc k hk' (va_Nw.use rfl (hN _ hl)) (fun _ h9 => h9) hfin hp9 hn hfit (by rw [fs_len]; omega) hd kk'
theorem r_putI (C : Cx p s m args meth c cc n own E) (hG : Gd E s H locs g xs) {index ci k o : Nat} {v : Int32} (f : FL own index ci k false .int) (hk : kd o = ci) (hs : sk ci k = 0) (hd : decode cc pc = .ok (.putfield index, 3)) {fn : G → Option ρ} (h : bd (up g o k v) fn = some r)
    (kk : ∀ (H1 : Heap) (locs1 : List Loc) (g1 : G), Gd E s H1 locs1 g1 xs → fn g1 = some r → W p l e R s m args below meth c H1 locs1 cells slots Q (F0 m (pc + 3) ls rest)) : W p l e R s m args below meth c H locs cells slots Q (F0 m pc ls (.int v :: .ref (E.ad o) :: rest)) :=
  r_put C hG f hk hs rfl rfl hd (fun H1 locs1 a => kk H1 locs1 _ a h)
theorem r_putZ (C : Cx p s m args meth c cc n own E) (hG : Gd E s H locs g xs) {index ci k o : Nat} {v : Int32} (f : FL own index ci k false .boolean) (hk : kd o = ci) (hs : sk ci k = 0) (hv : v = 0 ∨ v = 1) (hd : decode cc pc = .ok (.putfield index, 3)) {fn : G → Option ρ} (h : bd (up g o k v) fn = some r)
    (kk : ∀ (H1 : Heap) (locs1 : List Loc) (g1 : G), Gd E s H1 locs1 g1 xs → fn g1 = some r → W p l e R s m args below meth c H1 locs1 cells slots Q (F0 m (pc + 3) ls rest)) : W p l e R s m args below meth c H locs cells slots Q (F0 m pc ls (.int v :: .ref (E.ad o) :: rest)) :=
  r_put C hG f hk hs (by rcases hv with rfl | rfl <;> rfl) (by rcases hv with rfl | rfl <;> rfl) hd (fun H1 locs1 a => kk H1 locs1 _ a h)
theorem r_ild (C : Cx p s m args meth c cc n own E) (hG : Gd E s H locs g xs) {a N : Nat} {i : Int32} (hk : kd a = 100000 + N) (hN : N < 100000) (hd : decode cc pc = .ok (.iaload, 1)) {fn : Int32 → Option ρ} (h : ld g a N i fn = some r)
    (kk : ∀ x : Int32, fn x = some r → W p l e R s m args below meth c H locs cells slots Q (F0 m (pc + 1) ls (.int x :: rest))) : W p l e R s m args below meth c H locs cells slots Q (F0 m pc ls (.int i :: .ref (E.ad a) :: rest)) := by
  obtain ⟨hx, hb, -, hown, hts, hK, -⟩ := C
  obtain ⟨hin, h⟩ := ld_inv h
  have he : (wl E g ++ xs)[a]? = some (E.ad a, .inl (E.tI, N, .inl (g a))) := by rw [wlx_at (kd_lt hk (by omega)), cel_i hk hN]
  exact va_iald hx hb hK hG.1 a 0 he rfl hin hd (kk _ h)
theorem r_bld (C : Cx p s m args meth c cc n own E) (hG : Gd E s H locs g xs) {a N : Nat} {i : Int32} (hk : kd a = 200000 + N) (hN : N < 100000) (hd : decode cc pc = .ok (.baload, 1)) {fn : Int32 → Option ρ} (h : ld g a N i fn = some r)
    (kk : ∀ x : Int32, fn x = some r → W p l e R s m args below meth c H locs cells slots Q (F0 m (pc + 1) ls (.int x :: rest))) : W p l e R s m args below meth c H locs cells slots Q (F0 m pc ls (.int i :: .ref (E.ad a) :: rest)) := by
  obtain ⟨hx, hb, -, hown, hts, hK, -⟩ := C
  obtain ⟨hin, h⟩ := ld_inv h
  have he : (wl E g ++ xs)[a]? = some (E.ad a, .inl (E.tB, N, .inl (g a))) := by rw [wlx_at (kd_lt hk (by omega)), cel_b hk hN]
  exact va_bald hx hb hK hG.1 a 1 he rfl hin hd (kk _ h)
theorem r_ist (C : Cx p s m args meth c cc n own E) (hG : Gd E s H locs g xs) {a N : Nat} {i v : Int32} (hk : kd a = 100000 + N) (hN : N < 100000) (hd : decode cc pc = .ok (.iastore, 1)) {fn : G → Option ρ} (h : sto g a N i v fn = some r)
    (kk : ∀ (H1 : Heap) (locs1 : List Loc) (g1 : G), Gd E s H1 locs1 g1 xs → fn g1 = some r → W p l e R s m args below meth c H1 locs1 cells slots Q (F0 m (pc + 1) ls rest)) : W p l e R s m args below meth c H locs cells slots Q (F0 m pc ls (.int v :: .int i :: .ref (E.ad a) :: rest)) := by
  obtain ⟨hx, hb, -, hown, hts, hK, -⟩ := C
  obtain ⟨hin, h⟩ := sto_inv h
  have ho : a < NC := kd_lt hk (by omega)
  have he : (wl E g ++ xs)[a]? = some (E.ad a, .inl (E.tI, N, .inl (g a))) := by rw [wlx_at ho, cel_i hk hN]
  have hset : (wl E g ++ xs).set a (E.ad a, .inl (E.tI, N, .inl (upd (g a) i.toNatClampNeg v))) = wl E (up g a i.toNatClampNeg v) ++ xs := wl_set (by rw [cel_i hk hN, up_eq]) ho
  refine va_iast hx hb hK hG.1 hG.2.1 hG.2.2 a 0 he rfl hin hd (fun H1 locs1 a1 a2 a3 => ?_)
  rw [hset] at a1 a2
  exact kk H1 locs1 _ ⟨a1, a2, a3⟩ h
theorem r_bst (C : Cx p s m args meth c cc n own E) (hG : Gd E s H locs g xs) {a N : Nat} {i v : Int32} (hk : kd a = 200000 + N) (hN : N < 100000) (hd : decode cc pc = .ok (.bastore, 1)) {fn : G → Option ρ} (h : sto g a N i v.toInt8.toInt32 fn = some r)
    (kk : ∀ (H1 : Heap) (locs1 : List Loc) (g1 : G), Gd E s H1 locs1 g1 xs → fn g1 = some r → W p l e R s m args below meth c H1 locs1 cells slots Q (F0 m (pc + 1) ls rest)) : W p l e R s m args below meth c H locs cells slots Q (F0 m pc ls (.int v :: .int i :: .ref (E.ad a) :: rest)) := by
  obtain ⟨hx, hb, -, hown, hts, hK, -⟩ := C
  obtain ⟨hin, h⟩ := sto_inv h
  have ho : a < NC := kd_lt hk (by omega)
  have he : (wl E g ++ xs)[a]? = some (E.ad a, .inl (E.tB, N, .inl (g a))) := by rw [wlx_at ho, cel_b hk hN]
  have hset : (wl E g ++ xs).set a (E.ad a, .inl (E.tB, N, .inl (upd (g a) i.toNatClampNeg (vp_nar .byte v)))) = wl E (up g a i.toNatClampNeg v.toInt8.toInt32) ++ xs := wl_set (by rw [cel_b hk hN, up_eq, vp_nar_byte]) ho
  refine va_bast hx hb hK hG.1 hG.2.1 hG.2.2 a 1 he rfl hin hd (fun H1 locs1 a1 a2 a3 => ?_)
  rw [hset] at a1 a2
  exact kk H1 locs1 _ ⟨a1, a2, a3⟩ h
theorem r_alen (C : Cx p s m args meth c cc n own E) (hG : Gd E s H locs g xs) {a N : Nat} {v : Int32} (hk : kd a = 100000 + N) (hN : N < 100000) (hv : Int32.ofNat N = v) (hd : decode cc pc = .ok (.arraylength, 1))
    (kk : W p l e R s m args below meth c H locs cells slots Q (F0 m (pc + 1) ls (.int v :: rest))) : W p l e R s m args below meth c H locs cells slots Q (F0 m pc ls (.ref (E.ad a) :: rest)) := by
  obtain ⟨hx, hb, -, hown, hts, hK, -⟩ := C
  have he : (wl E g ++ xs)[a]? = some (E.ad a, .inl (E.tI, N, .inl (g a))) := by rw [wlx_at (kd_lt hk (by omega)), cel_i hk hN]
  exact va_alen hx hb hK hG.1 a 0 he rfl hv hd kk
theorem r_nm {v : Int32} {fn : Int32 → Option ρ} (h : bd v fn = some r) (kk : ∀ x : Int32, fn x = some r → W p l e R s m args below meth c H locs cells slots Q (F0 m pc ls (.int x :: rest))) : W p l e R s m args below meth c H locs cells slots Q (F0 m pc ls (.int v :: rest)) := kk v h
theorem r_nmL {v : Int64} {fn : Int64 → Option ρ} (h : bd v fn = some r) (kk : ∀ x : Int64, fn x = some r → W p l e R s m args below meth c H locs cells slots Q (F0 m pc ls (.long x :: rest))) : W p l e R s m args below meth c H locs cells slots Q (F0 m pc ls (.long v :: rest)) := kk v h
theorem r_div (C : Cx p s m args meth c cc n own E) {x y : Int32} (hd : decode cc pc = .ok (.idiv, 1)) {fn : Int32 → Option ρ} (h : dv x y fn = some r) (kk : ∀ z : Int32, fn z = some r → W p l e R s m args below meth c H locs cells slots Q (F0 m (pc + 1) ls (.int z :: rest))) : W p l e R s m args below meth c H locs cells slots Q (F0 m pc ls (.int y :: .int x :: rest)) := by
  obtain ⟨h0, h1⟩ := dv_inv h
  exact lv_idiv C.1 C.2.1 hd h0 (kk _ h1)
theorem r_iret (C : Cx p s m args meth c cc n own E) (hG : Gd E s H locs g []) {ty : FieldType} (hr : meth.sig.returnType = some ty) {v : Int32} {u : Int32 × G} (hn : narrow ty (.int v) = .int v) (hd : decode cc pc = .ok (.ireturn, 1)) (h : some (v, g) = some u) : W p l e R s m args below meth c H locs cells slots (MQ below (QI E s.heap.size u.1 u.2) args s cells slots (AA E s.heap.size)) (F0 m pc ls [.int v]) := by
  cases h
  have hl : meth.locks = false := C.2.2.2.2.2.2.2.1
  have hP := hG.1
  rw [List.append_nil] at hP
  exact W.zret C.1 C.2.1 hr hn (fun t ht hW => ⟨⟨v, (), rfl, rfl, by show va_P _ _ _ t.heap; rw [ht]; exact hP⟩, hG.2.2.F ht⟩) hG.2.2.2.2 hd hl
theorem r_vret (C : Cx p s m args meth c cc n own E) (hG : Gd E s H locs g []) (hr : meth.sig.returnType = none) {u : G} (hd : decode cc pc = .ok (.return_, 1)) (h : some g = some u) : W p l e R s m args below meth c H locs cells slots (MQ below (QV E s.heap.size u) args s cells slots (AA E s.heap.size)) (F0 m pc ls []) := by
  cases h
  have hl : meth.locks = false := C.2.2.2.2.2.2.2.1
  have hP := hG.1
  rw [List.append_nil] at hP
  exact W.vret C.1 C.2.1 hr (fun t ht hW => ⟨⟨(), rfl, trivial, by show va_P _ _ _ t.heap; rw [ht]; exact hP⟩, hG.2.2.F ht⟩) hG.2.2.2.2 hd hl
theorem r_lret (C : Cx p s m args meth c cc n own E) (hG : Gd E s H locs g []) (hr : meth.sig.returnType = some .long) {v : Int64} {u : Int64 × G} (hd : decode cc pc = .ok (.lreturn, 1)) (h : some (v, g) = some u) : W p l e R s m args below meth c H locs cells slots (MQ below (QL E s.heap.size u.1 u.2) args s cells slots (AA E s.heap.size)) (F0 m pc ls [.long v]) := by
  cases h
  have hl : meth.locks = false := C.2.2.2.2.2.2.2.1
  have hP := hG.1
  rw [List.append_nil] at hP
  exact W.lret C.1 C.2.1 hr (fun t ht hW => ⟨⟨v, (), rfl, rfl, by show va_P _ _ _ t.heap; rw [ht]; exact hP⟩, hG.2.2.F ht⟩) hG.2.2.2.2 hd hl
end ROWS
