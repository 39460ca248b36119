/-! rows for the law's main method -/
def MLH (idx : Nat) (y : MethodName) (c : ByteArray) (n : Nat) (hh : List (Nat × Nat × Nat × Nat)) (np : Nat) : Prop := Cond.codeWith y c n (some .int) hh ∈ TB ∧ Cond.initialized y.cls ∈ TB ∧ Cond.static y ∈ TB ∧ hdOk y np ∧ Cond.methodLink RL idx y ∈ TB
theorem PCo_blind {E : EV} {tL : ClassId} {ao sz : Nat} {av : List Value} {g : G} {f : Nat → Int64} : FrameBlind (PCo E tL ao sz av g f) := by
  intro a U fr mk h
  obtain ⟨h0, h1, h2, h3, h4, h5, h6, h7, h8, h9⟩ := h
  exact ⟨h0, h1, h2, h3, va_K.moved (u := U) (U := U.calling fr mk a) (Vm.Alike.refl U.vm) h4, h5, fun w hw => Nw_same (u := U) rfl hw (h6 w hw), OO.same (u := U) rfl h7, OT.moved (u := U) (U := U.calling fr mk a) (Vm.Alike.refl U.vm) h8, h9⟩
theorem gwzH {y : MethodName} {c : ByteArray} {n : Nat} {hh : List (Nat × Nat × Nat × Nat)} (h : Cond.codeWith y c n (some .int) hh ∈ TB) : GoodIn TB (wzH y c n hh) := fun w hw => by
  rcases List.mem_cons.mp hw with rfl | hw
  · exact gTB _ h
  · exact gTB _ hw
section MAIN
variable {p : Program} {l : Launch} {e : Env} {R : Room} {s : State} {m : MethodId} {args : Array Value} {below : List Frame} {meth : Method} {c : Code} {H : Heap} {locs : List Loc} {cells slots : Nat} {Q : State → Prop} {cc : ByteArray} {n : Nat} {E : EV} {tL : ClassId} {ao pc : Nat} {ls : Array Slot} {rest st : List Value} {g : G} {f : Nat → Int64} {b L : Nat} {sc : Nat → Int32}
theorem oE_D {A : Nat → Prop} {g1 : G} {f1 : Nat → Int64} (h : va_D A (wl E g ++ [oE tL ao f])) : va_D A (wl E g1 ++ [oE tL ao f1]) := by
  have key : ∀ (i : Nat) (q : Nat × va_E), (wl E g1 ++ [oE tL ao f1])[i]? = some q → ∃ q' : Nat × va_E, (wl E g ++ [oE tL ao f])[i]? = some q' ∧ q'.1 = q.1 := by
    intro i q hq
    by_cases hi : i < NC
    · rw [wlx_at hi] at hq
      cases hq
      exact ⟨_, wlx_at hi, rfl⟩
    · rw [wlx_ge hi] at hq
      have h1 := (List.getElem?_eq_some_iff.mp hq).1
      have h0 : i - NC = 0 := by simp at h1; omega
      rw [h0] at hq
      cases hq
      exact ⟨oE tL ao f, by rw [wlx_ge hi, h0]; rfl, rfl⟩
  refine ⟨fun i j a b ha hb he => ?_, fun k q hq => ?_⟩
  · obtain ⟨a', h1, e1⟩ := key i a ha
    obtain ⟨b', h2, e2⟩ := key j b hb
    exact h.1 i j a' b' h1 h2 (by rw [e1, e2, he])
  · obtain ⟨q', h1, e1⟩ := key k q hq
    rw [← e1]
    exact h.2 k q' h1
theorem r_own (C : Cx p s m args meth c cc n RL E) (hls : ls.size = n) (hO : OT E tL ao s) (hao : s.heap.size ≤ ao) (hG : Gd E s H locs g [oE tL ao f]) {y : MethodName} {c' : ByteArray} {n' : Nat} {hh : List (Nat × Nat × Nat × Nat)} {np idx : Nat} (As rest : List Value) {u : WR} (hM : MO E tL ao l y c' n' hh As g f u) (hm : MLH idx y c' n' hh np) (hlen : As.length = np) (hR : (rmD 8 3 18).frames + 1 ≤ R.frames ∧ 8 + (n' + 11) + (rmD 8 3 18).locals ≤ R.locals) (hrest : (rest.map fun v => v.category).sum ≤ 8) (hf : cells + 3 ≤ R.cells ∧ slots + 18 ≤ R.slots) (hst : st = As.reverse ++ rest) (hd : decode cc pc = .ok (.invokestatic idx, 3))
    (kk : ∀ (H1 : Heap) (locs1 : List Loc), Gd E s H1 locs1 u.2.1 [oE tL ao u.2.2] → W p l e R s m args below meth c H1 locs1 (cells + 3) (slots + 18) Q (F0 m (pc + 3) ls (.int u.1 :: rest))) : W p l e R s m args below meth c H locs cells slots Q (F0 m pc ls st) := by
  have hAO : ∀ q, AO E ao H.size q → AA E s.heap.size q := by
    rintro q (h | rfl)
    · exact AA_in hG q h
    · exact Or.inr hao
  have hat : H[ao]? = some (vp_cell tL (1, .inr (.inl f))) := hG.1 NC (oE tL ao f) (by rw [wlx_ge (by omega), Nat.sub_self]; rfl)
  have haoH : ao < H.size := (Array.getElem?_eq_some_iff.mp hat).1
  have hpre : PreS s H (PCo E tL ao H.size As g f) As := ⟨PCo_blind, fun U hU hW => by
    obtain ⟨-, -, -, -, -, hK, hN, -, hz, hA, hOO⟩ := id C
    have hS := hG.2.2
    refine ⟨rfl, by rw [hU], by rw [hU]; exact Nat.le_trans hz hS.1, by rw [hU]; exact hG.1, va_K.moved hW.alike hK, hA, fun w hw => Nw_warm hW hw (hN w hw), ?_, OT.moved hW.alike hO, by rw [hU]; exact haoH⟩
    rw [hU]
    exact OO.step hW hz (fun a ha => hS.2.1 a (Nat.lt_of_lt_of_le ha hz) (fun h => Nat.not_le.mpr ha (AA_ge hA hz h))) hOO⟩
  obtain ⟨hx, hb, hml, hown, hts, hK, hN, -⟩ := id C
  obtain ⟨h1, h2, h3, h5, h6⟩ := hm
  have cw : vx_CSW R s args RL idx y c' n' (some .int) hh (wzH y c' n' hh) (rmD 8 3 18) 3 18 np := by
    refine ⟨⟨rfl, rfl, hR.1, hR.2, pay_in hts (gwzH h1), List.mem_cons_self⟩, hts _ h1, hts _ h2, ⟨h5.1, h5.2.1⟩, fun sig h => ?_, hts _ h6, hts _ h3⟩
    have h9 := h5.2.2
    rw [h] at h9
    exact (Option.some.inj h9).symm
  have hr := vx_runSW (p := p) (meth := meth) (e := e) (R := R) (below := below) (c := c) (locs := locs) (cells := cells) (slots := slots) (Ts := TB) (g := F0 m pc ls st) (rest := rest) ⟨hx, hb, hml, hown, hts⟩ (hM H.size) cw hpre rfl hlen hls hst (lv_room hrest) hd hf
  refine va_calli hr hG.2.2 (fun q _ h => hAO q h) hAO (fun r9 u9 t H1 locs1 ht hvm hw hB hz hk hS => ?_)
  have hw : r9 = u.1 := hw
  subst hw
  exact kk H1 locs1 ⟨by rw [← ht]; exact hB, oE_D hG.2.1, hS⟩
theorem r_lcmpE (C : Cx p s m args meth c cc n RL E) {x : Int64} (hdg : decode cc pc = .ok (.lcmp, 1))
    (k : W p l e R s m args below meth c H locs cells slots Q (F0 m (pc + 1) ls (.int 0 :: rest))) : W p l e R s m args below meth c H locs cells slots Q (F0 m pc ls (.long x :: .long x :: rest)) := by
  have hexec := C.1
  have hb := C.2.1
  have h1 : ¬ x > x := Int64.lt_irrefl
  intro T hT X
  obtain ⟨t, a, b⟩ := k T hT X
  refine ⟨t, ?_, b⟩
  jvm_step X.here [X.here.top, hexec, hb, hdg, h1]
  exact a
theorem r_out (C : Cx p s m args meth c cc n RL E) (hO : OT E tL ao s) (hG : Gd E s H locs g [oE tL ao f]) (hd : decode cc pc = .ok (.laload, 1))
    (kk : W p l e R s m args below meth c H locs cells slots Q (F0 m (pc + 1) ls (.long (f 0) :: rest))) : W p l e R s m args below meth c H locs cells slots Q (F0 m pc ls (.int 0 :: .ref ao :: rest)) := by
  have hat : (wl E g ++ [oE tL ao f])[NC]? = some (ao, .inl (tL, 1, .inr (.inl f))) := by
    rw [wlx_ge (by omega), Nat.sub_self]
    rfl
  exact va_lald C.1 C.2.1 hO.1 hG.1 NC 0 hat rfl (by unfold vp_in; decide) hd kk
/-- the script's int at i + j -/
theorem r_arg (C : Cx p s m args meth c cc n RL E) (hX : va_X b L sc s s.heap) (hbl : b < s.heap.size) (hbA : ¬ AA E s.heap.size b) (hS : va_S (AA E s.heap.size) s.heap H locs) {lv : List (Nat × Value)} (hl : lv_has ls n lv) {i j k4 k0 : Nat} (h0 : lv[k0]? = some (0, .ref b)) (h4 : lv[k4]? = some (4, .int (nI i))) (hj : (Int32.ofInt (j : Int)) = nI j) (hi : i + j < L) (hL : L ≤ 3072)
    (d0 : decode cc pc = .ok (.aload_n 0, 1)) (d1 : decode cc (pc + 1) = .ok (.iload 4, 2)) (d3 : decode cc (pc + 3) = .ok (.iconst (j : Int), 1)) (d4 : decode cc (pc + 4) = .ok (.iadd, 1)) (d5 : decode cc (pc + 5) = .ok (.iaload, 1))
    (kk : W p l e R s m args below meth c H locs cells slots Q (F0 m (pc + 6) ls (.int (sc (i + j)) :: rest))) : W p l e R s m args below meth c H locs cells slots Q (F0 m pc ls rest) := by
  have hx := C.1
  have hb := C.2.1
  refine lv_aload_n hx hb d0 rfl (lv_at hl k0 h0) ?_
  refine lv_iload hx hb d1 (lv_at hl k4 h4) ?_
  refine lv_iconst (v := nI j) hx hb d3 hj ?_
  refine lv_iadd hx hb d4 ?_
  have e : nI i + nI j = nI (i + j) := by rw [nI_add]
  rw [e]
  have hc : (nI (i + j)).toNatClampNeg = i + j := nI_clamp (by omega)
  refine va_sld hx hb hX hbl hbA hS (nI_in hi (by omega)) d5 ?_
  rw [hc]
  exact kk
end MAIN
