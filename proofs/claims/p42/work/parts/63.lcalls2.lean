/-! calls, put together; methods that the builder inherits; rows of bytes -/
theorem LSEL : Cond.selects RJ4 yJ5_isLatin1_aae02 yJ5_isLatin1_aae02 ∈ TB := (mTBi 1356 (by decide +kernel) rfl)
section LCALLS2
variable {p : Program} {l : Launch} {e : Env} {kf : Nat} {F : FT} {s : State} {m : MethodId} {args : Array Value} {below : List Frame} {meth : Method} {c : Code} {H : Heap} {locs : List Loc} {cells slots : Nat} {Q : State → Prop} {cc : ByteArray} {n : Nat} {own : String} {E : EV} {ad : Nat → Nat} {N : Nat} {S : ZS} {pc : Nat} {ls : Array Slot} {rest st : List Value} {ρ : Type} {r : ρ} {d a : Nat}
theorem rm2 {k K n : Nat} (h : k < K) (hn : n ≤ 41) : k + 1 ≤ K ∧ 8 + (n + 11) + 60 * k ≤ 60 * K := ⟨h, by omega⟩
theorem RAq {x b : Nat} (hG : GL E s F H locs ad N S cells slots) (h : RA E ad N x b) : x ≠ 0 ∧ rk S.n x := ⟨h.2.1, by rw [hG.2.2.2.1]; exact h.2.2⟩
/-- private methods of the builder's superclass, called on a builder -/
theorem sel_priv {y : MethodName} (hy : y.cls = RJ5) (hts : ∀ w ∈ TB, w.before args s = true) (h1 : va_Nw (.privateMethod y) s) (h2 : Cond.instanceMethod y ∈ TB) : (Cond.selects RJ4 y y).before args s = true := by
  have hmh : y.cls ≠ "java/lang/invoke/MethodHandle" ∧ y.cls ≠ "java/lang/invoke/VarHandle" := by rw [hy]; decide
  obtain ⟨cS, r0, m0, hcS, -, q3, -, kP, hkP, hkPi⟩ := Cond.selects_spec (hts _ LSEL)
  obtain ⟨mk, methM, hnamed, hmethM, -, -⟩ := Cond.instanceMethod_spec (hts _ h2)
  have hfound : s.methodFound? y.cls y.name y.desc = some mk := State.methodFound?_of_named hnamed hmh
  have e1 : s.vm.findClass y.cls = some mk.cls := findClass_of_methodNamed hnamed
  have e2 : s.vm.findClass RJ5 = some m0.cls := findClass_of_methodNamed q3
  have hcls : mk.cls = m0.cls := by
    rw [hy] at e1
    exact Option.some.inj (e1.symm.trans e2)
  have hsel : selectMethod {} s.vm cS mk = .method mk := selectMethod_private hmethM (Cond.privateMethod_at (args := #[]) h1 mk methM hnamed hmethM)
  have hkP' : s.vm.classes[mk.cls]? = some kP := by rw [hcls]; exact hkP
  simp only [Cond.before, Cond.holds, Cond.value, hcS, hfound, hnamed, hsel, hkP']
  simp [hkPi]
/-- what a call of an inherited method asks -/
def MLU (own : String) (idx : Nat) (x y : MethodName) (c : ByteArray) (n : Nat) (rt : Option FieldType) (np : Nat) : Prop := Cond.code y c n rt ∈ TB ∧ Cond.initialized y.cls ∈ TB ∧ Cond.instanceMethod y ∈ TB ∧ Cond.instanceMethod x ∈ TB ∧ x.cls = RJ5 ∧ Cond.sameMethod x.cls RJ5 x.name x.desc ∈ TB ∧ (Cond.selects RJ4 x y ∈ TB ∨ (x = y ∧ Cond.privateMethod y ∈ NB)) ∧ hdOk x np ∧ Cond.methodLink own idx x ∈ TB ∧ (x = y ∨ ∃ (b0 : ByteArray) (m0 : Nat) (r0 : Option FieldType), Cond.code x b0 m0 r0 ∈ TB)
theorem run2_U (C : Cx p s m args meth c cc n own E) (hA : CA F E s) (hls : ls.size = n) (hG : GL E s F H locs ad N S cells slots) (ha : RA E ad N d a) {x y : MethodName} {c' : ByteArray} {n' : Nat} {rt : Option FieldType} {k np idx : Nat} {As : List Value} {av : (Nat → Nat) → List Value} {u : ZS} (hcu : F.uc ≤ u.c ∧ F.uw ≤ u.w) {QQ : Nat → (Nat → Nat) → Array Value → State → Outcome → State → Prop}
    (hM : ML2 E l y c' n' rt k av S u QQ) (hav : av ad = .ref a :: As) (hm : MLU own idx x y c' n' rt np) (ho : okO S d 1 = true) (hlen : As.length = np) (hR : k + 1 ≤ kf ∧ 8 + (n' + 11) + 60 * k ≤ 60 * kf) (hrest : (rest.map fun v => v.category).sum ≤ 8) (hst : st = As.reverse ++ .ref a :: rest) (hd : decode cc pc = .ok (.invokevirtual idx, 3)) :
    va_Run p l e (F.R kf) s m args below meth c H locs cells slots (S.c - u.c) (S.w - u.w) (F0 m pc ls st) rest (QQ H.size ad (Value.ref a :: As).toArray) (AL E ad S.n H.size) := by
  have hpre := pre_okL C hA hG (.ref a :: As)
  obtain ⟨hx, hb, hml, hown, hts, hK, hN, -⟩ := id C
  obtain ⟨h1, h2, h3, h3x, hxc, h4, h5, h6, h7, h8⟩ := hm
  obtain ⟨o1, o2, o3⟩ := okO_inv ho
  have he : (wd E ad S)[NC + d / 2]? = some (a, .inr (1, dfs E ad S (d / 2) 1)) := by rw [GL_at hG ha o1 o2, dcel_o o3 (by decide)]
  have hrecv := va_recv hK hG.1 (ci := 1) KP1.1 he
  have hf : cells + (S.c - u.c) ≤ F.c - F.uc ∧ slots + (S.w - u.w) ≤ F.w - F.uw := by
    obtain ⟨q1, q2⟩ := hcu
    obtain ⟨q3, q4⟩ := hG.2.2.2.2.2.2.2.2
    have e1 := hG.2.2.2.2.2.1
    have e2 := hG.2.2.2.2.2.2.1
    constructor <;> omega
  have hM' := hM H.size ad
  rw [hav] at hM'
  have hsel : (Cond.selects RJ4 x y).before args s = true := by
    rcases h5 with h5 | ⟨h5, h9⟩
    · exact hts _ h5
    · rw [h5] at hxc ⊢
      exact sel_priv hxc hts (hN _ h9) h3
  have hts' : ∀ w ∈ Cond.selects RJ4 x y :: TB, w.before args s = true := fun w hw => by
    rcases List.mem_cons.mp hw with rfl | hw
    · exact hsel
    · exact hts w hw
  have gm : ∀ w, w ∈ TB → w ∈ Cond.selects RJ4 x y :: TB ∧ ((w.onTables && w.keeps) = true ∨ ∃ ty, w = .arrayClass ty) := fun w hw => ⟨List.mem_cons_of_mem _ hw, good_of_word (goodTB hw)⟩
  have gw : GoodIn (Cond.selects RJ4 x y :: TB) (wz y c' n' rt) := fun w hw => by
    rcases List.mem_cons.mp hw with rfl | hw
    · exact gm _ h1
    · exact gm _ hw
  have gs : Cond.selects RJ4 x y ∈ Cond.selects RJ4 x y :: TB ∧ (((Cond.selects RJ4 x y).onTables && (Cond.selects RJ4 x y).keeps) = true ∨ ∃ ty, Cond.selects RJ4 x y = .arrayClass ty) := ⟨List.mem_cons_self, good_of_word rfl⟩
  have hd6 : RJ5 ≠ "java/lang/invoke/MethodHandle" ∧ RJ5 ≠ "java/lang/invoke/VarHandle" ∧ (parseMethodDescriptor x.desc).map (fun d => d.parameters.length) = some np := ⟨by decide, by decide, h6.2.2⟩
  have hcw : va_CU (F.R kf) s args own RJ4 RJ5 idx x y c' n' rt (wz y c' n' rt) (rmD k (S.c - u.c) (S.w - u.w)) (S.c - u.c) (S.w - u.w) np := by
    rcases h8 with h8 | ⟨b0, m0, r0, h8⟩
    · refine va_cwU (Ts := Cond.selects RJ4 x y :: TB) np hts' (fun w hw => ?_) rfl rfl rfl (by rw [← h8, ← hxc]) hd6 hR
      unfold va_wsU at hw
      rcases List.mem_append.mp hw with hw | hw
      · simp only [List.mem_cons, List.not_mem_nil, or_false] at hw
        rcases hw with rfl | rfl | rfl | rfl | rfl
        · exact gm _ h7
        · exact gm _ h4
        · exact gs
        · exact gm _ h3
        · exact gm _ h2
      · exact gw w hw
    · have ex : (⟨RJ5, x.name, x.desc⟩ : MethodName) = x := by rw [← hxc]
      refine va_cwO (Ts := Cond.selects RJ4 x y :: TB) np hts' (fun w hw => ?_) rfl rfl rfl (b0 := b0) (m0 := m0) (r0 := r0) (by rw [ex]; exact List.mem_cons_of_mem _ h8) hd6 hR
      unfold va_wsO at hw
      rw [ex] at hw
      rcases List.mem_append.mp hw with hw | hw
      · simp only [List.mem_cons, List.not_mem_nil, or_false] at hw
        rcases hw with rfl | rfl | rfl | rfl | rfl | rfl
        · exact gm _ h7
        · exact gm _ h4
        · exact gm _ h3x
        · exact gs
        · exact gm _ h3
        · exact gm _ h2
      · exact gw w hw
  exact va_runU (C := RJ4) (owner := RJ5) (Ts := TB) ⟨hx, hb, hml, hown, hts⟩ hM' hcw ⟨PL_blind, hrecv, hpre⟩ rfl hlen hls hst (lv_room hrest) hd hf
/-- super.m(..) of the builder -/
def MLP (idx : Nat) (y : MethodName) (c : ByteArray) (n : Nat) (rt : Option FieldType) (np : Nat) : Prop := Cond.code y c n rt ∈ TB ∧ Cond.initialized y.cls ∈ TB ∧ Cond.instanceMethod y ∈ TB ∧ Cond.sameMethod y.cls y.cls y.name y.desc ∈ TB ∧ Cond.superclass RJ4 y.cls ∈ TB ∧ y.name ≠ "<init>" ∧ (parseMethodDescriptor y.desc).map (fun d => d.parameters.length) = some np ∧ Cond.methodLink RJ4 idx y ∈ TB
theorem run2_P (C : Cx p s m args meth c cc n RJ4 E) (hA : CA F E s) (hls : ls.size = n) (hG : GL E s F H locs ad N S cells slots) (ha : RA E ad N d a) {y : MethodName} {c' : ByteArray} {n' : Nat} {rt : Option FieldType} {k np idx : Nat} {As : List Value} {av : (Nat → Nat) → List Value} {u : ZS} (hcu : F.uc ≤ u.c ∧ F.uw ≤ u.w) {QQ : Nat → (Nat → Nat) → Array Value → State → Outcome → State → Prop}
    (hM : ML2 E l y c' n' rt k av S u QQ) (hav : av ad = .ref a :: As) (hm : MLP idx y c' n' rt np) (ho : okO S d 1 = true) (hlen : As.length = np) (hR : k + 1 ≤ kf ∧ 8 + (n' + 11) + 60 * k ≤ 60 * kf) (hrest : (rest.map fun v => v.category).sum ≤ 8) (hst : st = As.reverse ++ .ref a :: rest) (hd : decode cc pc = .ok (.invokespecial idx, 3)) :
    va_Run p l e (F.R kf) s m args below meth c H locs cells slots (S.c - u.c) (S.w - u.w) (F0 m pc ls st) rest (QQ H.size ad (Value.ref a :: As).toArray) (AL E ad S.n H.size) := by
  have hpre := pre_okL C hA hG (.ref a :: As)
  obtain ⟨hx, hb, hml, hown, hts, hK, hN, -⟩ := id C
  obtain ⟨h1, h2, h3, h4, h5, h6, h7, h8⟩ := hm
  obtain ⟨o1, o2, o3⟩ := okO_inv ho
  have he : (wd E ad S)[NC + d / 2]? = some (a, .inr (1, dfs E ad S (d / 2) 1)) := by rw [GL_at hG ha o1 o2, dcel_o o3 (by decide)]
  have hrecv := va_recv hK hG.1 (ci := 1) KP1.1 he
  have hf : cells + (S.c - u.c) ≤ F.c - F.uc ∧ slots + (S.w - u.w) ≤ F.w - F.uw := by
    obtain ⟨q1, q2⟩ := hcu
    obtain ⟨q3, q4⟩ := hG.2.2.2.2.2.2.2.2
    have e1 := hG.2.2.2.2.2.1
    have e2 := hG.2.2.2.2.2.2.1
    constructor <;> omega
  have hM' := hM H.size ad
  rw [hav] at hM'
  have gm : ∀ w, w ∈ TB → w ∈ TB ∧ ((w.onTables && w.keeps) = true ∨ ∃ ty, w = .arrayClass ty) := fun w hw => ⟨hw, good_of_word (goodTB hw)⟩
  refine va_runSU (C := RJ4) (Ts := TB) (hK.1 1 _ KP1.1).2 ⟨hx, hb, hml, hown, hts⟩ hM' (va_cwSU (Ts := TB) np hts (fun w hw => ?_) rfl rfl rfl ⟨h6, h7⟩ hR) ⟨PL_blind, hrecv, hpre⟩ rfl hlen hls hst (lv_room hrest) hd hf
  unfold va_wsSU at hw
  rcases List.mem_append.mp hw with hw | hw
  · simp only [List.mem_cons, List.not_mem_nil, or_false] at hw
    rcases hw with rfl | rfl | rfl | rfl | rfl
    · exact gm _ h8
    · exact gm _ h4
    · exact gm _ h5
    · exact gm _ h3
    · exact gm _ h2
  · exact gwz h1 w hw
end LCALLS2
