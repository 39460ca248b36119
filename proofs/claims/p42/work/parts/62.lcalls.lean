/-! new objects and rows; calls; ends -/
def nO {ρ : Type} (pr : ρ → ZS) (S : ZS) (kind slots : Nat) (f : Nat → ZS → Option ρ) : Option ρ := if 1 ≤ S.c ∧ slots ≤ S.w then chk pr (S.new kind slots z0) (f (2 * S.n + 1) (S.new kind slots z0)) else none
def nA {ρ : Type} (pr : ρ → ZS) (S : ZS) (base : Nat) (j : Int32) (f : Nat → ZS → Option ρ) : Option ρ := if (¬ j < 0 ∧ j.toNatClampNeg < 100000) ∧ 1 ≤ S.c ∧ j.toNatClampNeg ≤ S.w then chk pr (S.new (base + j.toNatClampNeg) j.toNatClampNeg z0) (f (2 * S.n + 1) (S.new (base + j.toNatClampNeg) j.toNatClampNeg z0)) else none
def dfV (pos : Nat) : List Value := (List.range (dns pos)).map (fun k => if dsk pos k = 1 then .null else .int 0)
theorem dcel_new {E : EV} {ad : Nat → Nat} {S : ZS} {pos slots : Nat} (hp : pos < 15) : dcel E ad (S.new pos slots z0) S.n = .inr (pos, dfV pos) := by
  have hK : (S.new pos slots z0).K S.n = pos := if_pos rfl
  rw [dcel_o hK hp]
  congr 2
  unfold dfs dfV
  apply List.map_congr_left
  intro k _
  have hi : (S.new pos slots z0).i S.n k = 0 := by
    show (if S.n = S.n then z0 else S.i S.n) k = 0
    rw [if_pos rfl]
    rfl
  have hr : (S.new pos slots z0).r S.n k = 0 := by
    show (if S.n = S.n then (fun _ => 0) else S.r S.n) k = 0
    rw [if_pos rfl]
  unfold dval
  rw [hi, hr]
  rfl
theorem new_i {S : ZS} {kind slots : Nat} {f : Nat → Int32} : (S.new kind slots f).i S.n = f := by
  show (if S.n = S.n then f else S.i S.n) = f
  rw [if_pos rfl]
theorem new_r {S : ZS} {kind slots : Nat} {f : Nat → Int32} : (S.new kind slots f).r S.n = fun _ => 0 := by
  show (if S.n = S.n then (fun _ => 0) else S.r S.n) = _
  rw [if_pos rfl]
theorem new_K {S : ZS} {kind slots : Nat} {f : Nat → Int32} : (S.new kind slots f).K S.n = kind := by
  show (if S.n = S.n then kind else S.K S.n) = kind
  rw [if_pos rfl]
def upA (ad : Nat → Nat) (n q : Nat) : Nat → Nat := fun i => if i = n then q else ad i
theorem GX_upA {ad : Nat → Nat} {n q : Nat} : GX ad n (upA ad n q) (n + 1) := ⟨Nat.le_succ n, fun i hi => if_neg (by omega)⟩
section LCALLS
variable {p : Program} {l : Launch} {e : Env} {kf : Nat} {F : FT} {s : State} {m : MethodId} {args : Array Value} {below : List Frame} {meth : Method} {c : Code} {H : Heap} {locs : List Loc} {cells slots : Nat} {Q : State → Prop} {cc : ByteArray} {n : Nat} {own : String} {E : EV} {ad : Nat → Nat} {N : Nat} {S : ZS} {pc : Nat} {ls : Array Slot} {rest st : List Value} {ρ : Type} {r : ρ} {d a : Nat}
theorem GL_new (hG : GL E s F H locs ad N S cells slots) {kind sl q : Nat} {f : Nat → Int32} {y : va_E} {H1 : Heap} {locs1 : List Loc} (h1 : 1 ≤ S.c) (h2 : sl ≤ S.w) (h3 : F.uc ≤ S.c - 1 ∧ F.uw ≤ S.w - sl) (hy : dcel E (upA ad N q) (S.new kind sl f) S.n = y) (a1 : va_P E.D vwCl (wd E ad S ++ [(q, y)]) H1) (a2 : va_D F.A (wd E ad S ++ [(q, y)])) (a3 : va_S F.A s.heap H1 locs1) :
    GL E s F H1 locs1 (upA ad N q) (S.new kind sl f).n (S.new kind sl f) (cells + 1) (slots + sl) ∧ GX ad N (upA ad N q) (S.new kind sl f).n ∧ RA E (upA ad N q) (S.new kind sl f).n (2 * S.n + 1) q := by
  obtain ⟨b1, b2, b3, b4, b5, b6, b7, b8⟩ := hG
  subst b4
  have hx : GX ad S.n (upA ad S.n q) (S.new kind sl f).n := GX_upA
  have hq : upA ad S.n q S.n = q := if_pos rfl
  rw [wd_push b5 hx hq hy] at a1 a2
  have c1 : (S.new kind sl f).c = S.c - 1 := rfl
  have c2 : (S.new kind sl f).w = S.w - sl := rfl
  refine ⟨⟨a1, a2, a3, rfl, b5.new, by rw [c1]; omega, by rw [c2]; omega, b8.1.trans hx, h3⟩, hx, ?_, by omega, fun _ => ?_⟩
  · unfold rA
    rw [if_pos (by omega), show (2 * S.n + 1) / 2 = S.n by omega, hq]
  · show (2 * S.n + 1) / 2 < S.n + 1
    omega
theorem r2_new (C : Cx p s m args meth c cc n own E) (hA : CA F E s) (hG : GL E s F H locs ad N S cells slots) {pos nn idx : Nat} {cn : String} {T : u_T} {tt : Nat → FieldType} (hKP : KP pos cn T nn tt) (h1 : Cond.classLink own idx cn ∈ TB) (h2 : Cond.instantiable cn nn ∈ TB) (h3 : Cond.initialized cn ∈ TB) (hfs : ∀ j, j < nn → defaultValue (tt j) = vp_V (dfV pos) j) (hd : decode cc pc = .ok (.new idx, 3)) {fn : Nat → ZS → Option ρ} {pr : ρ → ZS} (hU : F.uc = (pr r).c ∧ F.uw = (pr r).w) (h : nO pr S pos nn fn = some r)
    (kk : ∀ (q x : Nat) (H1 : Heap) (ad1 : Nat → Nat) (S1 : ZS) (cells1 slots1 : Nat), GL E s F H1 locs ad1 S1.n S1 cells1 slots1 → GX ad N ad1 S1.n → RA E ad1 S1.n x q → fn x S1 = some r → W p l e (F.R kf) s m args below meth c H1 locs cells1 slots1 Q (F0 m (pc + 3) ls (.ref q :: rest))) : W p l e (F.R kf) s m args below meth c H locs cells slots Q (F0 m pc ls rest) := by
  obtain ⟨⟨c1, c2⟩, h⟩ := ite_inv h
  obtain ⟨⟨d1, d2⟩, h⟩ := chk_inv h
  have d1 : (pr r).c ≤ S.c - 1 := d1
  have d2 : (pr r).w ≤ S.w - nn := d2
  have hlt := KP_lt hKP
  obtain ⟨hc, hin, hty, -, -⟩ := hKP
  refine va_new (ci := pos) (fs := dfV pos) (C := cn) (T := T) (N := nn) C.1 C.2.1 C.2.2.2.2.1 hin tt hty C.2.2.2.1 (C.2.2.2.2.1 _ h1) (C.2.2.2.2.1 _ h2) (C.2.2.2.2.1 _ h3) C.2.2.2.2.2.1 hG.1 hG.2.1 hG.2.2.1 hA.1 hc hfs (by show _ ≤ F.c - F.uc; have := hG.2.2.2.2.2.1; omega) (by show _ ≤ F.w - F.uw; have := hG.2.2.2.2.2.2.1; omega) hd (fun q H1 a1 a2 a3 => ?_)
  obtain ⟨g1, g2, g3⟩ := GL_new (kind := pos) (f := z0) hG c1 c2 ⟨by omega, by omega⟩ (dcel_new hlt) a1 a2 a3
  exact kk q _ H1 _ _ _ _ g1 g2 g3 h
theorem tyL (C : Cx p s m args meth c cc n own E) {i : Nat} {t : FieldType} {cB : ClassId} (ht : E.tys[i]? = some (cB, t)) (hn : ∀ U : State, ∀ cA : ClassId, va_RA U cA t → U.vm.findClass ("[" ++ t.toString) = some cA) {cA : ClassId} {tys : List (ClassId × FieldType)} (hK : va_K E.D vwCl (tys ++ [(cA, t)]) s) : cA = cB := by
  have h1 : s.vm.findClass ("[" ++ t.toString) = some cA := hn s cA (hK.2 tys.length (cA, t) (by simp)).2
  have h2 : s.vm.findClass ("[" ++ t.toString) = some cB := hn s cB (C.2.2.2.2.2.1.2 i (cB, t) ht).2
  exact Option.some.inj (h1.symm.trans h2)
theorem r2_newI (C : Cx p s m args meth c cc n own E) (hA : CA F E s) (hG : GL E s F H locs ad N S cells slots) {z : Int32} (hA9 : Cond.arrayClass .int ∈ TB) (hd : decode cc pc = .ok (.newarray .int, 2)) {fn : Nat → ZS → Option ρ} {pr : ρ → ZS} (hU : F.uc = (pr r).c ∧ F.uw = (pr r).w) (h : nA pr S 100000 z fn = some r)
    (kk : ∀ (q x : Nat) (H1 : Heap) (ad1 : Nat → Nat) (S1 : ZS) (cells1 slots1 : Nat), GL E s F H1 locs ad1 S1.n S1 cells1 slots1 → GX ad N ad1 S1.n → RA E ad1 S1.n x q → fn x S1 = some r → W p l e (F.R kf) s m args below meth c H1 locs cells1 slots1 Q (F0 m (pc + 2) ls (.ref q :: rest))) : W p l e (F.R kf) s m args below meth c H locs cells slots Q (F0 m pc ls (.int z :: rest)) := by
  obtain ⟨⟨⟨z1, z2⟩, c1, c2⟩, h⟩ := ite_inv h
  obtain ⟨⟨d1, d2⟩, h⟩ := chk_inv h
  have d1 : (pr r).c ≤ S.c - 1 := d1
  have d2 : (pr r).w ≤ S.w - z.toNatClampNeg := d2
  refine va_newa (atype := .int) (ty := .int) (a0 := (z.toNatClampNeg, .inl z0)) C.1 C.2.1 (C.2.2.2.2.1 _ hA9) rfl C.2.2.2.2.2.1 hG.1 hG.2.1 hG.2.2.1 hA.1 (fun cA => rfl) z1 rfl (by show _ * 4 ≤ 536870912; omega) (by show _ ≤ F.c - F.uc; have := hG.2.2.2.2.2.1; omega) (by show _ ≤ F.w - F.uw; have := hG.2.2.2.2.2.2.1; omega) hd (fun q cA H1 a1 a2 a3 a4 => ?_)
  obtain rfl := tyL (i := 0) C rfl (fun _ _ q => q) a1
  obtain ⟨g1, g2, g3⟩ := GL_new (kind := 100000 + z.toNatClampNeg) (f := z0) hG c1 c2 ⟨by omega, by omega⟩ (by rw [dcel_i new_K z2, new_i]) a2 a3 a4
  exact kk q _ H1 _ _ _ _ g1 g2 g3 h
theorem r2_newB (C : Cx p s m args meth c cc n own E) (hA : CA F E s) (hG : GL E s F H locs ad N S cells slots) {z : Int32} (hA9 : Cond.arrayClass .byte ∈ TB) (hd : decode cc pc = .ok (.newarray .byte, 2)) {fn : Nat → ZS → Option ρ} {pr : ρ → ZS} (hU : F.uc = (pr r).c ∧ F.uw = (pr r).w) (h : nA pr S 200000 z fn = some r)
    (kk : ∀ (q x : Nat) (H1 : Heap) (ad1 : Nat → Nat) (S1 : ZS) (cells1 slots1 : Nat), GL E s F H1 locs ad1 S1.n S1 cells1 slots1 → GX ad N ad1 S1.n → RA E ad1 S1.n x q → fn x S1 = some r → W p l e (F.R kf) s m args below meth c H1 locs cells1 slots1 Q (F0 m (pc + 2) ls (.ref q :: rest))) : W p l e (F.R kf) s m args below meth c H locs cells slots Q (F0 m pc ls (.int z :: rest)) := by
  obtain ⟨⟨⟨z1, z2⟩, c1, c2⟩, h⟩ := ite_inv h
  obtain ⟨⟨d1, d2⟩, h⟩ := chk_inv h
  have d1 : (pr r).c ≤ S.c - 1 := d1
  have d2 : (pr r).w ≤ S.w - z.toNatClampNeg := d2
  refine va_newa (atype := .byte) (ty := .byte) (a0 := (z.toNatClampNeg, .inl z0)) C.1 C.2.1 (C.2.2.2.2.1 _ hA9) rfl C.2.2.2.2.2.1 hG.1 hG.2.1 hG.2.2.1 hA.1 (fun cA => rfl) z1 rfl (by show _ * 1 ≤ 536870912; omega) (by show _ ≤ F.c - F.uc; have := hG.2.2.2.2.2.1; omega) (by show _ ≤ F.w - F.uw; have := hG.2.2.2.2.2.2.1; omega) hd (fun q cA H1 a1 a2 a3 a4 => ?_)
  obtain rfl := tyL (i := 1) C rfl (fun _ _ q => q) a1
  obtain ⟨g1, g2, g3⟩ := GL_new (kind := 200000 + z.toNatClampNeg) (f := z0) hG c1 c2 ⟨by omega, by omega⟩ (by rw [dcel_b new_K z2, new_i]) a2 a3 a4
  exact kk q _ H1 _ _ _ _ g1 g2 g3 h
theorem r2_newZ (C : Cx p s m args meth c cc n own E) (hA : CA F E s) (hG : GL E s F H locs ad N S cells slots) {z : Int32} (hA9 : Cond.arrayClass .boolean ∈ TB) (hd : decode cc pc = .ok (.newarray .boolean, 2)) {fn : Nat → ZS → Option ρ} {pr : ρ → ZS} (hU : F.uc = (pr r).c ∧ F.uw = (pr r).w) (h : nA pr S 300000 z fn = some r)
    (kk : ∀ (q x : Nat) (H1 : Heap) (ad1 : Nat → Nat) (S1 : ZS) (cells1 slots1 : Nat), GL E s F H1 locs ad1 S1.n S1 cells1 slots1 → GX ad N ad1 S1.n → RA E ad1 S1.n x q → fn x S1 = some r → W p l e (F.R kf) s m args below meth c H1 locs cells1 slots1 Q (F0 m (pc + 2) ls (.ref q :: rest))) : W p l e (F.R kf) s m args below meth c H locs cells slots Q (F0 m pc ls (.int z :: rest)) := by
  obtain ⟨⟨⟨z1, z2⟩, c1, c2⟩, h⟩ := ite_inv h
  obtain ⟨⟨d1, d2⟩, h⟩ := chk_inv h
  have d1 : (pr r).c ≤ S.c - 1 := d1
  have d2 : (pr r).w ≤ S.w - z.toNatClampNeg := d2
  refine va_newa (atype := .boolean) (ty := .boolean) (a0 := (z.toNatClampNeg, .inl z0)) C.1 C.2.1 (C.2.2.2.2.1 _ hA9) rfl C.2.2.2.2.2.1 hG.1 hG.2.1 hG.2.2.1 hA.1 (fun cA => rfl) z1 rfl (by show _ * 1 ≤ 536870912; omega) (by show _ ≤ F.c - F.uc; have := hG.2.2.2.2.2.1; omega) (by show _ ≤ F.w - F.uw; have := hG.2.2.2.2.2.2.1; omega) hd (fun q cA H1 a1 a2 a3 a4 => ?_)
  obtain rfl := tyL (i := 2) C rfl (fun _ _ q => q) a1
  obtain ⟨g1, g2, g3⟩ := GL_new (kind := 300000 + z.toNatClampNeg) (f := z0) hG c1 c2 ⟨by omega, by omega⟩ (by rw [dcel_z new_K z2, new_i]) a2 a3 a4
  exact kk q _ H1 _ _ _ _ g1 g2 g3 h
theorem r2_newQ (C : Cx p s m args meth c cc n own E) (hA : CA F E s) (hG : GL E s F H locs ad N S cells slots) {z : Int32} {idx : Nat} (h1 : Cond.classLink own idx "PeriscopeTrainLaw$Order" ∈ TB) (h2 : Cond.arrayOver (.object "PeriscopeTrainLaw$Order") ∈ NB) (hd : decode cc pc = .ok (.anewarray idx, 3)) {fn : Nat → ZS → Option ρ} {pr : ρ → ZS} (hU : F.uc = (pr r).c ∧ F.uw = (pr r).w) (h : nA pr S 500000 z fn = some r)
    (kk : ∀ (q x : Nat) (H1 : Heap) (ad1 : Nat → Nat) (S1 : ZS) (cells1 slots1 : Nat), GL E s F H1 locs ad1 S1.n S1 cells1 slots1 → GX ad N ad1 S1.n → RA E ad1 S1.n x q → fn x S1 = some r → W p l e (F.R kf) s m args below meth c H1 locs cells1 slots1 Q (F0 m (pc + 3) ls (.ref q :: rest))) : W p l e (F.R kf) s m args below meth c H locs cells slots Q (F0 m pc ls (.int z :: rest)) := by
  obtain ⟨⟨⟨z1, z2⟩, c1, c2⟩, h⟩ := ite_inv h
  obtain ⟨⟨d1, d2⟩, h⟩ := chk_inv h
  have d1 : (pr r).c ≤ S.c - 1 := d1
  have d2 : (pr r).w ≤ S.w - z.toNatClampNeg := d2
  refine va_newq (C := "PeriscopeTrainLaw$Order") C.1 C.2.1 C.2.2.2.1 (C.2.2.2.2.1 _ h1) (va_AO.of (C.2.2.2.2.2.2.1 _ h2)) C.2.2.2.2.2.1 hG.1 hG.2.1 hG.2.2.1 hA.1 z1 rfl (by omega) (by show _ ≤ F.c - F.uc; have := hG.2.2.2.2.2.1; omega) (by show _ ≤ F.w - F.uw; have := hG.2.2.2.2.2.2.1; omega) hd (fun q cA H1 a1 a2 a3 a4 => ?_)
  obtain rfl := tyL (i := 4) C rfl (fun U cA q => by obtain ⟨kA, comp, -, -, -, q⟩ := q; exact q) a1
  obtain ⟨g1, g2, g3⟩ := GL_new (kind := 500000 + z.toNatClampNeg) (f := z0) hG c1 c2 ⟨by omega, by omega⟩ (by rw [dcel_q new_K z2, new_r]; rfl) a2 a3 a4
  exact kk q _ H1 _ _ _ _ g1 g2 g3 h
theorem r2_newA (C : Cx p s m args meth c cc n own E) (hA : CA F E s) (hG : GL E s F H locs ad N S cells slots) {z : Int32} {idx : Nat} (h1 : Cond.classLink own idx (FieldType.array .int).toString ∈ TB) (h2 : Cond.arrayOver (.array .int) ∈ NB) (hd : decode cc pc = .ok (.anewarray idx, 3)) {fn : Nat → ZS → Option ρ} {pr : ρ → ZS} (hU : F.uc = (pr r).c ∧ F.uw = (pr r).w) (h : nA pr S 400000 z fn = some r)
    (kk : ∀ (q x : Nat) (H1 : Heap) (ad1 : Nat → Nat) (S1 : ZS) (cells1 slots1 : Nat), GL E s F H1 locs ad1 S1.n S1 cells1 slots1 → GX ad N ad1 S1.n → RA E ad1 S1.n x q → fn x S1 = some r → W p l e (F.R kf) s m args below meth c H1 locs cells1 slots1 Q (F0 m (pc + 3) ls (.ref q :: rest))) : W p l e (F.R kf) s m args below meth c H locs cells slots Q (F0 m pc ls (.int z :: rest)) := by
  obtain ⟨⟨⟨z1, z2⟩, c1, c2⟩, h⟩ := ite_inv h
  obtain ⟨⟨d1, d2⟩, h⟩ := chk_inv h
  have d1 : (pr r).c ≤ S.c - 1 := d1
  have d2 : (pr r).w ≤ S.w - z.toNatClampNeg := d2
  refine W.anewA (t := .int) C.1 C.2.1 C.2.2.2.1 (C.2.2.2.2.1 _ h1) (show (Cond.arrayOver (.array .int)).before args s = true from C.2.2.2.2.2.2.1 _ h2) rfl hd rfl z1 (by omega) (by show _ ≤ F.c - F.uc; have := hG.2.2.2.2.2.1; omega) (by show _ ≤ F.w - F.uw; have := hG.2.2.2.2.2.2.1; omega) (fun cA kA comp e1 e2 e3 e4 => ?_)
  have hnm : s.vm.findClass ("[" ++ (FieldType.array .int).toString) = some (E.tX 1) := (C.2.2.2.2.2.1.2 3 _ rfl).2
  obtain rfl : cA = E.tX 1 := Option.some.inj (e1.symm.trans hnm)
  have hcell : (H.push { cls := E.tX 1, slots := Array.replicate z.toNatClampNeg .null, vm := .none })[H.size]? = some (vp_cell (E.tX 1) (z.toNatClampNeg, .inr (.inr (.inr (.inr (fun _ => none)))))) := by
    rw [Array.getElem?_push_size]
    rw [vp_cell_q]
    unfold arrV
    congr 2
    apply Array.ext'
    rw [Array.toList_replicate]
    apply List.ext_getElem?
    intro i
    by_cases hi : i < z.toNatClampNeg <;> simp [hi, va_rf]
  have hold : ∀ q, q < H.size → (H.push { cls := E.tX 1, slots := Array.replicate z.toNatClampNeg .null, vm := .none })[q]? = H[q]? := fun q hq => by rw [Array.getElem?_push_lt hq, Array.getElem?_eq_getElem hq]
  have hz : s.heap.size ≤ H.size := hG.2.2.1.1
  have a2 : va_P E.D vwCl (wd E ad S ++ [(H.size, .inl (E.tX 1, z.toNatClampNeg, .inr (.inr (.inr (.inr (fun _ => none))))))]) (H.push { cls := E.tX 1, slots := Array.replicate z.toNatClampNeg .null, vm := .none }) := by
    refine va_P.app (hG.1.kept (fun k q hk => hold _ (hG.1 k q hk).lt)) (fun k q hk => ?_)
    have h0 : k = 0 := by
      have := (List.getElem?_eq_some_iff.mp hk).1
      simp at this
      exact this
    subst h0
    cases hk
    exact hcell
  have a3 : va_D F.A (wd E ad S ++ [(H.size, .inl (E.tX 1, z.toNatClampNeg, .inr (.inr (.inr (.inr (fun _ => none))))))]) := hG.2.1.push hG.1 rfl (hA.1 _ hz)
  have a4 : va_S F.A s.heap (H.push { cls := E.tX 1, slots := Array.replicate z.toNatClampNeg .null, vm := .none }) locs := ⟨by rw [Array.size_push]; omega, fun q h8 h9 => by rw [hold q (by omega)]; exact hG.2.2.1.2.1 q h8 h9, hG.2.2.1.2.2⟩
  obtain ⟨g1, g2, g3⟩ := GL_new (kind := 400000 + z.toNatClampNeg) (f := z0) hG c1 c2 ⟨by omega, by omega⟩ (by rw [dcel_a new_K z2, new_r]; rfl) a2 a3 a4
  exact kk H.size _ _ _ _ _ _ g1 g2 g3 h
/-! calls of the law's own methods -/
theorem pre_okL (C : Cx p s m args meth c cc n own E) (hA : CA F E s) (hG : GL E s F H locs ad N S cells slots) (av : List Value) : ∀ U : State, U.heap = H → s.WarmedH U.vm → PL E H.size ad av S av.toArray U := by
  intro U hU hW
  obtain ⟨-, -, -, -, -, hK, hN, -, hz, hAD, hO⟩ := C
  have hS := hG.2.2.1
  have hsz : E.sz ≤ H.size := Nat.le_trans hz hS.1
  refine ⟨rfl, by rw [hU], by rw [hU]; exact hsz, by rw [hU]; exact hG.1, va_K.moved hW.alike hK, hAD, fun w hw => Nw_warm hW hw (hN w hw), ?_, ⟨hG.2.1.1, fun k q hq => hA.2 _ (hG.2.1.2 k q hq)⟩, hG.2.2.2.2.1⟩
  rw [hU]
  exact OO.step hW hz (fun a ha => hS.2.1 a (Nat.lt_of_lt_of_le ha hz) (fun h => Nat.not_le.mpr ha (hA.2 _ h))) hO
theorem AL_in (hA : CA F E s) (hG : GL E s F H locs ad N S cells slots) : ∀ q, AL E ad S.n H.size q → F.A q := by
  rintro q (⟨i, hi, rfl⟩ | ⟨i, hi, rfl⟩ | h)
  · exact hG.2.1.2 _ _ (wd_cl hi)
  · exact hG.2.1.2 _ _ (wd_at hi)
  · exact hA.1 _ (Nat.le_trans hG.2.2.1.1 h)
theorem GL_back (hA : CA F E s) (hG : GL E s F H locs ad N S cells slots) {u : ZS} {ad1 : Nat → Nat} {t : State} {H1 : Heap} {locs1 : List Loc} (hcu : F.uc ≤ u.c ∧ F.uw ≤ u.w) (hB : PU E H.size ad S u ad1 t) (ht : t.heap = H1) (hS : va_S F.A s.heap H1 locs1) :
    GL E s F H1 locs1 ad1 u.n u (cells + (S.c - u.c)) (slots + (S.w - u.w)) ∧ GX ad N ad1 u.n := by
  obtain ⟨h1, h2, h3, h4, h5, h6⟩ := hB
  have hin := AL_in hA hG
  obtain ⟨b1, b2, b3, b4, b5, b6, b7, b8⟩ := hG
  subst b4
  rw [ht] at h1
  exact ⟨⟨h1, ⟨h2.1, fun k q hq => hin _ (h2.2 k q hq)⟩, hS, rfl, h3, by omega, by omega, b8.1.trans h4, hcu⟩, h4⟩
theorem run2_V (C : Cx p s m args meth c cc n own E) (hA : CA F E s) (hls : ls.size = n) (hG : GL E s F H locs ad N S cells slots) (ha : RA E ad N d a) {y : MethodName} {c' : ByteArray} {n' : Nat} {rt : Option FieldType} {k np idx pos nn : Nat} {As : List Value} {av : (Nat → Nat) → List Value} {u : ZS} (hcu : F.uc ≤ u.c ∧ F.uw ≤ u.w) {QQ : Nat → (Nat → Nat) → Array Value → State → Outcome → State → Prop} {T : u_T} {tt : Nat → FieldType}
    (hM : ML2 E l y c' n' rt k av S u QQ) (hav : av ad = .ref a :: As) (hm : MLV own idx y c' n' rt np) (hKP : KP pos y.cls T nn tt) (ho : okO S d pos = true) (hlen : As.length = np) (hR : k + 1 ≤ kf ∧ 8 + (n' + 11) + 60 * k ≤ 60 * kf) (hrest : (rest.map fun v => v.category).sum ≤ 8) (hst : st = As.reverse ++ .ref a :: rest) (hd : decode cc pc = .ok (.invokevirtual idx, 3)) :
    va_Run p l e (F.R kf) s m args below meth c H locs cells slots (S.c - u.c) (S.w - u.w) (F0 m pc ls st) rest (QQ H.size ad (Value.ref a :: As).toArray) (AL E ad S.n H.size) := by
  have hpre := pre_okL C hA hG (.ref a :: As)
  obtain ⟨hx, hb, hml, hown, hts, hK, hN, -⟩ := id C
  obtain ⟨h1, h2, h3, h4, h5, h6⟩ := hm
  obtain ⟨o1, o2, o3⟩ := okO_inv ho
  have he : (wd E ad S)[NC + d / 2]? = some (a, .inr (pos, dfs E ad S (d / 2) pos)) := by rw [GL_at hG ha o1 o2, dcel_o o3 (KP_lt hKP)]
  have hrecv := va_recv hK hG.1 (ci := pos) hKP.1 he
  have hf : cells + (S.c - u.c) ≤ F.c - F.uc ∧ slots + (S.w - u.w) ≤ F.w - F.uw := by
    obtain ⟨q1, q2⟩ := hcu
    obtain ⟨q3, q4⟩ := hG.2.2.2.2.2.2.2.2
    have e1 := hG.2.2.2.2.2.1
    have e2 := hG.2.2.2.2.2.2.1
    constructor <;> omega
  have hM' := hM H.size ad
  rw [hav] at hM'
  rcases h6 with h6 | ⟨host, h6⟩
  · exact va_runV (C := y.cls) (Ts := TB) ⟨hx, hb, hml, hown, hts⟩ hM' ⟨callB_of np hts (gwz h1) rfl rfl rfl (hts _ h2) (hts _ h6) h5 hR, hts _ h3, hts _ h4⟩ ⟨PL_blind, hrecv, hpre⟩ rfl hlen hls hst (lv_room hrest) hd hf
  · exact va_runVN (C := y.cls) (Ts := TB) (host := host) ⟨hx, hb, hml, hown, hts⟩ hM' ⟨va_cnB np hts (gwz h1) rfl rfl rfl (hN _ h6) (hts _ h2) h5 hR, hts _ h3, hts _ h4⟩ ⟨PL_blind, hrecv, hpre⟩ rfl hlen hls hst (lv_room hrest) hd hf
theorem run2_S (C : Cx p s m args meth c cc n own E) (hA : CA F E s) (hls : ls.size = n) (hG : GL E s F H locs ad N S cells slots) {y : MethodName} {c' : ByteArray} {n' : Nat} {rt : Option FieldType} {k np idx : Nat} {As : List Value} {av : (Nat → Nat) → List Value} {u : ZS} (hcu : F.uc ≤ u.c ∧ F.uw ≤ u.w) {QQ : Nat → (Nat → Nat) → Array Value → State → Outcome → State → Prop}
    (hM : ML2 E l y c' n' rt k av S u QQ) (hav : av ad = As) (hm : MLS own idx y c' n' rt np) (hlen : As.length = np) (hR : k + 1 ≤ kf ∧ 8 + (n' + 11) + 60 * k ≤ 60 * kf) (hrest : (rest.map fun v => v.category).sum ≤ 8) (hst : st = As.reverse ++ rest) (hd : decode cc pc = .ok (.invokestatic idx, 3)) :
    va_Run p l e (F.R kf) s m args below meth c H locs cells slots (S.c - u.c) (S.w - u.w) (F0 m pc ls st) rest (QQ H.size ad As.toArray) (AL E ad S.n H.size) := by
  have hpre := pre_okL C hA hG As
  obtain ⟨hx, hb, hml, hown, hts, hK, hN, -⟩ := id C
  obtain ⟨h1, h2, h3, h5, h6⟩ := hm
  have hf : cells + (S.c - u.c) ≤ F.c - F.uc ∧ slots + (S.w - u.w) ≤ F.w - F.uw := by
    obtain ⟨q1, q2⟩ := hcu
    obtain ⟨q3, q4⟩ := hG.2.2.2.2.2.2.2.2
    have e1 := hG.2.2.2.2.2.1
    have e2 := hG.2.2.2.2.2.2.1
    constructor <;> omega
  have hM' := hM H.size ad
  rw [hav] at hM'
  rcases h6 with h6 | ⟨host, h6⟩
  · exact va_runS (Ts := TB) ⟨hx, hb, hml, hown, hts⟩ hM' ⟨callB_of np hts (gwz h1) rfl rfl rfl (hts _ h2) (hts _ h6) h5 hR, hts _ h3⟩ ⟨PL_blind, hpre⟩ rfl hlen hls hst (lv_room hrest) hd hf
  · exact va_runSN (Ts := TB) (host := host) ⟨hx, hb, hml, hown, hts⟩ hM' ⟨va_cnB np hts (gwz h1) rfl rfl rfl (hN _ h6) (hts _ h2) h5 hR, hts _ h3, trivial⟩ ⟨PL_blind, hpre⟩ rfl hlen hls hst (lv_room hrest) hd hf
def MLI (own : String) (idx : Nat) (y : MethodName) (c : ByteArray) (n : Nat) (np : Nat) : Prop := Cond.code y c n none ∈ TB ∧ Cond.initialized y.cls ∈ TB ∧ Cond.instanceMethod y ∈ TB ∧ y.name = "<init>" ∧ hdOk y np ∧ (Cond.methodLink own idx y ∈ TB ∨ ∃ host, Cond.methodLinkNest own idx y host ∈ NB)
theorem run2_I (C : Cx p s m args meth c cc n own E) (hA : CA F E s) (hls : ls.size = n) (hG : GL E s F H locs ad N S cells slots) {y : MethodName} {c' : ByteArray} {n' k np idx : Nat} {As : List Value} {av : (Nat → Nat) → List Value} {u : ZS} (hcu : F.uc ≤ u.c ∧ F.uw ≤ u.w) {QQ : Nat → (Nat → Nat) → Array Value → State → Outcome → State → Prop}
    (hM : ML2 E l y c' n' none k av S u QQ) (hav : av ad = .ref a :: As) (hm : MLI own idx y c' n' np) (hlen : As.length = np) (hR : k + 1 ≤ kf ∧ 8 + (n' + 11) + 60 * k ≤ 60 * kf) (hrest : (rest.map fun v => v.category).sum ≤ 8) (hst : st = As.reverse ++ .ref a :: rest) (hd : decode cc pc = .ok (.invokespecial idx, 3)) :
    va_Run p l e (F.R kf) s m args below meth c H locs cells slots (S.c - u.c) (S.w - u.w) (F0 m pc ls st) rest (QQ H.size ad (Value.ref a :: As).toArray) (AL E ad S.n H.size) := by
  have hpre := pre_okL C hA hG (.ref a :: As)
  obtain ⟨hx, hb, hml, hown, hts, hK, hN, -⟩ := id C
  obtain ⟨h1, h2, h3, h4, h5, h6⟩ := hm
  have hf : cells + (S.c - u.c) ≤ F.c - F.uc ∧ slots + (S.w - u.w) ≤ F.w - F.uw := by
    obtain ⟨q1, q2⟩ := hcu
    obtain ⟨q3, q4⟩ := hG.2.2.2.2.2.2.2.2
    have e1 := hG.2.2.2.2.2.1
    have e2 := hG.2.2.2.2.2.2.1
    constructor <;> omega
  have hM' := hM H.size ad
  rw [hav] at hM'
  rcases h6 with h6 | ⟨host, h6⟩
  · exact va_runI (Ts := TB) ⟨hx, hb, hml, hown, hts⟩ hM' ⟨callB_of np hts (gwz h1) rfl rfl rfl (hts _ h2) (hts _ h6) h5 hR, h4, hts _ h3⟩ ⟨PL_blind, hpre⟩ rfl hlen hls hst (lv_room hrest) hd hf
  · exact va_runIN (Ts := TB) (host := host) ⟨hx, hb, hml, hown, hts⟩ hM' ⟨va_cnB np hts (gwz h1) rfl rfl rfl (hN _ h6) (hts _ h2) h5 hR, h4, hts _ h3⟩ ⟨PL_blind, hpre⟩ rfl hlen hls hst (lv_room hrest) hd hf
theorem af2_I (hA : CA F E s) (hG : GL E s F H locs ad N S cells slots) {a9 : Array Value} {u : Int32 × ZS} (hcu : F.uc ≤ u.2.c ∧ F.uw ≤ u.2.w) {st0 : List Value} (hr : va_Run p l e (F.R kf) s m args below meth c H locs cells slots (S.c - u.2.c) (S.w - u.2.w) (F0 m pc ls st0) rest (QIL E H.size ad S u a9) (AL E ad S.n H.size))
    (kk : ∀ (H1 : Heap) (locs1 : List Loc) (ad1 : Nat → Nat) (cells1 slots1 : Nat), GL E s F H1 locs1 ad1 u.2.n u.2 cells1 slots1 → GX ad N ad1 u.2.n → W p l e (F.R kf) s m args below meth c H1 locs1 cells1 slots1 Q (F0 m (pc + 3) ls (.int u.1 :: rest))) : W p l e (F.R kf) s m args below meth c H locs cells slots Q (F0 m pc ls st0) := by
  refine va_calli hr hG.2.2.1 (fun q _ h => AL_in hA hG q h) (AL_in hA hG) (fun r9 ad1 t H1 locs1 ht hvm hw hB hz hk hS => ?_)
  have hw : r9 = u.1 := hw
  subst hw
  obtain ⟨g1, g2⟩ := GL_back hA hG hcu hB ht hS
  exact kk H1 locs1 ad1 _ _ g1 g2
theorem af2_V (hA : CA F E s) (hG : GL E s F H locs ad N S cells slots) {a9 : Array Value} {u : ZS} (hcu : F.uc ≤ u.c ∧ F.uw ≤ u.w) {st0 : List Value} (hr : va_Run p l e (F.R kf) s m args below meth c H locs cells slots (S.c - u.c) (S.w - u.w) (F0 m pc ls st0) rest (QVL E H.size ad S u a9) (AL E ad S.n H.size))
    (kk : ∀ (H1 : Heap) (locs1 : List Loc) (ad1 : Nat → Nat) (cells1 slots1 : Nat), GL E s F H1 locs1 ad1 u.n u cells1 slots1 → GX ad N ad1 u.n → W p l e (F.R kf) s m args below meth c H1 locs1 cells1 slots1 Q (F0 m (pc + 3) ls rest)) : W p l e (F.R kf) s m args below meth c H locs cells slots Q (F0 m pc ls st0) := by
  refine va_callv hr hG.2.2.1 (fun q _ h => AL_in hA hG q h) (AL_in hA hG) (fun ad1 t H1 locs1 ht hvm hw hB hz hk hS => ?_)
  obtain ⟨g1, g2⟩ := GL_back hA hG hcu hB ht hS
  exact kk H1 locs1 ad1 _ _ g1 g2
theorem af2_R (hA : CA F E s) (hG : GL E s F H locs ad N S cells slots) {a9 : Array Value} {u : Nat × ZS} (hcu : F.uc ≤ u.2.c ∧ F.uw ≤ u.2.w) {st0 : List Value} (hr : va_Run p l e (F.R kf) s m args below meth c H locs cells slots (S.c - u.2.c) (S.w - u.2.w) (F0 m pc ls st0) rest (QRL E H.size ad S u a9) (AL E ad S.n H.size))
    (kk : ∀ (b : Nat) (H1 : Heap) (locs1 : List Loc) (ad1 : Nat → Nat) (cells1 slots1 : Nat), GL E s F H1 locs1 ad1 u.2.n u.2 cells1 slots1 → GX ad N ad1 u.2.n → RA E ad1 u.2.n u.1 b → W p l e (F.R kf) s m args below meth c H1 locs1 cells1 slots1 Q (F0 m (pc + 3) ls (.ref b :: rest))) : W p l e (F.R kf) s m args below meth c H locs cells slots Q (F0 m pc ls st0) := by
  refine va_callr hr hG.2.2.1 (fun q _ h => AL_in hA hG q h) (AL_in hA hG) (fun ad1 b t H1 locs1 ht hvm hw hB hz hk hS => ?_)
  obtain ⟨g1, g2⟩ := GL_back hA hG hcu hB.2 ht hS
  exact kk b H1 locs1 ad1 _ _ g1 g2 hB.1
/-! ends -/
theorem PU_end {S0 : ZS} (hF : FTk E s F S0 S) (hG : GL E s F H locs ad N S cells slots) : (∀ t : State, t.heap = H → PU E s.heap.size F.ad S0 S ad t) ∧ cells = F.c - F.uc ∧ slots = F.w - F.uw := by
  obtain ⟨f1, f2, f3, f4, f5, f6⟩ := hF
  obtain ⟨b1, b2, b3, b4, b5, b6, b7, b8⟩ := hG
  subst b4
  exact ⟨fun t ht => ⟨by rw [ht]; exact b1, by rw [← f1]; exact b2, b5, by rw [← f2]; exact b8.1, by omega, by omega⟩, by omega, by omega⟩
theorem r2_iret (C : Cx p s m args meth c cc n own E) {S0 : ZS} {u : Int32 × ZS} (hF : FTk E s F S0 u.2) (hG : GL E s F H locs ad N S cells slots) {ty : FieldType} (hr : meth.sig.returnType = some ty) {v : Int32} (hn : narrow ty (.int v) = .int v) (hd : decode cc pc = .ok (.ireturn, 1)) (h : some (v, S) = some u) : W p l e (F.R kf) s m args below meth c H locs cells slots (MQ below (QIL E s.heap.size F.ad S0 u) args s (F.c - F.uc) (F.w - F.uw) F.A) (F0 m pc ls [.int v]) := by
  cases h
  have hl : meth.locks = false := C.2.2.2.2.2.2.2.1
  obtain ⟨e1, rfl, rfl⟩ := PU_end hF hG
  exact W.zret C.1 C.2.1 hr hn (fun t ht hW => ⟨⟨v, ad, rfl, rfl, e1 t ht⟩, by rw [← hF.1]; exact hG.2.2.1.F ht⟩) hG.2.2.1.2.2 hd hl
theorem r2_vret (C : Cx p s m args meth c cc n own E) {S0 u : ZS} (hF : FTk E s F S0 u) (hG : GL E s F H locs ad N S cells slots) (hr : meth.sig.returnType = none) (hd : decode cc pc = .ok (.return_, 1)) (h : some S = some u) : W p l e (F.R kf) s m args below meth c H locs cells slots (MQ below (QVL E s.heap.size F.ad S0 u) args s (F.c - F.uc) (F.w - F.uw) F.A) (F0 m pc ls []) := by
  cases h
  have hl : meth.locks = false := C.2.2.2.2.2.2.2.1
  obtain ⟨e1, rfl, rfl⟩ := PU_end hF hG
  exact W.vret C.1 C.2.1 hr (fun t ht hW => ⟨⟨ad, rfl, trivial, e1 t ht⟩, by rw [← hF.1]; exact hG.2.2.1.F ht⟩) hG.2.2.1.2.2 hd hl
theorem r2_aret (C : Cx p s m args meth c cc n own E) {S0 : ZS} {u : Nat × ZS} (hF : FTk E s F S0 u.2) (hG : GL E s F H locs ad N S cells slots) (ha : RA E ad N d a) {ty : FieldType} (hty : (∃ nm, ty = .object nm) ∨ ∃ t, ty = .array t) (hr : meth.sig.returnType = some ty) (hd : decode cc pc = .ok (.areturn, 1)) (h : some (d, S) = some u) : W p l e (F.R kf) s m args below meth c H locs cells slots (MQ below (QRL E s.heap.size F.ad S0 u) args s (F.c - F.uc) (F.w - F.uw) F.A) (F0 m pc ls [.ref a]) := by
  cases h
  have hl : meth.locks = false := C.2.2.2.2.2.2.2.1
  obtain ⟨e1, rfl, rfl⟩ := PU_end hF hG
  have hn : S.n = N := hG.2.2.2.1
  exact W.aret C.1 C.2.1 hr hty (Or.inr ⟨_, rfl⟩) (fun t ht hW => ⟨⟨ad, a, rfl, trivial, by rw [hn]; exact ha, e1 t ht⟩, by rw [← hF.1]; exact hG.2.2.1.F ht⟩) hG.2.2.1.2.2 hd hl
def zrL (v : Int32) (S : ZS) : Option (Int32 × ZS) := if v = 0 ∨ v = 1 then some (v, S) else none
def zcL (v : Int32) (S : ZS) : Option (Int32 × ZS) := if 0 ≤ v ∧ v ≤ 65535 then some (v, S) else none
theorem r2_zret (C : Cx p s m args meth c cc n own E) {S0 : ZS} {u : Int32 × ZS} (hF : FTk E s F S0 u.2) (hG : GL E s F H locs ad N S cells slots) (hr : meth.sig.returnType = some .boolean) {v : Int32} (hd : decode cc pc = .ok (.ireturn, 1)) (h : zrL v S = some u) : W p l e (F.R kf) s m args below meth c H locs cells slots (MQ below (QIL E s.heap.size F.ad S0 u) args s (F.c - F.uc) (F.w - F.uw) F.A) (F0 m pc ls [.int v]) := by
  obtain ⟨h0, h⟩ := ite_inv h
  exact r2_iret C hF hG hr (by rcases h0 with rfl | rfl <;> rfl) hd h
theorem r2_cret (C : Cx p s m args meth c cc n own E) {S0 : ZS} {u : Int32 × ZS} (hF : FTk E s F S0 u.2) (hG : GL E s F H locs ad N S cells slots) (hr : meth.sig.returnType = some .char) {v : Int32} (hd : decode cc pc = .ok (.ireturn, 1)) (h : zcL v S = some u) : W p l e (F.R kf) s m args below meth c H locs cells slots (MQ below (QIL E s.heap.size F.ad S0 u) args s (F.c - F.uc) (F.w - F.uw) F.A) (F0 m pc ls [.int v]) := by
  obtain ⟨h0, h⟩ := ite_inv h
  have h1 : zcP v = some v := if_pos h0
  exact r2_iret C hF hG hr (zcP_inv h1).1 hd h
/-! calls of the class -/
theorem preCl (C : Cx p s m args meth c cc n own E) (hA : CA F E s) (hG : GL E s F H locs ad N S cells slots) (av : List Value) : ∀ U : State, U.heap = H → s.WarmedH U.vm → PC E H.size av S.g av.toArray U := by
  intro U hU hW
  obtain ⟨-, -, -, -, -, hK, hN, -, hz, hAD, hO⟩ := C
  have hS := hG.2.2.1
  have hsz : E.sz ≤ H.size := Nat.le_trans hz hS.1
  refine ⟨rfl, by rw [hU], by rw [hU]; exact hsz, ?_, va_K.moved hW.alike hK, hAD, fun w hw => Nw_warm hW hw (hN w hw), ?_⟩
  · rw [hU]
    intro k q hq
    refine hG.1 k q ?_
    unfold wd
    rw [List.getElem?_append_left (List.getElem?_eq_some_iff.mp hq).1]
    exact hq
  · rw [hU]
    exact OO.step hW hz (fun a ha => hS.2.1 a (Nat.lt_of_lt_of_le ha hz) (fun h => Nat.not_le.mpr ha (hA.2 _ h))) hO
theorem AA_inL (hA : CA F E s) (hG : GL E s F H locs ad N S cells slots) : ∀ q, AA E H.size q → F.A q := by
  rintro q (⟨i, hi, rfl⟩ | h)
  · exact hG.2.1.2 _ _ (wd_cl hi)
  · exact hA.1 _ (Nat.le_trans hG.2.2.1.1 h)
theorem GL_cls (hG : GL E s F H locs ad N S cells slots) {g1 : G} {c1 w1 : Nat} {H1 : Heap} {locs1 : List Loc} (hc : c1 ≤ S.c ∧ w1 ≤ S.w) (hc2 : F.uc ≤ S.c - c1 ∧ F.uw ≤ S.w - w1) (hB : va_P E.D vwCl (wl E g1) H1) (hk : ∀ q : Nat, q < H.size → ¬ AA E H.size q → H1[q]? = H[q]?) (hS : va_S F.A s.heap H1 locs1) : GL E s F H1 locs1 ad N ((S.wg g1).use c1 w1) (cells + c1) (slots + w1) := by
  obtain ⟨b1, b2, b3, b4, b5, b6, b7, b8⟩ := hG
  have hdl : dl E ad ((S.wg g1).use c1 w1) = dl E ad S := rfl
  have e1 : ((S.wg g1).use c1 w1).c = S.c - c1 := rfl
  have e2 : ((S.wg g1).use c1 w1).w = S.w - w1 := rfl
  refine ⟨?_, ?_, hS, b4, b5, by rw [e1]; omega, by rw [e2]; omega, b8.1, hc2⟩
  · show va_P E.D vwCl (wl E g1 ++ dl E ad S) H1
    refine va_P.app hB (fun k q hq => ?_)
    have hq' : (wd E ad S)[NC + k]? = some q := by
      unfold wd
      rw [wlx_ge (by omega), Nat.add_sub_cancel_left]
      exact hq
    have hat := b1 _ q hq'
    have hlt := hat.lt
    refine hat.kept (hk q.1 hlt ?_)
    rintro (⟨i, hi, e9⟩ | hge)
    · have := b2.1 (NC + k) i q (E.ad i, cel E S.g i) hq' (wd_cl hi) e9
      omega
    · omega
  · exact Gd_D (xs := dl E ad S) b2
/-- a call of the class that returns -/
theorem run2_cl (C : Cx p s m args meth c cc n own E) (hA : CA F E s) (hls : ls.size = n) (hG : GL E s F H locs ad N S cells slots) {y : MethodName} {c' : ByteArray} {n' : Nat} {rt : Option FieldType} {k np idx nn : Nat} {As : List Value} {QQ : Nat → Array Value → State → Outcome → State → Prop} {T : u_T} {tt : Nat → FieldType}
    (hM : MG E l y c' n' rt k 0 0 (.ref (E.ad 0) :: As) S.g QQ) (hm : MLV own idx y c' n' rt np) (h6 : Cond.methodLink own idx y ∈ TB) (hKC : KC 8 y.cls T nn tt) (hlen : As.length = np) (hR : k + 1 ≤ kf ∧ 8 + (n' + 11) + 60 * k ≤ 60 * kf) (hrest : (rest.map fun v => v.category).sum ≤ 8) (hst : st = As.reverse ++ .ref (E.ad 0) :: rest) (hd : decode cc pc = .ok (.invokevirtual idx, 3)) :
    va_Run p l e (F.R kf) s m args below meth c H locs cells slots 0 0 (F0 m pc ls st) rest (QQ H.size (Value.ref (E.ad 0) :: As).toArray) (AA E H.size) := by
  have hpre := preCl C hA hG (.ref (E.ad 0) :: As)
  obtain ⟨hx, hb, hml, hown, hts, hK, hN, -⟩ := id C
  obtain ⟨h1, h2, h3, h4, h5, -⟩ := hm
  have he : (wd E ad S)[0]? = some (E.ad 0, .inr (8 + 2, fsl E S.g 0 8)) := by rw [wd_cl (by decide), cel_o (ci := 8) (by decide) (by decide)]
  have hrecv := va_recv hK hG.1 (ci := 8 + 2) hKC.1 he
  have hf : cells + 0 ≤ F.c - F.uc ∧ slots + 0 ≤ F.w - F.uw := by
    have e1 := hG.2.2.2.2.2.1
    have e2 := hG.2.2.2.2.2.2.1
    obtain ⟨q1, q2⟩ := hG.2.2.2.2.2.2.2.2
    constructor <;> omega
  exact va_runV (C := y.cls) (Ts := TB) ⟨hx, hb, hml, hown, hts⟩ (hM H.size) ⟨callB_of np hts (gwz h1) rfl rfl rfl (hts _ h2) (hts _ h6) h5 hR, hts _ h3, hts _ h4⟩ ⟨PC_blind, hrecv, hpre⟩ rfl hlen hls hst (lv_room hrest) hd hf
theorem r2_clI (C : Cx p s m args meth c cc n own E) (hA : CA F E s) (hls : ls.size = n) (hG : GL E s F H locs ad N S cells slots) {y : MethodName} {c' : ByteArray} {n' : Nat} {rt : Option FieldType} {k np idx nn : Nat} (As : List Value) (rest : List Value) {kz : Option (Int32 × G)} {T : u_T} {tt : Nat → FieldType} (hM : ∀ u, kz = some u → MI E l y c' n' rt k 0 0 (.ref (E.ad 0) :: As) S.g u) (hm : MLV own idx y c' n' rt np) (h6 : Cond.methodLink own idx y ∈ TB) (hKC : KC 8 y.cls T nn tt) (hlen : As.length = np) (hR : k + 1 ≤ kf ∧ 8 + (n' + 11) + 60 * k ≤ 60 * kf) (hrest : (rest.map fun v => v.category).sum ≤ 8) (hst : st = As.reverse ++ .ref (E.ad 0) :: rest) (hd : decode cc pc = .ok (.invokevirtual idx, 3)) {fn : Int32 → ZS → Option ρ} (h : clI S kz fn = some r)
    (kk : ∀ (x : Int32) (S1 : ZS) (H1 : Heap) (locs1 : List Loc), GL E s F H1 locs1 ad N S1 cells slots → fn x S1 = some r → W p l e (F.R kf) s m args below meth c H1 locs1 cells slots Q (F0 m (pc + 3) ls (.int x :: rest))) : W p l e (F.R kf) s m args below meth c H locs cells slots Q (F0 m pc ls st) := by
  obtain ⟨u, hu, h⟩ := bind_inv h
  refine va_calli (run2_cl C hA hls hG (hM u hu) hm h6 hKC hlen hR hrest hst hd) hG.2.2.1 (fun q _ h => AA_inL hA hG q h) (AA_inL hA hG) (fun r9 u9 t H1 locs1 ht hvm hw hB hz hk hS => ?_)
  have hw : r9 = u.1 := hw
  subst hw
  exact kk _ _ H1 locs1 (GL_cls (c1 := 0) (w1 := 0) hG ⟨Nat.zero_le _, Nat.zero_le _⟩ hG.2.2.2.2.2.2.2.2 (by rw [← ht]; exact hB) hk hS) h
theorem r2_clL (C : Cx p s m args meth c cc n own E) (hA : CA F E s) (hls : ls.size = n) (hG : GL E s F H locs ad N S cells slots) {y : MethodName} {c' : ByteArray} {n' : Nat} {rt : Option FieldType} {k np idx nn : Nat} (As : List Value) (rest : List Value) {kz : Option (Int64 × G)} {T : u_T} {tt : Nat → FieldType} (hM : ∀ u, kz = some u → ML E l y c' n' rt k 0 0 (.ref (E.ad 0) :: As) S.g u) (hm : MLV own idx y c' n' rt np) (h6 : Cond.methodLink own idx y ∈ TB) (hKC : KC 8 y.cls T nn tt) (hlen : As.length = np) (hR : k + 1 ≤ kf ∧ 8 + (n' + 11) + 60 * k ≤ 60 * kf) (hrest : (rest.map fun v => v.category).sum ≤ 8) (hst : st = As.reverse ++ .ref (E.ad 0) :: rest) (hd : decode cc pc = .ok (.invokevirtual idx, 3)) {fn : Int64 → ZS → Option ρ} (h : clI S kz fn = some r)
    (kk : ∀ (x : Int64) (S1 : ZS) (H1 : Heap) (locs1 : List Loc), GL E s F H1 locs1 ad N S1 cells slots → fn x S1 = some r → W p l e (F.R kf) s m args below meth c H1 locs1 cells slots Q (F0 m (pc + 3) ls (.long x :: rest))) : W p l e (F.R kf) s m args below meth c H locs cells slots Q (F0 m pc ls st) := by
  obtain ⟨u, hu, h⟩ := bind_inv h
  refine va_calll (run2_cl C hA hls hG (hM u hu) hm h6 hKC hlen hR hrest hst hd) hG.2.2.1 (fun q _ h => AA_inL hA hG q h) (AA_inL hA hG) (fun r9 u9 t H1 locs1 ht hvm hw hB hz hk hS => ?_)
  have hw : r9 = u.1 := hw
  subst hw
  exact kk _ _ H1 locs1 (GL_cls (c1 := 0) (w1 := 0) hG ⟨Nat.zero_le _, Nat.zero_le _⟩ hG.2.2.2.2.2.2.2.2 (by rw [← ht]; exact hB) hk hS) h
theorem r2_clD (C : Cx p s m args meth c cc n own E) (hA : CA F E s) (hls : ls.size = n) (hG : GL E s F H locs ad N S cells slots) {y : MethodName} {c' : ByteArray} {n' : Nat} {rt : Option FieldType} {k np idx nn : Nat} (As : List Value) (rest : List Value) {kz : Option (UInt64 × G)} {T : u_T} {tt : Nat → FieldType} (hM : ∀ u, kz = some u → MD E l y c' n' rt k 0 0 (.ref (E.ad 0) :: As) S.g u) (hm : MLV own idx y c' n' rt np) (h6 : Cond.methodLink own idx y ∈ TB) (hKC : KC 8 y.cls T nn tt) (hlen : As.length = np) (hR : k + 1 ≤ kf ∧ 8 + (n' + 11) + 60 * k ≤ 60 * kf) (hrest : (rest.map fun v => v.category).sum ≤ 8) (hst : st = As.reverse ++ .ref (E.ad 0) :: rest) (hd : decode cc pc = .ok (.invokevirtual idx, 3)) {fn : UInt64 → ZS → Option ρ} (h : clI S kz fn = some r)
    (kk : ∀ (x : UInt64) (S1 : ZS) (H1 : Heap) (locs1 : List Loc), GL E s F H1 locs1 ad N S1 cells slots → fn x S1 = some r → W p l e (F.R kf) s m args below meth c H1 locs1 cells slots Q (F0 m (pc + 3) ls (.double x :: rest))) : W p l e (F.R kf) s m args below meth c H locs cells slots Q (F0 m pc ls st) := by
  obtain ⟨u, hu, h⟩ := bind_inv h
  refine va_calld (run2_cl C hA hls hG (hM u hu) hm h6 hKC hlen hR hrest hst hd) hG.2.2.1 (fun q _ h => AA_inL hA hG q h) (AA_inL hA hG) (fun r9 u9 t H1 locs1 ht hvm hw hB hz hk hS => ?_)
  have hw : r9 = u.1 := hw
  subst hw
  exact kk _ _ H1 locs1 (GL_cls (c1 := 0) (w1 := 0) hG ⟨Nat.zero_le _, Nat.zero_le _⟩ hG.2.2.2.2.2.2.2.2 (by rw [← ht]; exact hB) hk hS) h
/-- .. one that writes nothing -/
theorem r2_clP (C : Cx p s m args meth c cc n own E) (hA : CA F E s) (hls : ls.size = n) (hG : GL E s F H locs ad N S cells slots) {y : MethodName} {c' : ByteArray} {n' : Nat} {rt : Option FieldType} {k np idx nn : Nat} (As : List Value) (rest : List Value) {kz : Option Int32} {T : u_T} {tt : Nat → FieldType} (hM : ∀ u, kz = some u → MI E l y c' n' rt k 0 0 (.ref (E.ad 0) :: As) S.g (u, S.g)) (hm : MLV own idx y c' n' rt np) (h6 : Cond.methodLink own idx y ∈ TB) (hKC : KC 8 y.cls T nn tt) (hlen : As.length = np) (hR : k + 1 ≤ kf ∧ 8 + (n' + 11) + 60 * k ≤ 60 * kf) (hrest : (rest.map fun v => v.category).sum ≤ 8) (hst : st = As.reverse ++ .ref (E.ad 0) :: rest) (hd : decode cc pc = .ok (.invokevirtual idx, 3)) {fn : Int32 → Option ρ} (h : kz.bind fn = some r)
    (kk : ∀ (x : Int32) (H1 : Heap) (locs1 : List Loc), GL E s F H1 locs1 ad N S cells slots → fn x = some r → W p l e (F.R kf) s m args below meth c H1 locs1 cells slots Q (F0 m (pc + 3) ls (.int x :: rest))) : W p l e (F.R kf) s m args below meth c H locs cells slots Q (F0 m pc ls st) := by
  obtain ⟨u, hu, h⟩ := bind_inv h
  refine va_calli (run2_cl C hA hls hG (hM u hu) hm h6 hKC hlen hR hrest hst hd) hG.2.2.1 (fun q _ h => AA_inL hA hG q h) (AA_inL hA hG) (fun r9 u9 t H1 locs1 ht hvm hw hB hz hk hS => ?_)
  have hw : r9 = u := hw
  subst hw
  exact kk _ H1 locs1 (GL_cls (g1 := S.g) (c1 := 0) (w1 := 0) hG ⟨Nat.zero_le _, Nat.zero_le _⟩ hG.2.2.2.2.2.2.2.2 (by rw [← ht]; exact hB) hk hS) h
theorem r2_clLP (C : Cx p s m args meth c cc n own E) (hA : CA F E s) (hls : ls.size = n) (hG : GL E s F H locs ad N S cells slots) {y : MethodName} {c' : ByteArray} {n' : Nat} {rt : Option FieldType} {k np idx nn : Nat} (As : List Value) (rest : List Value) {kz : Option Int64} {T : u_T} {tt : Nat → FieldType} (hM : ∀ u, kz = some u → ML E l y c' n' rt k 0 0 (.ref (E.ad 0) :: As) S.g (u, S.g)) (hm : MLV own idx y c' n' rt np) (h6 : Cond.methodLink own idx y ∈ TB) (hKC : KC 8 y.cls T nn tt) (hlen : As.length = np) (hR : k + 1 ≤ kf ∧ 8 + (n' + 11) + 60 * k ≤ 60 * kf) (hrest : (rest.map fun v => v.category).sum ≤ 8) (hst : st = As.reverse ++ .ref (E.ad 0) :: rest) (hd : decode cc pc = .ok (.invokevirtual idx, 3)) {fn : Int64 → Option ρ} (h : kz.bind fn = some r)
    (kk : ∀ (x : Int64) (H1 : Heap) (locs1 : List Loc), GL E s F H1 locs1 ad N S cells slots → fn x = some r → W p l e (F.R kf) s m args below meth c H1 locs1 cells slots Q (F0 m (pc + 3) ls (.long x :: rest))) : W p l e (F.R kf) s m args below meth c H locs cells slots Q (F0 m pc ls st) := by
  obtain ⟨u, hu, h⟩ := bind_inv h
  refine va_calll (run2_cl C hA hls hG (hM u hu) hm h6 hKC hlen hR hrest hst hd) hG.2.2.1 (fun q _ h => AA_inL hA hG q h) (AA_inL hA hG) (fun r9 u9 t H1 locs1 ht hvm hw hB hz hk hS => ?_)
  have hw : r9 = u := hw
  subst hw
  exact kk _ H1 locs1 (GL_cls (g1 := S.g) (c1 := 0) (w1 := 0) hG ⟨Nat.zero_le _, Nat.zero_le _⟩ hG.2.2.2.2.2.2.2.2 (by rw [← ht]; exact hB) hk hS) h
/-- a call of the class that may throw: what follows a return, what follows a throw -/
theorem r2_clX (C : Cx p s m args meth c cc n own E) (hA : CA F E s) (hls : ls.size = n) (hG : GL E s F H locs ad N S cells slots) {y : MethodName} {c' : ByteArray} {n' : Nat} {rt : Option FieldType} {k mc' ms' np idx nn : Nat} (As : List Value) (rest : List Value) {w : XR} {T : u_T} {tt : Nat → FieldType} (hC : MXr E l y c' n' rt k mc' ms' (.ref (E.ad 0) :: As) S.g w) (hm : MLV own idx y c' n' rt np) (h6 : Cond.methodLink own idx y ∈ TB) (hKC : KC 8 y.cls T nn tt) (hlen : As.length = np) (hR : k + 1 ≤ kf ∧ 8 + (n' + 11) + 60 * k ≤ 60 * kf) (hrest : (rest.map fun v => v.category).sum ≤ 8) (hbud : mc' ≤ S.c ∧ ms' ≤ S.w) (hbu2 : F.uc ≤ S.c - mc' ∧ F.uw ≤ S.w - ms') (hst : st = As.reverse ++ .ref (E.ad 0) :: rest) (hd : decode cc pc = .ok (.invokevirtual idx, 3))
    (kk : w.1 = 0 → ∀ (H1 : Heap) (locs1 : List Loc) (cells1 slots1 : Nat), GL E s F H1 locs1 ad N ((S.wg w.2.2).use mc' ms') cells1 slots1 → W p l e (F.R kf) s m args below meth c H1 locs1 cells1 slots1 Q (F0 m (pc + 3) ls (.int w.2.1 :: rest)))
    (kx : w.1 ≠ 0 → ∀ (H1 : Heap) (locs1 : List Loc) (cells1 slots1 : Nat) (q : Addr) (ce : Cell), GL E s F H1 locs1 ad N ((S.wg w.2.2).use mc' ms') cells1 slots1 → H1[q]? = some ce → ce.vm = .none → s.vm.findClass (exN w.1) = some ce.cls → vx_W p l e (F.R kf) s m args below meth c H1 locs1 cells1 slots1 Q (F0 m pc ls rest) q) : W p l e (F.R kf) s m args below meth c H locs cells slots Q (F0 m pc ls st) := by
  have hpre := preCl C hA hG (.ref (E.ad 0) :: As)
  obtain ⟨hx, hb, hml, hown, hts, hK, hN, -⟩ := id C
  obtain ⟨h1, h2, h3, h4, h5, -⟩ := hm
  have he : (wd E ad S)[0]? = some (E.ad 0, .inr (8 + 2, fsl E S.g 0 8)) := by rw [wd_cl (by decide), cel_o (ci := 8) (by decide) (by decide)]
  have hrecv := va_recv hK hG.1 (ci := 8 + 2) hKC.1 he
  have hf : cells + mc' ≤ F.c - F.uc ∧ slots + ms' ≤ F.w - F.uw := by
    have e1 := hG.2.2.2.2.2.1
    have e2 := hG.2.2.2.2.2.2.1
    constructor <;> omega
  have hr := vx_runV (C := y.cls) (Ts := TB) (p := p) (meth := meth) (e := e) (R := F.R kf) (below := below) (c := c) (locs := locs) (cells := cells) (slots := slots) (g := F0 m pc ls st) (rest := rest) ⟨hx, hb, hml, hown, hts⟩ (hC H.size) ⟨callB_of np hts (gwz h1) rfl rfl rfl (hts _ h2) (hts _ h6) h5 hR, hts _ h3, hts _ h4⟩ ⟨PC_blind, hrecv, hpre⟩ rfl hlen hls hst (lv_room hrest) hd hf
  refine vx_calli hr hG.2.2.1 (fun q _ h => AA_inL hA hG q h) (AA_inL hA hG) (fun q _ h => AA_inL hA hG q h) (fun En ce q9 u9 t H1 locs1 e1 hvm hpx hBX hz hk hS hce hcv hcl => ?_) (fun r9 u9 t H1 locs1 e1 hvm hpost hB hz hk hS => ?_)
  · obtain ⟨rfl, hBX⟩ := hBX
    exact kx hpx H1 locs1 _ _ q9 ce (GL_cls hG hbud hbu2 (by rw [← e1]; exact hBX) hk hS) hce hcv hcl
  · obtain ⟨h0, rfl⟩ := hpost
    exact kk h0 H1 locs1 _ _ (GL_cls hG hbud hbu2 (by rw [← e1]; exact hB) hk hS)
/-- .. where the law has no use for a throw -/
theorem r2_clR (C : Cx p s m args meth c cc n own E) (hA : CA F E s) (hls : ls.size = n) (hG : GL E s F H locs ad N S cells slots) {y : MethodName} {c' : ByteArray} {n' : Nat} {rt : Option FieldType} {k mc' ms' np idx nn : Nat} (As : List Value) (rest : List Value) {kz : Option XR} {T : u_T} {tt : Nat → FieldType} (hC : ∀ w, kz = some w → MXr E l y c' n' rt k mc' ms' (.ref (E.ad 0) :: As) S.g w) (hm : MLV own idx y c' n' rt np) (h6 : Cond.methodLink own idx y ∈ TB) (hKC : KC 8 y.cls T nn tt) (hlen : As.length = np) (hR : k + 1 ≤ kf ∧ 8 + (n' + 11) + 60 * k ≤ 60 * kf) (hrest : (rest.map fun v => v.category).sum ≤ 8) (hst : st = As.reverse ++ .ref (E.ad 0) :: rest) (hd : decode cc pc = .ok (.invokevirtual idx, 3)) {fn : Int32 → ZS → Option ρ} {pr : ρ → ZS} (hU : F.uc = (pr r).c ∧ F.uw = (pr r).w) (h : clR pr S mc' ms' kz fn = some r)
    (kk : ∀ (x : Int32) (S1 : ZS) (H1 : Heap) (locs1 : List Loc) (cells1 slots1 : Nat), GL E s F H1 locs1 ad N S1 cells1 slots1 → fn x S1 = some r → W p l e (F.R kf) s m args below meth c H1 locs1 cells1 slots1 Q (F0 m (pc + 3) ls (.int x :: rest))) : W p l e (F.R kf) s m args below meth c H locs cells slots Q (F0 m pc ls st) := by
  obtain ⟨hbud, h⟩ := ite_inv h
  obtain ⟨w, hw, h⟩ := bind_inv h
  obtain ⟨h0, h⟩ := ite_inv h
  obtain ⟨⟨d1, d2⟩, h⟩ := chk_inv h
  exact r2_clX C hA hls hG As rest (hC w hw) hm h6 hKC hlen hR hrest hbud ⟨by rw [hU.1]; exact d1, by rw [hU.2]; exact d2⟩ hst hd (fun _ H1 locs1 cells1 slots1 hG1 => kk _ _ H1 locs1 cells1 slots1 hG1 h) (fun hx => absurd h0 hx)
end LCALLS
