/-! the law's classes; rows over the store -/
def KP (pos : Nat) (C : String) (T : u_T) (n : Nat) (ty : Nat → FieldType) : Prop := vwCl[pos]? = some (C, T, n) ∧ (∀ w ∈ u_ws C T n, w ∈ TB) ∧ (∀ k, k < n → parseFieldDescriptor (T k).2.2.1 = some (ty k)) ∧ (∀ a, a < n → ∀ b, b < n → a ≠ b → (T a).2.1 ≠ (T b).2.1) ∧ dns pos = n
theorem KP0 : KP 0 RJ0 TJ0 4 tyJ0 := ⟨rfl, by decide +kernel, tyJ0_ok, nmJ0, by decide⟩
theorem KP1 : KP 1 RJ4 TJ4 4 tyJ4 := ⟨rfl, by decide +kernel, tyJ4_ok, nmJ4, by decide⟩
theorem KP11 : KP 11 RX9 TX9 1 tyX9 := ⟨rfl, by decide +kernel, tyX9_ok, nmX9, by decide⟩
theorem KP12 : KP 12 RX10 TX10 4 tyX10 := ⟨rfl, by decide +kernel, tyX10_ok, nmX10, by decide⟩
theorem KP13 : KP 13 RX11 TX11 4 tyX11 := ⟨rfl, by decide +kernel, tyX11_ok, nmX11, by decide⟩
theorem KP14 : KP 14 RX12 TX12 9 tyX12 := ⟨rfl, by decide +kernel, tyX12_ok, nmX12, by decide⟩
theorem KP_lt {pos : Nat} {C : String} {T : u_T} {n : Nat} {ty : Nat → FieldType} (h : KP pos C T n ty) : pos < 15 := (List.getElem?_eq_some_iff.mp h.1).1
/-- a field, by the pool's number: md 1 it may be written anywhere, 2 it is final and the class's own -/
def FP (own : String) (index pos k md : Nat) (ty : FieldType) : Prop := ∃ (C : String) (T : u_T) (n : Nat) (tt : Nat → FieldType), KP pos C T n tt ∧ k < n ∧ (md = 1 → (T k).2.2.2 = false) ∧ tt k = ty ∧ (md = 2 → (T k).2.2.2 = true ∧ (T k).1 = own) ∧ Cond.fieldLink own index (T k).1 (T k).2.1 (T k).2.2.1 ∈ TB
/-! the pure side's words over the store: a reference that isn't an object of the wanted kind has no answer -/
def okO (S : ZS) (c kind : Nat) : Bool := c % 2 == 1 && decide (c / 2 < S.n) && S.K (c / 2) == kind
def okA (S : ZS) (c base : Nat) : Bool := c % 2 == 1 && decide (c / 2 < S.n) && decide (base ≤ S.K (c / 2)) && decide (S.K (c / 2) < base + 100000)
def gI {ρ : Type} (S : ZS) (c pos k : Nat) (f : Int32 → Option ρ) : Option ρ := if okO S c pos = true then f (S.i (c / 2) k) else none
def gN {ρ : Type} (S : ZS) (c pos k : Nat) (f : Nat → Option ρ) : Option ρ := if okO S c pos = true ∧ S.r (c / 2) k ≠ 0 then f (S.r (c / 2) k) else none
def gV {ρ : Type} (S : ZS) (c pos k : Nat) (x : Option ρ) (f : Nat → Option ρ) : Option ρ := if okO S c pos = true then (if S.r (c / 2) k = 0 then x else f (S.r (c / 2) k)) else none
def pI {ρ : Type} (S : ZS) (c pos k : Nat) (v : Int32) (f : ZS → Option ρ) : Option ρ := if okO S c pos = true then f (S.wi (c / 2) k v) else none
def pR {ρ : Type} (S : ZS) (c pos k d : Nat) (f : ZS → Option ρ) : Option ρ := if okO S c pos = true then f (S.wr (c / 2) k d) else none
def aL {ρ : Type} (S : ZS) (c base : Nat) (f : Int32 → Option ρ) : Option ρ := if okA S c base = true then f (nI (S.K (c / 2) - base)) else none
def inA (S : ZS) (c base : Nat) (j : Int32) : Bool := okA S c base && decide (¬ (j < 0 ∨ S.K (c / 2) - base ≤ j.toNatClampNeg))
def aG {ρ : Type} (S : ZS) (c base : Nat) (j : Int32) (f : Int32 → Option ρ) : Option ρ := if inA S c base j = true then f (S.i (c / 2) j.toNatClampNeg) else none
def aP {ρ : Type} (S : ZS) (c base : Nat) (j v : Int32) (f : ZS → Option ρ) : Option ρ := if inA S c base j = true then f (S.wi (c / 2) j.toNatClampNeg v) else none
def aN {ρ : Type} (S : ZS) (c base : Nat) (j : Int32) (f : Nat → Option ρ) : Option ρ := if inA S c base j = true ∧ S.r (c / 2) j.toNatClampNeg ≠ 0 then f (S.r (c / 2) j.toNatClampNeg) else none
/-- an element: an object of a class, or (kind 100000) an int row -/
def okE (S : ZS) (d kind : Nat) : Bool := if kind < 15 then okO S d kind else okA S d kind
def aR {ρ : Type} (S : ZS) (c base kind : Nat) (j : Int32) (d : Nat) (f : ZS → Option ρ) : Option ρ := if inA S c base j = true ∧ okE S d kind = true then f (S.wr (c / 2) j.toNatClampNeg d) else none
/-- the room that a method leaves at its end is no more than what is left now -/
def chk {ρ : Type} (pr : ρ → ZS) (S : ZS) (x : Option ρ) : Option ρ := x.bind fun r => if (pr r).c ≤ S.c ∧ (pr r).w ≤ S.w then some r else none
/-- the class's answer, where it answers (a thrown one has no answer here) -/
def clI {α ρ : Type} (S : ZS) (z : Option (α × G)) (f : α → ZS → Option ρ) : Option ρ := z.bind fun u => f u.1 (S.wg u.2)
def clR {ρ : Type} (pr : ρ → ZS) (S : ZS) (a b : Nat) (z : Option XR) (f : Int32 → ZS → Option ρ) : Option ρ := if a ≤ S.c ∧ b ≤ S.w then z.bind fun w => if w.1 = 0 then chk pr ((S.wg w.2.2).use a b) (f w.2.1 ((S.wg w.2.2).use a b)) else none else none
/-- a call of the law's own: its answer, the store behind it -/
def b2 {α ρ : Type} (pr : ρ → ZS) (z : Option (α × ZS)) (f : α → ZS → Option ρ) : Option ρ := z.bind fun u => chk pr u.2 (f u.1 u.2)
def b1 {ρ : Type} (pr : ρ → ZS) (z : Option ZS) (f : ZS → Option ρ) : Option ρ := z.bind fun u => chk pr u (f u)
def rcv {ρ : Type} (S : ZS) (c pos : Nat) (x : Option ρ) : Option ρ := if okO S c pos = true then x else none
theorem ite_inv {ρ : Type} {P : Prop} [Decidable P] {x : Option ρ} {r : ρ} (h : (if P then x else none) = some r) : P ∧ x = some r := by
  by_cases hc : P
  · rw [if_pos hc] at h; exact ⟨hc, h⟩
  · rw [if_neg hc] at h; cases h
theorem chk_inv {ρ : Type} {pr : ρ → ZS} {S : ZS} {x : Option ρ} {r : ρ} (h : chk pr S x = some r) : ((pr r).c ≤ S.c ∧ (pr r).w ≤ S.w) ∧ x = some r := by
  unfold chk at h
  cases x with
  | none => cases h
  | some v =>
    by_cases hc : (pr v).c ≤ S.c ∧ (pr v).w ≤ S.w
    · have h : (if (pr v).c ≤ S.c ∧ (pr v).w ≤ S.w then some v else none) = some r := h
      rw [if_pos hc] at h
      cases h
      exact ⟨hc, rfl⟩
    · have h : (if (pr v).c ≤ S.c ∧ (pr v).w ≤ S.w then some v else none) = some r := h
      rw [if_neg hc] at h
      cases h
theorem okO_inv {S : ZS} {c kind : Nat} (h : okO S c kind = true) : c % 2 = 1 ∧ c / 2 < S.n ∧ S.K (c / 2) = kind := by
  unfold okO at h
  simpa [and_assoc] using h
theorem okA_inv {S : ZS} {c base : Nat} (h : okA S c base = true) : c % 2 = 1 ∧ c / 2 < S.n ∧ ∃ m, S.K (c / 2) = base + m ∧ m < 100000 := by
  unfold okA at h
  simp only [Bool.and_eq_true, beq_iff_eq, decide_eq_true_eq] at h
  obtain ⟨⟨⟨h1, h2⟩, h3⟩, h4⟩ := h
  exact ⟨h1, h2, S.K (c / 2) - base, by omega, by omega⟩
theorem inA_inv {S : ZS} {c base : Nat} {j : Int32} (h : inA S c base j = true) : c % 2 = 1 ∧ c / 2 < S.n ∧ ∃ m, S.K (c / 2) = base + m ∧ m < 100000 ∧ vp_in j m := by
  unfold inA at h
  simp only [Bool.and_eq_true, decide_eq_true_eq] at h
  obtain ⟨h0, h1⟩ := h
  obtain ⟨a, b, m, c1, c2⟩ := okA_inv h0
  refine ⟨a, b, m, c1, c2, ?_⟩
  rw [c1, Nat.add_sub_cancel_left] at h1
  exact h1
theorem as_self (vm : Vm) (c : ClassId) : vm.assignable c c = true := by
  show vm.assignableAux (255 + 1) c c = true
  rw [Vm.assignableAux]
  simp only [beq_self_eq_true, Bool.true_or]
section LROWS
variable {p : Program} {l : Launch} {e : Env} {kf : Nat} {F : FT} {s : State} {m : MethodId} {args : Array Value} {below : List Frame} {meth : Method} {c : Code} {H : Heap} {locs : List Loc} {cells slots : Nat} {Q : State → Prop} {cc : ByteArray} {n : Nat} {own : String} {E : EV} {ad : Nat → Nat} {N : Nat} {S : ZS} {pc : Nat} {ls : Array Slot} {rest st : List Value} {ρ : Type} {r : ρ} {d a : Nat}
theorem GL_at (hG : GL E s F H locs ad N S cells slots) (ha : RA E ad N d a) (h1 : d % 2 = 1) (h2 : d / 2 < S.n) : (wd E ad S)[NC + d / 2]? = some (a, dcel E ad S (d / 2)) := by
  rw [ha.odd h1, wd_at h2]
theorem r2_gI (C : Cx p s m args meth c cc n own E) (hG : GL E s F H locs ad N S cells slots) (ha : RA E ad N d a) {index pos k md : Nat} {ty : FieldType} (f : FP own index pos k md ty) (hs : dsk pos k = 0) (hd : decode cc pc = .ok (.getfield index, 3)) {fn : Int32 → Option ρ} (h : gI S d pos k fn = some r)
    (kk : ∀ x : Int32, fn x = some r → W p l e (F.R kf) s m args below meth c H locs cells slots Q (F0 m (pc + 3) ls (.int x :: rest))) : W p l e (F.R kf) s m args below meth c H locs cells slots Q (F0 m pc ls (.ref a :: rest)) := by
  obtain ⟨hx, hb, -, hown, hts, hK, hN, -⟩ := C
  obtain ⟨cn, T, nn, tt, hKP, hk', -, -, -, hl⟩ := f
  obtain ⟨h0, h⟩ := ite_inv h
  obtain ⟨h1, h2, h3⟩ := okO_inv h0
  have hlt := KP_lt hKP
  obtain ⟨hc, hin, -, -, hn⟩ := hKP
  have he : (wd E ad S)[NC + d / 2]? = some (a, .inr (pos, dfs E ad S (d / 2) pos)) := by rw [GL_at hG ha h1 h2, dcel_o h3 hlt]
  have hv : (dfs E ad S (d / 2) pos)[k]? = some (.int (S.i (d / 2) k)) := by
    rw [dfs_at (by omega)]
    unfold dval
    rw [hs, if_neg (by decide)]
  exact va_get (D := E.D) (ci := pos) (C := cn) (T := T) (N := nn) hx hb hts hin hown hK hG.1 _ he hc k hk' (hts _ hl) (fun _ h9 => h9) hv hd (kk _ h)
theorem r2_gN (C : Cx p s m args meth c cc n own E) (hG : GL E s F H locs ad N S cells slots) (ha : RA E ad N d a) {index pos k md : Nat} {ty : FieldType} (f : FP own index pos k md ty) (hs : dsk pos k = 1) (hd : decode cc pc = .ok (.getfield index, 3)) {fn : Nat → Option ρ} (h : gN S d pos k fn = some r)
    (kk : ∀ x b : Nat, RA E ad N x b → fn x = some r → W p l e (F.R kf) s m args below meth c H locs cells slots Q (F0 m (pc + 3) ls (.ref b :: rest))) : W p l e (F.R kf) s m args below meth c H locs cells slots Q (F0 m pc ls (.ref a :: rest)) := by
  obtain ⟨hx, hb, -, hown, hts, hK, hN, -⟩ := C
  obtain ⟨cn, T, nn, tt, hKP, hk', -, -, -, hl⟩ := f
  obtain ⟨⟨h0, hz⟩, h⟩ := ite_inv h
  obtain ⟨h1, h2, h3⟩ := okO_inv h0
  have hlt := KP_lt hKP
  obtain ⟨hc, hin, -, -, hn⟩ := hKP
  have he : (wd E ad S)[NC + d / 2]? = some (a, .inr (pos, dfs E ad S (d / 2) pos)) := by rw [GL_at hG ha h1 h2, dcel_o h3 hlt]
  have hr : RA E ad N (S.r (d / 2) k) (rA E ad (S.r (d / 2) k)) := RA.of hz (by rw [← hG.2.2.2.1]; exact hG.2.2.2.2.1 _ _ h2)
  have hv : (dfs E ad S (d / 2) pos)[k]? = some (.ref (rA E ad (S.r (d / 2) k))) := by
    rw [dfs_at (by omega)]
    unfold dval
    rw [hs, if_pos rfl, RA_rv hr]
  exact va_get (D := E.D) (ci := pos) (C := cn) (T := T) (N := nn) hx hb hts hin hown hK hG.1 _ he hc k hk' (hts _ hl) (fun _ h9 => h9) hv hd (kk _ _ hr h)
theorem r2_gV (C : Cx p s m args meth c cc n own E) (hG : GL E s F H locs ad N S cells slots) (ha : RA E ad N d a) {index pos k md : Nat} {ty : FieldType} (f : FP own index pos k md ty) (hs : dsk pos k = 1) (hd : decode cc pc = .ok (.getfield index, 3)) {x0 : Option ρ} {fn : Nat → Option ρ} (h : gV S d pos k x0 fn = some r)
    (k0 : x0 = some r → W p l e (F.R kf) s m args below meth c H locs cells slots Q (F0 m (pc + 3) ls (.null :: rest)))
    (kk : ∀ x b : Nat, RA E ad N x b → fn x = some r → W p l e (F.R kf) s m args below meth c H locs cells slots Q (F0 m (pc + 3) ls (.ref b :: rest))) : W p l e (F.R kf) s m args below meth c H locs cells slots Q (F0 m pc ls (.ref a :: rest)) := by
  obtain ⟨hx, hb, -, hown, hts, hK, hN, -⟩ := C
  obtain ⟨cn, T, nn, tt, hKP, hk', -, -, -, hl⟩ := f
  obtain ⟨h0, h⟩ := ite_inv h
  obtain ⟨h1, h2, h3⟩ := okO_inv h0
  have hlt := KP_lt hKP
  obtain ⟨hc, hin, -, -, hn⟩ := hKP
  have he : (wd E ad S)[NC + d / 2]? = some (a, .inr (pos, dfs E ad S (d / 2) pos)) := by rw [GL_at hG ha h1 h2, dcel_o h3 hlt]
  have hv : (dfs E ad S (d / 2) pos)[k]? = some (rv E ad (S.r (d / 2) k)) := by
    rw [dfs_at (by omega)]
    unfold dval
    rw [hs, if_pos rfl]
  refine va_get (D := E.D) (ci := pos) (C := cn) (T := T) (N := nn) hx hb hts hin hown hK hG.1 _ he hc k hk' (hts _ hl) (fun _ h9 => h9) hv hd ?_
  by_cases hz : S.r (d / 2) k = 0
  · rw [if_pos hz] at h
    rw [hz, rv_0]
    exact k0 h
  · rw [if_neg hz] at h
    have hr : RA E ad N (S.r (d / 2) k) (rA E ad (S.r (d / 2) k)) := RA.of hz (by rw [← hG.2.2.2.1]; exact hG.2.2.2.2.1 _ _ h2)
    rw [RA_rv hr]
    exact kk _ _ hr h
theorem GL_set {S1 : ZS} {o : Nat} {y : va_E} {H1 : Heap} {locs1 : List Loc} (hG : GL E s F H locs ad N S cells slots) (hg : S1.g = S.g) (hn : S1.n = S.n) (hcw : S1.c = S.c ∧ S1.w = S.w) (hw : WF S1) (ho : o < S.n) (hy : dcel E ad S1 o = y) (hs : ∀ i, i ≠ o → dcel E ad S1 i = dcel E ad S i)
    (a1 : va_P E.D vwCl ((wd E ad S).set (NC + o) (ad o, y)) H1) (a2 : va_D F.A ((wd E ad S).set (NC + o) (ad o, y))) (a3 : va_S F.A s.heap H1 locs1) : GL E s F H1 locs1 ad N S1 cells slots := by
  rw [wd_cong hg hn ho hy hs] at a1 a2
  obtain ⟨-, -, -, b4, -, b6, b7, b8⟩ := hG
  exact ⟨a1, a2, a3, hn.trans b4, hw, by rw [hcw.1]; exact b6, by rw [hcw.2]; exact b7, b8.1, by rw [hcw.1]; exact b8.2.1, by rw [hcw.2]; exact b8.2.2⟩
theorem r2_pI (C : Cx p s m args meth c cc n own E) (hG : GL E s F H locs ad N S cells slots) (ha : RA E ad N d a) {index pos k md : Nat} {ty : FieldType} {v : Int32} (f : FP own index pos k md ty) (hmd : md = 1 ∨ (md = 2 ∧ meth.name = "<init>")) (hs : dsk pos k = 0) (hnw : narrow ty (.int v) = .int v) (hfit : fits ty (.int v) = true) (hd : decode cc pc = .ok (.putfield index, 3)) {fn : ZS → Option ρ} (h : pI S d pos k v fn = some r)
    (kk : ∀ (H1 : Heap) (locs1 : List Loc) (S1 : ZS), GL E s F H1 locs1 ad N S1 cells slots → fn S1 = some r → W p l e (F.R kf) s m args below meth c H1 locs1 cells slots Q (F0 m (pc + 3) ls rest)) : W p l e (F.R kf) s m args below meth c H locs cells slots Q (F0 m pc ls (.int v :: .ref a :: rest)) := by
  obtain ⟨hx, hb, -, hown, hts, hK, hN, -⟩ := C
  obtain ⟨cn, T, nn, tt, hKP, hk', hf9, htt, hdecl, hl⟩ := f
  obtain ⟨h0, h⟩ := ite_inv h
  obtain ⟨h1, h2, h3⟩ := okO_inv h0
  have hlt := KP_lt hKP
  obtain ⟨hc, hin, hty, hnm, hn⟩ := hKP
  have he : (wd E ad S)[NC + d / 2]? = some (a, .inr (pos, dfs E ad S (d / 2) pos)) := by rw [GL_at hG ha h1 h2, dcel_o h3 hlt]
  have hp9 : parseFieldDescriptor (T k).2.2.1 = some ty := by rw [hty k hk', htt]
  have fin' : ∀ (H1 : Heap) (locs1 : List Loc), va_P E.D vwCl ((wd E ad S).set (NC + d / 2) (a, .inr (pos, (dfs E ad S (d / 2) pos).set k (.int v)))) H1 → va_D F.A ((wd E ad S).set (NC + d / 2) (a, .inr (pos, (dfs E ad S (d / 2) pos).set k (.int v)))) → va_S F.A s.heap H1 locs1 → W p l e (F.R kf) s m args below meth c H1 locs1 cells slots Q (F0 m (pc + 3) ls rest) := by
    intro H1 locs1 a1 a2 a3
    rw [ha.odd h1] at a1 a2
    refine kk H1 locs1 _ (GL_set (S1 := S.wi (d / 2) k v) hG rfl rfl ⟨rfl, rfl⟩ hG.2.2.2.2.1.wi h2 ?_ (fun i hi => dcel_cong rfl (wi_ne hi) rfl) a1 a2 a3) h
    rw [dcel_o (show (S.wi (d / 2) k v).K (d / 2) = pos from h3) hlt, ← dfs_wi hs]
  rcases hmd with h8 | ⟨h8, hi⟩
  · exact va_put (D := E.D) (ci := pos) (C := cn) (T := T) (N := nn) hx hb hts hin tt hty hnm hown hK hG.1 hG.2.1 hG.2.2.1 _ he hc k hk' (hts _ hl) (fun _ h9 => h9) (hf9 h8) hp9 hnw hfit (by rw [dfs_len]; omega) hd fin'
  · exact va_putF (D := E.D) (ci := pos) (C := cn) (T := T) (N := nn) hx hb hts hin tt hty hnm hown hK hG.1 hG.2.1 hG.2.2.1 _ he hc k hk' (hts _ hl) (fun _ h9 => h9) (hdecl h8).1 hi (hdecl h8).2 hp9 hnw hfit (by rw [dfs_len]; omega) hd fin'
/-- a reference put into a field: null (0) or one that leads somewhere -/
def RV (E : EV) (ad : Nat → Nat) (n x : Nat) (v : Value) : Prop := v = rv E ad x ∧ rk n x
theorem RV_0 : RV E ad N 0 .null := ⟨rfl, fun h => by cases h⟩
theorem RA.RV {x b : Nat} (h : RA E ad N x b) : RV E ad N x (.ref b) := ⟨(RA_rv h).symm, h.2.2⟩
theorem r2_pR (C : Cx p s m args meth c cc n own E) (hG : GL E s F H locs ad N S cells slots) (ha : RA E ad N d a) {index pos k x md : Nat} {ty : FieldType} {v : Value} (hv9 : RV E ad N x v) (f : FP own index pos k md ty) (hmd : md = 1 ∨ (md = 2 ∧ meth.name = "<init>")) (hs : dsk pos k = 1) (hnw : narrow ty v = v) (hfit : fits ty v = true) (hd : decode cc pc = .ok (.putfield index, 3)) {fn : ZS → Option ρ} (h : pR S d pos k x fn = some r)
    (kk : ∀ (H1 : Heap) (locs1 : List Loc) (S1 : ZS), GL E s F H1 locs1 ad N S1 cells slots → fn S1 = some r → W p l e (F.R kf) s m args below meth c H1 locs1 cells slots Q (F0 m (pc + 3) ls rest)) : W p l e (F.R kf) s m args below meth c H locs cells slots Q (F0 m pc ls (v :: .ref a :: rest)) := by
  obtain ⟨hx, hb, -, hown, hts, hK, hN, -⟩ := C
  obtain ⟨cn, T, nn, tt, hKP, hk', hf9, htt, hdecl, hl⟩ := f
  obtain ⟨h0, h⟩ := ite_inv h
  obtain ⟨h1, h2, h3⟩ := okO_inv h0
  have hlt := KP_lt hKP
  obtain ⟨hc, hin, hty, hnm, hn⟩ := hKP
  have he : (wd E ad S)[NC + d / 2]? = some (a, .inr (pos, dfs E ad S (d / 2) pos)) := by rw [GL_at hG ha h1 h2, dcel_o h3 hlt]
  have hp9 : parseFieldDescriptor (T k).2.2.1 = some ty := by rw [hty k hk', htt]
  have fin' : ∀ (H1 : Heap) (locs1 : List Loc), va_P E.D vwCl ((wd E ad S).set (NC + d / 2) (a, .inr (pos, (dfs E ad S (d / 2) pos).set k v))) H1 → va_D F.A ((wd E ad S).set (NC + d / 2) (a, .inr (pos, (dfs E ad S (d / 2) pos).set k v))) → va_S F.A s.heap H1 locs1 → W p l e (F.R kf) s m args below meth c H1 locs1 cells slots Q (F0 m (pc + 3) ls rest) := by
    intro H1 locs1 a1 a2 a3
    rw [ha.odd h1] at a1 a2
    refine kk H1 locs1 _ (GL_set (S1 := S.wr (d / 2) k x) hG rfl rfl ⟨rfl, rfl⟩ (hG.2.2.2.2.1.wr (by rw [hG.2.2.2.1]; exact hv9.2)) h2 ?_ (fun i hi => dcel_cong rfl rfl (wr_ne hi)) a1 a2 a3) h
    rw [dcel_o (show (S.wr (d / 2) k x).K (d / 2) = pos from h3) hlt, ← dfs_wr hs, hv9.1]
  rcases hmd with h8 | ⟨h8, hi⟩
  · exact va_put (D := E.D) (ci := pos) (C := cn) (T := T) (N := nn) hx hb hts hin tt hty hnm hown hK hG.1 hG.2.1 hG.2.2.1 _ he hc k hk' (hts _ hl) (fun _ h9 => h9) (hf9 h8) hp9 hnw hfit (by rw [dfs_len]; omega) hd fin'
  · exact va_putF (D := E.D) (ci := pos) (C := cn) (T := T) (N := nn) hx hb hts hin tt hty hnm hown hK hG.1 hG.2.1 hG.2.2.1 _ he hc k hk' (hts _ hl) (fun _ h9 => h9) (hdecl h8).1 hi (hdecl h8).2 hp9 hnw hfit (by rw [dfs_len]; omega) hd fin'
theorem r2_gAI (C : Cx p s m args meth c cc n own E) (hG : GL E s F H locs ad N S cells slots) (ha : RA E ad N d a) {j : Int32} (hd : decode cc pc = .ok (.iaload, 1)) {fn : Int32 → Option ρ} (h : aG S d 100000 j fn = some r)
    (kk : ∀ x : Int32, fn x = some r → W p l e (F.R kf) s m args below meth c H locs cells slots Q (F0 m (pc + 1) ls (.int x :: rest))) : W p l e (F.R kf) s m args below meth c H locs cells slots Q (F0 m pc ls (.int j :: .ref a :: rest)) := by
  obtain ⟨hx, hb, -, hown, hts, hK, -⟩ := C
  obtain ⟨h0, h⟩ := ite_inv h
  obtain ⟨h1, h2, mm, h3, h4, hin⟩ := inA_inv h0
  have he : (wd E ad S)[NC + d / 2]? = some (a, .inl (E.tI, mm, .inl (S.i (d / 2)))) := by rw [GL_at hG ha h1 h2, dcel_i h3 h4]
  exact va_iald hx hb hK hG.1 _ 0 he rfl hin hd (kk _ h)
theorem r2_gAB (C : Cx p s m args meth c cc n own E) (hG : GL E s F H locs ad N S cells slots) (ha : RA E ad N d a) {j : Int32} (hd : decode cc pc = .ok (.baload, 1)) {fn : Int32 → Option ρ} (h : aG S d 200000 j fn = some r)
    (kk : ∀ x : Int32, fn x = some r → W p l e (F.R kf) s m args below meth c H locs cells slots Q (F0 m (pc + 1) ls (.int x :: rest))) : W p l e (F.R kf) s m args below meth c H locs cells slots Q (F0 m pc ls (.int j :: .ref a :: rest)) := by
  obtain ⟨hx, hb, -, hown, hts, hK, -⟩ := C
  obtain ⟨h0, h⟩ := ite_inv h
  obtain ⟨h1, h2, mm, h3, h4, hin⟩ := inA_inv h0
  have he : (wd E ad S)[NC + d / 2]? = some (a, .inl (E.tB, mm, .inl (S.i (d / 2)))) := by rw [GL_at hG ha h1 h2, dcel_b h3 h4]
  exact va_bald hx hb hK hG.1 _ 1 he rfl hin hd (kk _ h)
theorem r2_gAZ (C : Cx p s m args meth c cc n own E) (hG : GL E s F H locs ad N S cells slots) (ha : RA E ad N d a) {j : Int32} (hd : decode cc pc = .ok (.baload, 1)) {fn : Int32 → Option ρ} (h : aG S d 300000 j fn = some r)
    (kk : ∀ x : Int32, fn x = some r → W p l e (F.R kf) s m args below meth c H locs cells slots Q (F0 m (pc + 1) ls (.int x :: rest))) : W p l e (F.R kf) s m args below meth c H locs cells slots Q (F0 m pc ls (.int j :: .ref a :: rest)) := by
  obtain ⟨hx, hb, -, hown, hts, hK, -⟩ := C
  obtain ⟨h0, h⟩ := ite_inv h
  obtain ⟨h1, h2, mm, h3, h4, hin⟩ := inA_inv h0
  have he : (wd E ad S)[NC + d / 2]? = some (a, .inl (E.tX 0, mm, .inl (S.i (d / 2)))) := by rw [GL_at hG ha h1 h2, dcel_z h3 h4]
  exact va_zald hx hb hK hG.1 _ 2 he rfl hin hd (kk _ h)
theorem r2_pAI (C : Cx p s m args meth c cc n own E) (hG : GL E s F H locs ad N S cells slots) (ha : RA E ad N d a) {j v : Int32} (hd : decode cc pc = .ok (.iastore, 1)) {fn : ZS → Option ρ} (h : aP S d 100000 j v fn = some r)
    (kk : ∀ (H1 : Heap) (locs1 : List Loc) (S1 : ZS), GL E s F H1 locs1 ad N S1 cells slots → fn S1 = some r → W p l e (F.R kf) s m args below meth c H1 locs1 cells slots Q (F0 m (pc + 1) ls rest)) : W p l e (F.R kf) s m args below meth c H locs cells slots Q (F0 m pc ls (.int v :: .int j :: .ref a :: rest)) := by
  obtain ⟨hx, hb, -, hown, hts, hK, -⟩ := C
  obtain ⟨h0, h⟩ := ite_inv h
  obtain ⟨h1, h2, mm, h3, h4, hin⟩ := inA_inv h0
  have he : (wd E ad S)[NC + d / 2]? = some (a, .inl (E.tI, mm, .inl (S.i (d / 2)))) := by rw [GL_at hG ha h1 h2, dcel_i h3 h4]
  refine va_iast hx hb hK hG.1 hG.2.1 hG.2.2.1 _ 0 he rfl hin hd (fun H1 locs1 a1 a2 a3 => ?_)
  rw [ha.odd h1] at a1 a2
  refine kk H1 locs1 _ (GL_set (S1 := S.wi (d / 2) j.toNatClampNeg v) hG rfl rfl ⟨rfl, rfl⟩ hG.2.2.2.2.1.wi h2 ?_ (fun i hi => dcel_cong rfl (wi_ne hi) rfl) a1 a2 a3) h
  rw [dcel_i (show (S.wi (d / 2) j.toNatClampNeg v).K (d / 2) = 100000 + mm from h3) h4, wi_eq]
theorem r2_pAB (C : Cx p s m args meth c cc n own E) (hG : GL E s F H locs ad N S cells slots) (ha : RA E ad N d a) {j v : Int32} (hd : decode cc pc = .ok (.bastore, 1)) {fn : ZS → Option ρ} (h : aP S d 200000 j v.toInt8.toInt32 fn = some r)
    (kk : ∀ (H1 : Heap) (locs1 : List Loc) (S1 : ZS), GL E s F H1 locs1 ad N S1 cells slots → fn S1 = some r → W p l e (F.R kf) s m args below meth c H1 locs1 cells slots Q (F0 m (pc + 1) ls rest)) : W p l e (F.R kf) s m args below meth c H locs cells slots Q (F0 m pc ls (.int v :: .int j :: .ref a :: rest)) := by
  obtain ⟨hx, hb, -, hown, hts, hK, -⟩ := C
  obtain ⟨h0, h⟩ := ite_inv h
  obtain ⟨h1, h2, mm, h3, h4, hin⟩ := inA_inv h0
  have he : (wd E ad S)[NC + d / 2]? = some (a, .inl (E.tB, mm, .inl (S.i (d / 2)))) := by rw [GL_at hG ha h1 h2, dcel_b h3 h4]
  refine va_bast hx hb hK hG.1 hG.2.1 hG.2.2.1 _ 1 he rfl hin hd (fun H1 locs1 a1 a2 a3 => ?_)
  rw [ha.odd h1, vp_nar_byte] at a1 a2
  refine kk H1 locs1 _ (GL_set (S1 := S.wi (d / 2) j.toNatClampNeg v.toInt8.toInt32) hG rfl rfl ⟨rfl, rfl⟩ hG.2.2.2.2.1.wi h2 ?_ (fun i hi => dcel_cong rfl (wi_ne hi) rfl) a1 a2 a3) h
  rw [dcel_b (show (S.wi (d / 2) j.toNatClampNeg v.toInt8.toInt32).K (d / 2) = 200000 + mm from h3) h4, wi_eq]
theorem r2_pAZ (C : Cx p s m args meth c cc n own E) (hG : GL E s F H locs ad N S cells slots) (ha : RA E ad N d a) {j v : Int32} (hnz : vp_nar .boolean v = v) (hd : decode cc pc = .ok (.bastore, 1)) {fn : ZS → Option ρ} (h : aP S d 300000 j v fn = some r)
    (kk : ∀ (H1 : Heap) (locs1 : List Loc) (S1 : ZS), GL E s F H1 locs1 ad N S1 cells slots → fn S1 = some r → W p l e (F.R kf) s m args below meth c H1 locs1 cells slots Q (F0 m (pc + 1) ls rest)) : W p l e (F.R kf) s m args below meth c H locs cells slots Q (F0 m pc ls (.int v :: .int j :: .ref a :: rest)) := by
  obtain ⟨hx, hb, -, hown, hts, hK, -⟩ := C
  obtain ⟨h0, h⟩ := ite_inv h
  obtain ⟨h1, h2, mm, h3, h4, hin⟩ := inA_inv h0
  have he : (wd E ad S)[NC + d / 2]? = some (a, .inl (E.tX 0, mm, .inl (S.i (d / 2)))) := by rw [GL_at hG ha h1 h2, dcel_z h3 h4]
  refine va_zast hx hb hK hG.1 hG.2.1 hG.2.2.1 _ 2 he rfl hin hd (fun H1 locs1 a1 a2 a3 => ?_)
  rw [ha.odd h1, hnz] at a1 a2
  refine kk H1 locs1 _ (GL_set (S1 := S.wi (d / 2) j.toNatClampNeg v) hG rfl rfl ⟨rfl, rfl⟩ hG.2.2.2.2.1.wi h2 ?_ (fun i hi => dcel_cong rfl (wi_ne hi) rfl) a1 a2 a3) h
  rw [dcel_z (show (S.wi (d / 2) j.toNatClampNeg v).K (d / 2) = 300000 + mm from h3) h4, wi_eq]
/-- a row's length, of each kind -/
theorem r2_len (C : Cx p s m args meth c cc n own E) (hG : GL E s F H locs ad N S cells slots) (ha : RA E ad N d a) (base : Nat) (hbs : base = 100000 ∨ base = 200000 ∨ base = 300000 ∨ base = 400000 ∨ base = 500000) (hd : decode cc pc = .ok (.arraylength, 1)) {fn : Int32 → Option ρ} (h : aL S d base fn = some r)
    (kk : ∀ x : Int32, fn x = some r → W p l e (F.R kf) s m args below meth c H locs cells slots Q (F0 m (pc + 1) ls (.int x :: rest))) : W p l e (F.R kf) s m args below meth c H locs cells slots Q (F0 m pc ls (.ref a :: rest)) := by
  obtain ⟨hx, hb, -, hown, hts, hK, -⟩ := C
  obtain ⟨h0, h⟩ := ite_inv h
  obtain ⟨h1, h2, mm, h3, h4⟩ := okA_inv h0
  have hv : nI (S.K (d / 2) - base) = Int32.ofNat mm := by rw [h3, Nat.add_sub_cancel_left]; rfl
  have he := GL_at hG ha h1 h2
  have h' : fn (Int32.ofNat mm) = some r := by rw [← hv]; exact h
  rcases hbs with rfl | rfl | rfl | rfl | rfl
  · rw [dcel_i h3 h4] at he
    exact va_alen (v := Int32.ofNat mm) hx hb hK hG.1 _ 0 he rfl rfl hd (kk _ h')
  · rw [dcel_b h3 h4] at he
    exact va_alen (v := Int32.ofNat mm) hx hb hK hG.1 _ 1 he rfl rfl hd (kk _ h')
  · rw [dcel_z h3 h4] at he
    exact va_alen (v := Int32.ofNat mm) hx hb hK hG.1 _ 2 he rfl rfl hd (kk _ h')
  · rw [dcel_a h3 h4] at he
    exact va_alen (v := Int32.ofNat mm) hx hb hK hG.1 _ 3 he rfl rfl hd (kk _ h')
  · rw [dcel_q h3 h4] at he
    exact va_alen (v := Int32.ofNat mm) hx hb hK hG.1 _ 4 he rfl rfl hd (kk _ h')
/-- an element of a row of int rows -/
theorem r2_gAA (C : Cx p s m args meth c cc n own E) (hG : GL E s F H locs ad N S cells slots) (ha : RA E ad N d a) {j : Int32} (hd : decode cc pc = .ok (.aaload, 1)) {fn : Nat → Option ρ} (h : aN S d 400000 j fn = some r)
    (kk : ∀ x b : Nat, RA E ad N x b → fn x = some r → W p l e (F.R kf) s m args below meth c H locs cells slots Q (F0 m (pc + 1) ls (.ref b :: rest))) : W p l e (F.R kf) s m args below meth c H locs cells slots Q (F0 m pc ls (.int j :: .ref a :: rest)) := by
  obtain ⟨hx, hb, -, hown, hts, hK, -⟩ := C
  obtain ⟨⟨h0, hz⟩, h⟩ := ite_inv h
  obtain ⟨h1, h2, mm, h3, h4, hin⟩ := inA_inv h0
  have hr : RA E ad N (S.r (d / 2) j.toNatClampNeg) (rA E ad (S.r (d / 2) j.toNatClampNeg)) := RA.of hz (by rw [← hG.2.2.2.1]; exact hG.2.2.2.2.1 _ _ h2)
  have he : (wd E ad S)[NC + d / 2]? = some (a, .inl (E.tX 1, mm, .inr (.inr (.inr (.inr (fun j => ro E ad (S.r (d / 2) j))))))) := by rw [GL_at hG ha h1 h2, dcel_a h3 h4]
  have hlt : j.toNatClampNeg < mm := Nat.not_le.mp fun q => hin (Or.inr q)
  have hv : va_rf (ro E ad (S.r (d / 2) j.toNatClampNeg)) = .ref (rA E ad (S.r (d / 2) j.toNatClampNeg)) := RA_rv hr
  refine W.aald (v := .ref (rA E ad (S.r (d / 2) j.toNatClampNeg))) (ty := .array .int) hx hb (hG.1 _ _ he) ((hK.2 3 _ rfl).1 mm (fun j => va_rf (ro E ad (S.r (d / 2) j)))) rfl (fun q => by cases q) (by show ¬ (j < 0 ∨ (arrV _ _ _).slots.size ≤ _); rw [arrV_size]; exact hin) (by show (arrV _ _ _).slots[_]? = _; rw [arrV_read _ _ hlt, hv]) rfl rfl hd (kk _ _ hr h)
theorem r2_gAQ (C : Cx p s m args meth c cc n own E) (hG : GL E s F H locs ad N S cells slots) (ha : RA E ad N d a) {j : Int32} (hd : decode cc pc = .ok (.aaload, 1)) {fn : Nat → Option ρ} (h : aN S d 500000 j fn = some r)
    (kk : ∀ x b : Nat, RA E ad N x b → fn x = some r → W p l e (F.R kf) s m args below meth c H locs cells slots Q (F0 m (pc + 1) ls (.ref b :: rest))) : W p l e (F.R kf) s m args below meth c H locs cells slots Q (F0 m pc ls (.int j :: .ref a :: rest)) := by
  obtain ⟨hx, hb, -, hown, hts, hK, -⟩ := C
  obtain ⟨⟨h0, hz⟩, h⟩ := ite_inv h
  obtain ⟨h1, h2, mm, h3, h4, hin⟩ := inA_inv h0
  have hr : RA E ad N (S.r (d / 2) j.toNatClampNeg) (rA E ad (S.r (d / 2) j.toNatClampNeg)) := RA.of hz (by rw [← hG.2.2.2.1]; exact hG.2.2.2.2.1 _ _ h2)
  have he : (wd E ad S)[NC + d / 2]? = some (a, .inl (E.tX 2, mm, .inr (.inr (.inr (.inr (fun j => ro E ad (S.r (d / 2) j))))))) := by rw [GL_at hG ha h1 h2, dcel_q h3 h4]
  have hv : va_rf (ro E ad (S.r (d / 2) j.toNatClampNeg)) = .ref (rA E ad (S.r (d / 2) j.toNatClampNeg)) := RA_rv hr
  refine va_aldq hx hb hK hG.1 _ 4 he rfl hin hd ?_
  rw [hv]
  exact kk _ _ hr h
theorem ra_set {ad : Nat → Nat} {S : ZS} {o k x : Nat} : (fun j => ro E ad ((S.wr o k x).r o j)) = va_up (fun j => ro E ad (S.r o j)) k (ro E ad x) := by
  funext j
  rw [wr_eq]
  by_cases hj : j = k
  · subst hj
    rw [va_up_self, va_up_self]
  · rw [va_up_ne _ _ hj, va_up_ne _ _ hj]
/-- an order into the row of orders -/
theorem r2_pAQ (C : Cx p s m args meth c cc n own E) (hG : GL E s F H locs ad N S cells slots) (ha : RA E ad N d a) {x b : Nat} (hb9 : RA E ad N x b) {j : Int32} (hd : decode cc pc = .ok (.aastore, 1)) {fn : ZS → Option ρ} (h : aR S d 500000 13 j x fn = some r)
    (kk : ∀ (H1 : Heap) (locs1 : List Loc) (S1 : ZS), GL E s F H1 locs1 ad N S1 cells slots → fn S1 = some r → W p l e (F.R kf) s m args below meth c H1 locs1 cells slots Q (F0 m (pc + 1) ls rest)) : W p l e (F.R kf) s m args below meth c H locs cells slots Q (F0 m pc ls (.ref b :: .int j :: .ref a :: rest)) := by
  obtain ⟨hx, hb, -, hown, hts, hK, -⟩ := C
  obtain ⟨⟨h0, hz⟩, h⟩ := ite_inv h
  obtain ⟨h1, h2, mm, h3, h4, hin⟩ := inA_inv h0
  obtain ⟨g1, g2, g3⟩ := okO_inv (show okO S x 13 = true from hz)
  have he : (wd E ad S)[NC + d / 2]? = some (a, .inl (E.tX 2, mm, .inr (.inr (.inr (.inr (fun j => ro E ad (S.r (d / 2) j))))))) := by rw [GL_at hG ha h1 h2, dcel_q h3 h4]
  have hv : (wd E ad S)[NC + x / 2]? = some (b, .inr (13, dfs E ad S (x / 2) 13)) := by rw [GL_at hG hb9 g1 g2, dcel_o g3 (by decide)]
  refine va_astq hx hb hK hG.1 hG.2.1 hG.2.2.1 _ 4 _ 13 he rfl hv KP13.1 hin hd (fun H1 locs1 a1 a2 a3 => ?_)
  rw [ha.odd h1] at a1 a2
  refine kk H1 locs1 _ (GL_set (S1 := S.wr (d / 2) j.toNatClampNeg x) hG rfl rfl ⟨rfl, rfl⟩ (hG.2.2.2.2.1.wr (by rw [hG.2.2.2.1]; exact hb9.2.2)) h2 ?_ (fun i hi => dcel_cong rfl rfl (wr_ne hi)) a1 a2 a3) h
  rw [dcel_q (show (S.wr (d / 2) j.toNatClampNeg x).K (d / 2) = 500000 + mm from h3) h4, ra_set]
  have : ro E ad x = some b := by unfold ro; rw [if_neg hb9.2.1, hb9.1]
  rw [this]
/-- an int row into a row of int rows -/
theorem r2_pAA (C : Cx p s m args meth c cc n own E) (hG : GL E s F H locs ad N S cells slots) (ha : RA E ad N d a) (hao : Cond.arrayOver (.array .int) ∈ NB) {x b : Nat} (hb9 : RA E ad N x b) {j : Int32} (hd : decode cc pc = .ok (.aastore, 1)) {fn : ZS → Option ρ} (h : aR S d 400000 100000 j x fn = some r)
    (kk : ∀ (H1 : Heap) (locs1 : List Loc) (S1 : ZS), GL E s F H1 locs1 ad N S1 cells slots → fn S1 = some r → W p l e (F.R kf) s m args below meth c H1 locs1 cells slots Q (F0 m (pc + 1) ls rest)) : W p l e (F.R kf) s m args below meth c H locs cells slots Q (F0 m pc ls (.ref b :: .int j :: .ref a :: rest)) := by
  obtain ⟨hx, hb, -, hown, hts, hK, hN, -⟩ := C
  obtain ⟨⟨h0, hz⟩, h⟩ := ite_inv h
  obtain ⟨h1, h2, mm, h3, h4, hin⟩ := inA_inv h0
  obtain ⟨g1, g2, mx, g3, g4⟩ := okA_inv (show okA S x 100000 = true from hz)
  have he : (wd E ad S)[NC + d / 2]? = some (a, .inl (E.tX 1, mm, .inr (.inr (.inr (.inr (fun j => ro E ad (S.r (d / 2) j))))))) := by rw [GL_at hG ha h1 h2, dcel_a h3 h4]
  have hv : (wd E ad S)[NC + x / 2]? = some (b, .inl (E.tI, mx, .inl (S.i (x / 2)))) := by rw [GL_at hG hb9 g1 g2, dcel_i g3 g4]
  obtain ⟨comp, cA, kA, hcomp, hidx, hkA, hkindA, hnameA⟩ := arrayOverA_spec (show (Cond.arrayOver (.array .int)).before #[] s = true from hN _ hao)
  have hnm : s.vm.findClass ("[" ++ (FieldType.array .int).toString) = some (E.tX 1) := (hK.2 3 _ rfl).2
  have hnI : s.vm.findClass ("[" ++ (FieldType.int).toString) = some E.tI := (hK.2 0 _ rfl).2
  have e1 : E.tX 1 = cA := Option.some.inj (hnm.symm.trans hnameA)
  have e2 : E.tI = comp := Option.some.inj (hnI.symm.trans hcomp)
  obtain ⟨kc, hkc, -⟩ := Vm.findClass_spec hnI
  have hlt : j.toNatClampNeg < mm := Nat.not_le.mp fun q => hin (Or.inr q)
  have h00 : ¬ j < 0 := fun q => hin (Or.inl q)
  have hcell : H[a]? = some (vp_cell (E.tX 1) (mm, .inr (.inr (.inr (.inr (fun j => ro E ad (S.r (d / 2) j))))))) := hG.1 _ _ he
  have hvc : H[b]? = some (vp_cell E.tI (mx, .inl (S.i (x / 2)))) := hG.1 _ _ hv
  refine W.aast (t := .array .int) (comp := comp) hx hb hcell (fun q h9 => by cases h9) (fun h9 => by cases h9) (k := kA) (show s.vm.classes[E.tX 1]? = some kA by rw [e1]; exact hkA) hkindA rfl (kcomp := kc) (by rw [← e2]; exact hkc) ⟨h00, by show _ < (arrV _ _ _).slots.size; rw [arrV_size]; exact hlt⟩ hvc (fun q h9 => by cases h9) (kv := kc) hkc (by show s.vm.assignable E.tI comp = true; rw [← e2]; exact as_self s.vm E.tI) rfl rfl hd (fun H1 e9 z oq => ?_)
  have h5 : H1[a]? = some (vp_cell (E.tX 1) (mm, .inr (.inr (.inr (.inr (va_up (fun j => ro E ad (S.r (d / 2) j)) j.toNatClampNeg (some b))))))) := by
    rw [e9, vp_cell_q, vp_cell_q, arrV_store]
    congr 2
    funext q
    by_cases hq : q = j.toNatClampNeg
    · subst hq
      simp [updV, va_up, va_rf]
    · simp [updV, va_up, hq]
  have a1 := hG.1.set (e := .inl (E.tX 1, mm, .inr (.inr (.inr (.inr (va_up (fun j => ro E ad (S.r (d / 2) j)) j.toNatClampNeg (some b))))))) hG.2.1 he h5 oq
  have a2 := hG.2.1.set (e := .inl (E.tX 1, mm, .inr (.inr (.inr (.inr (va_up (fun j => ro E ad (S.r (d / 2) j)) j.toNatClampNeg (some b))))))) he
  have a3 := hG.2.2.1.put (k := j.toNatClampNeg) z oq (hG.2.1.2 _ _ he)
  rw [ha.odd h1] at a1 a2
  refine kk H1 _ _ (GL_set (S1 := S.wr (d / 2) j.toNatClampNeg x) hG rfl rfl ⟨rfl, rfl⟩ (hG.2.2.2.2.1.wr (by rw [hG.2.2.2.1]; exact hb9.2.2)) h2 ?_ (fun i hi => dcel_cong rfl rfl (wr_ne hi)) a1 a2 a3) h
  rw [dcel_a (show (S.wr (d / 2) j.toNatClampNeg x).K (d / 2) = 400000 + mm from h3) h4, ra_set]
  have : ro E ad x = some b := by unfold ro; rw [if_neg hb9.2.1, hb9.1]
  rw [this]
end LROWS
