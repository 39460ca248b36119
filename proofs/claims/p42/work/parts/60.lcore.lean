/-! the law's own objects: a store that grows. A reference is a number: 0 null, 2 i + 1 the i-th object of the store, 2 k + 2 the k-th String constant.
A store: the class's world, how many objects, what each is (below 15 its class; 100000 + n an int row, 200000 + n bytes, 300000 + n booleans, 400000 + n rows of int, 500000 + n orders), their numbers, their references, the cells and slots that are left -/
abbrev ZS : Type := G × Nat × (Nat → Nat) × G × (Nat → Nat → Nat) × Nat × Nat
abbrev ZS.g (S : ZS) : G := S.1
abbrev ZS.n (S : ZS) : Nat := S.2.1
abbrev ZS.K (S : ZS) : Nat → Nat := S.2.2.1
abbrev ZS.i (S : ZS) : G := S.2.2.2.1
abbrev ZS.r (S : ZS) : Nat → Nat → Nat := S.2.2.2.2.1
abbrev ZS.c (S : ZS) : Nat := S.2.2.2.2.2.1
abbrev ZS.w (S : ZS) : Nat := S.2.2.2.2.2.2
def ur (r : Nat → Nat → Nat) (o k c : Nat) : Nat → Nat → Nat := fun o' k' => if o' = o ∧ k' = k then c else r o' k'
def ZS.wg (S : ZS) (g : G) : ZS := (g, S.2)
def ZS.wi (S : ZS) (o k : Nat) (v : Int32) : ZS := (S.g, S.n, S.K, up S.i o k v, S.r, S.c, S.w)
def ZS.wa (S : ZS) (o : Nat) (f : Nat → Int32) : ZS := (S.g, S.n, S.K, fun o' => if o' = o then f else S.i o', S.r, S.c, S.w)
def ZS.wr (S : ZS) (o k c : Nat) : ZS := (S.g, S.n, S.K, S.i, ur S.r o k c, S.c, S.w)
def ZS.new (S : ZS) (kind slots : Nat) (f : Nat → Int32) : ZS := (S.g, S.n + 1, (fun j => if j = S.n then kind else S.K j), (fun o => if o = S.n then f else S.i o), (fun o => if o = S.n then (fun _ => 0) else S.r o), S.c - 1, S.w - slots)
def ZS.use (S : ZS) (a b : Nat) : ZS := (S.g, S.n, S.K, S.i, S.r, S.c - a, S.w - b)
def z0 : Nat → Int32 := fun _ => 0
/-- which fields are references: String, StringBuilder, .., Dice, Node, Order, Train -/
def dskL : List (List Nat) := [[1, 0, 0, 0], [1, 0, 0, 0], [], [], [], [], [], [], [], [], [], [0], [0, 0, 1, 1], [0, 0, 1, 1], [0, 0, 1, 1, 1, 0, 0, 0, 1]]
def dsk (ci k : Nat) : Nat := (dskL.getD ci []).getD k 0
def dns (ci : Nat) : Nat := (dskL.getD ci []).length
def rA (E : EV) (ad : Nat → Nat) (c : Nat) : Nat := if c % 2 = 1 then ad (c / 2) else E.aK (c / 2 - 1)
def ro (E : EV) (ad : Nat → Nat) (c : Nat) : Option Nat := if c = 0 then none else some (rA E ad c)
def rv (E : EV) (ad : Nat → Nat) (c : Nat) : Value := va_rf (ro E ad c)
def dval (E : EV) (ad : Nat → Nat) (S : ZS) (o ci k : Nat) : Value := if dsk ci k = 1 then rv E ad (S.r o k) else .int (S.i o k)
def dfs (E : EV) (ad : Nat → Nat) (S : ZS) (o ci : Nat) : List Value := (List.range (dns ci)).map (fun k => dval E ad S o ci k)
def dcel (E : EV) (ad : Nat → Nat) (S : ZS) (o : Nat) : va_E :=
  if S.K o < 15 then .inr (S.K o, dfs E ad S o (S.K o)) else if S.K o < 200000 then .inl (E.tI, S.K o - 100000, .inl (S.i o)) else if S.K o < 300000 then .inl (E.tB, S.K o - 200000, .inl (S.i o)) else if S.K o < 400000 then .inl (E.tX 0, S.K o - 300000, .inl (S.i o))
  else if S.K o < 500000 then .inl (E.tX 1, S.K o - 400000, .inr (.inr (.inr (.inr (fun j => ro E ad (S.r o j)))))) else .inl (E.tX 2, S.K o - 500000, .inr (.inr (.inr (.inr (fun j => ro E ad (S.r o j))))))
def dl (E : EV) (ad : Nat → Nat) (S : ZS) : va_W := (List.range S.n).map (fun o => (ad o, dcel E ad S o))
def wd (E : EV) (ad : Nat → Nat) (S : ZS) : va_W := wl E S.g ++ dl E ad S
theorem dl_len {E : EV} {ad : Nat → Nat} {S : ZS} : (dl E ad S).length = S.n := by simp [dl]
theorem dl_at {E : EV} {ad : Nat → Nat} {S : ZS} {o : Nat} (ho : o < S.n) : (dl E ad S)[o]? = some (ad o, dcel E ad S o) := by
  unfold dl
  rw [List.getElem?_map, List.getElem?_range ho]
  rfl
theorem wd_len {E : EV} {ad : Nat → Nat} {S : ZS} : (wd E ad S).length = NC + S.n := by
  unfold wd
  rw [List.length_append, wl_len, dl_len]
theorem wd_at {E : EV} {ad : Nat → Nat} {S : ZS} {o : Nat} (ho : o < S.n) : (wd E ad S)[NC + o]? = some (ad o, dcel E ad S o) := by
  unfold wd
  rw [wlx_ge (by omega), Nat.add_sub_cancel_left, dl_at ho]
theorem wd_cl {E : EV} {ad : Nat → Nat} {S : ZS} {o : Nat} (ho : o < NC) : (wd E ad S)[o]? = some (E.ad o, cel E S.g o) := wlx_at ho
theorem wd_inv {E : EV} {ad : Nat → Nat} {S : ZS} {k : Nat} {q : Nat × va_E} (h : (wd E ad S)[k]? = some q) : (k < NC ∧ q = (E.ad k, cel E S.g k)) ∨ ∃ o, o < S.n ∧ k = NC + o ∧ q = (ad o, dcel E ad S o) := by
  by_cases hk : k < NC
  · rw [wd_cl hk] at h
    exact Or.inl ⟨hk, (Option.some.inj h).symm⟩
  · have hl : k < NC + S.n := by
      have := (List.getElem?_eq_some_iff.mp h).1
      rwa [wd_len] at this
    obtain ⟨o, rfl⟩ : ∃ o, k = NC + o := ⟨k - NC, by omega⟩
    rw [wd_at (by omega)] at h
    exact Or.inr ⟨o, by omega, rfl, (Option.some.inj h).symm⟩
theorem dfs_len {E : EV} {ad : Nat → Nat} {S : ZS} {o ci : Nat} : (dfs E ad S o ci).length = dns ci := by simp [dfs]
theorem dfs_at {E : EV} {ad : Nat → Nat} {S : ZS} {o ci k : Nat} (hk : k < dns ci) : (dfs E ad S o ci)[k]? = some (dval E ad S o ci k) := by
  unfold dfs
  rw [List.getElem?_map, List.getElem?_range hk]
  rfl
theorem dcel_o {E : EV} {ad : Nat → Nat} {S : ZS} {o ci : Nat} (h : S.K o = ci) (hc : ci < 15) : dcel E ad S o = .inr (ci, dfs E ad S o ci) := by
  unfold dcel
  rw [h, if_pos hc]
theorem dcel_i {E : EV} {ad : Nat → Nat} {S : ZS} {o m : Nat} (h : S.K o = 100000 + m) (hm : m < 100000) : dcel E ad S o = .inl (E.tI, m, .inl (S.i o)) := by
  unfold dcel
  rw [h, if_neg (by omega), if_pos (by omega), Nat.add_sub_cancel_left]
theorem dcel_b {E : EV} {ad : Nat → Nat} {S : ZS} {o m : Nat} (h : S.K o = 200000 + m) (hm : m < 100000) : dcel E ad S o = .inl (E.tB, m, .inl (S.i o)) := by
  unfold dcel
  rw [h, if_neg (by omega), if_neg (by omega), if_pos (by omega), Nat.add_sub_cancel_left]
theorem dcel_z {E : EV} {ad : Nat → Nat} {S : ZS} {o m : Nat} (h : S.K o = 300000 + m) (hm : m < 100000) : dcel E ad S o = .inl (E.tX 0, m, .inl (S.i o)) := by
  unfold dcel
  rw [h, if_neg (by omega), if_neg (by omega), if_neg (by omega), if_pos (by omega), Nat.add_sub_cancel_left]
theorem dcel_a {E : EV} {ad : Nat → Nat} {S : ZS} {o m : Nat} (h : S.K o = 400000 + m) (hm : m < 100000) : dcel E ad S o = .inl (E.tX 1, m, .inr (.inr (.inr (.inr (fun j => ro E ad (S.r o j)))))) := by
  unfold dcel
  rw [h, if_neg (by omega), if_neg (by omega), if_neg (by omega), if_neg (by omega), if_pos (by omega), Nat.add_sub_cancel_left]
theorem dcel_q {E : EV} {ad : Nat → Nat} {S : ZS} {o m : Nat} (h : S.K o = 500000 + m) (hm : m < 100000) : dcel E ad S o = .inl (E.tX 2, m, .inr (.inr (.inr (.inr (fun j => ro E ad (S.r o j)))))) := by
  unfold dcel
  rw [h, if_neg (by omega), if_neg (by omega), if_neg (by omega), if_neg (by omega), if_neg (by omega), Nat.add_sub_cancel_left]
/-! references that lead somewhere -/
def rk (n c : Nat) : Prop := c % 2 = 1 → c / 2 < n
def WF (S : ZS) : Prop := ∀ o k, o < S.n → rk S.n (S.r o k)
def RA (E : EV) (ad : Nat → Nat) (n c a : Nat) : Prop := a = rA E ad c ∧ c ≠ 0 ∧ rk n c
def GX (ad : Nat → Nat) (n : Nat) (ad1 : Nat → Nat) (n1 : Nat) : Prop := n ≤ n1 ∧ ∀ i, i < n → ad1 i = ad i
theorem GX.rf {ad : Nat → Nat} {n : Nat} : GX ad n ad n := ⟨Nat.le_refl _, fun _ _ => rfl⟩
theorem GX.trans {ad ad1 ad2 : Nat → Nat} {n n1 n2 : Nat} (h : GX ad n ad1 n1) (h' : GX ad1 n1 ad2 n2) : GX ad n ad2 n2 := ⟨Nat.le_trans h.1 h'.1, fun i hi => (h'.2 i (Nat.lt_of_lt_of_le hi h.1)).trans (h.2 i hi)⟩
theorem rA_up {E : EV} {ad ad1 : Nat → Nat} {n n1 c : Nat} (h : rk n c) (hx : GX ad n ad1 n1) : rA E ad1 c = rA E ad c := by
  unfold rA
  by_cases hc : c % 2 = 1
  · rw [if_pos hc, if_pos hc, hx.2 _ (h hc)]
  · rw [if_neg hc, if_neg hc]
theorem ro_up {E : EV} {ad ad1 : Nat → Nat} {n n1 c : Nat} (h : rk n c) (hx : GX ad n ad1 n1) : ro E ad1 c = ro E ad c := by
  unfold ro
  rw [rA_up h hx]
theorem RA.up {E : EV} {ad ad1 : Nat → Nat} {n n1 c a : Nat} (h : RA E ad n c a) (hx : GX ad n ad1 n1) : RA E ad1 n1 c a := ⟨by rw [rA_up h.2.2 hx]; exact h.1, h.2.1, fun hc => Nat.lt_of_lt_of_le (h.2.2 hc) hx.1⟩
theorem RA.odd {E : EV} {ad : Nat → Nat} {n c a : Nat} (h : RA E ad n c a) (hc : c % 2 = 1) : a = ad (c / 2) := by
  rw [h.1]
  unfold rA
  rw [if_pos hc]
theorem RA_rv {E : EV} {ad : Nat → Nat} {n c a : Nat} (h : RA E ad n c a) : rv E ad c = .ref a := by
  unfold rv ro
  rw [if_neg h.2.1, h.1]
  rfl
theorem rv_0 {E : EV} {ad : Nat → Nat} : rv E ad 0 = .null := rfl
theorem RA.of {E : EV} {ad : Nat → Nat} {n c : Nat} (h0 : c ≠ 0) (h : rk n c) : RA E ad n c (rA E ad c) := ⟨rfl, h0, h⟩
/-! the world behind a change -/
theorem wd_cong {E : EV} {ad : Nat → Nat} {S S1 : ZS} {o : Nat} {y : va_E} (hg : S1.g = S.g) (hn : S1.n = S.n) (ho : o < S.n) (hy : dcel E ad S1 o = y) (hs : ∀ i, i ≠ o → dcel E ad S1 i = dcel E ad S i) : (wd E ad S).set (NC + o) (ad o, y) = wd E ad S1 := by
  apply List.ext_getElem?
  intro i
  rw [List.getElem?_set]
  by_cases hi : NC + o = i
  · subst hi
    rw [if_pos rfl, if_pos (by rw [wd_len]; omega), wd_at (S := S1) (by omega), hy]
  · rw [if_neg hi]
    by_cases hN : i < NC
    · rw [wd_cl hN, wd_cl hN, hg]
    · by_cases hN2 : i < NC + S.n
      · obtain ⟨o', rfl⟩ : ∃ o', i = NC + o' := ⟨i - NC, by omega⟩
        rw [wd_at (by omega), wd_at (S := S1) (by omega), hs o' (by omega)]
      · rw [List.getElem?_eq_none (by rw [wd_len]; omega), List.getElem?_eq_none (by rw [wd_len]; omega)]
theorem dcel_cong {E : EV} {ad : Nat → Nat} {S S1 : ZS} {o : Nat} (hK : S1.K o = S.K o) (hi : S1.i o = S.i o) (hr : S1.r o = S.r o) : dcel E ad S1 o = dcel E ad S o := by
  unfold dcel dfs dval
  rw [hK, hi, hr]
theorem wi_ne {S : ZS} {o k : Nat} {v : Int32} {i : Nat} (h : i ≠ o) : (S.wi o k v).i i = S.i i := up_ne h
theorem wr_ne {S : ZS} {o k c : Nat} {i : Nat} (h : i ≠ o) : (S.wr o k c).r i = S.r i := funext fun _ => if_neg (fun q => h q.1)
theorem wi_eq {S : ZS} {o k : Nat} {v : Int32} : (S.wi o k v).i o = upd (S.i o) k v := up_eq
theorem wr_eq {S : ZS} {o k c : Nat} : (S.wr o k c).r o = va_up (S.r o) k c := funext fun j => by
  show ur S.r o k c o j = _
  simp [ur, va_up]
theorem dfs_wi {E : EV} {ad : Nat → Nat} {S : ZS} {o ci k : Nat} {v : Int32} (hs : dsk ci k = 0) : (dfs E ad S o ci).set k (.int v) = dfs E ad (S.wi o k v) o ci := by
  apply List.ext_getElem?
  intro i
  rw [List.getElem?_set]
  by_cases hi : k = i
  · subst hi
    rw [if_pos rfl]
    by_cases hN : k < dns ci
    · rw [if_pos (by rw [dfs_len]; exact hN), dfs_at hN]
      unfold dval
      rw [hs, if_neg (by decide), wi_eq]
      simp [upd]
    · rw [if_neg (by rw [dfs_len]; exact hN), List.getElem?_eq_none (by rw [dfs_len]; omega)]
  · rw [if_neg hi]
    by_cases hN : i < dns ci
    · rw [dfs_at hN, dfs_at hN]
      unfold dval
      rw [wi_eq]
      have e : upd (S.i o) k v i = S.i o i := if_neg (fun q => hi q.symm)
      rw [e]
      rfl
    · rw [List.getElem?_eq_none (by rw [dfs_len]; omega), List.getElem?_eq_none (by rw [dfs_len]; omega)]
theorem dfs_wr {E : EV} {ad : Nat → Nat} {S : ZS} {o ci k c : Nat} (hs : dsk ci k = 1) : (dfs E ad S o ci).set k (rv E ad c) = dfs E ad (S.wr o k c) o ci := by
  apply List.ext_getElem?
  intro i
  rw [List.getElem?_set]
  by_cases hi : k = i
  · subst hi
    rw [if_pos rfl]
    by_cases hN : k < dns ci
    · rw [if_pos (by rw [dfs_len]; exact hN), dfs_at hN]
      unfold dval
      rw [hs, if_pos rfl, wr_eq, va_up_self]
    · rw [if_neg (by rw [dfs_len]; exact hN), List.getElem?_eq_none (by rw [dfs_len]; omega)]
  · rw [if_neg hi]
    by_cases hN : i < dns ci
    · rw [dfs_at hN, dfs_at hN]
      unfold dval
      rw [wr_eq, va_up_ne _ _ (fun q => hi q.symm)]
      rfl
    · rw [List.getElem?_eq_none (by rw [dfs_len]; omega), List.getElem?_eq_none (by rw [dfs_len]; omega)]
theorem wd_push {E : EV} {ad ad1 : Nat → Nat} {S : ZS} {kind slots : Nat} {f : Nat → Int32} {y : va_E} {q : Nat} (hW : WF S) (hx : GX ad S.n ad1 (S.n + 1)) (hq : ad1 S.n = q) (hy : dcel E ad1 (S.new kind slots f) S.n = y) : wd E ad S ++ [(q, y)] = wd E ad1 (S.new kind slots f) := by
  have hn : (S.new kind slots f).n = S.n + 1 := rfl
  apply List.ext_getElem?
  intro i
  by_cases hN : i < NC
  · rw [List.getElem?_append_left (by rw [wd_len]; omega), wd_cl hN, wd_cl hN]
    rfl
  · by_cases hN2 : i < NC + S.n
    · obtain ⟨o, rfl⟩ : ∃ o, i = NC + o := ⟨i - NC, by omega⟩
      have ho : o < S.n := by omega
      rw [List.getElem?_append_left (by rw [wd_len]; omega), wd_at ho, wd_at (by rw [hn]; omega), hx.2 o ho]
      have hK : (S.new kind slots f).K o = S.K o := if_neg (by omega)
      have hi : (S.new kind slots f).i o = S.i o := if_neg (by omega)
      have hr : (S.new kind slots f).r o = S.r o := if_neg (by omega)
      have hro : ∀ k, ro E ad1 (S.r o k) = ro E ad (S.r o k) := fun k => ro_up (hW o k ho) hx
      unfold dcel dfs dval rv
      rw [hK, hi, hr]
      simp only [hro]
    · rw [List.getElem?_append_right (by rw [wd_len]; omega), wd_len]
      by_cases hN3 : i = NC + S.n
      · subst hN3
        rw [Nat.sub_self, wd_at (by rw [hn]; omega), hq, hy]
        rfl
      · rw [List.getElem?_eq_none (by simp; omega), List.getElem?_eq_none (by rw [wd_len, hn]; omega)]
theorem WF.new {S : ZS} {kind slots : Nat} {f : Nat → Int32} (h : WF S) : WF (S.new kind slots f) := by
  intro o k ho hc
  show _ < S.n + 1
  by_cases e : o = S.n
  · have : (S.new kind slots f).r o k = 0 := by
      show (if o = S.n then (fun _ => 0) else S.r o) k = 0
      rw [if_pos e]
    rw [this] at hc
    cases hc
  · have hr : (S.new kind slots f).r o k = S.r o k := by
      show (if o = S.n then (fun _ => 0) else S.r o) k = S.r o k
      rw [if_neg e]
    rw [hr] at hc ⊢
    have hl : o < S.n + 1 := ho
    exact Nat.lt_succ_of_lt (h o k (by omega) hc)
theorem WF.wr {S : ZS} {o k c : Nat} (h : WF S) (hc : rk S.n c) : WF (S.wr o k c) := by
  intro o' k' ho
  show rk S.n (ur S.r o k c o' k')
  unfold ur
  by_cases e : o' = o ∧ k' = k
  · rw [if_pos e]; exact hc
  · rw [if_neg e]; exact h o' k' ho
theorem WF.wi {S : ZS} {o k : Nat} {v : Int32} (h : WF S) : WF (S.wi o k v) := h
theorem WF.wa {S : ZS} {o : Nat} {f : Nat → Int32} (h : WF S) : WF (S.wa o f) := h
theorem WF.wg {S : ZS} {g : G} (h : WF S) : WF (S.wg g) := h
theorem WF.use {S : ZS} {a b : Nat} (h : WF S) : WF (S.use a b) := h
/-! what holds of the heap while a method of the law runs -/
def AL (E : EV) (ad : Nat → Nat) (n sz : Nat) : Nat → Prop := fun q => (∃ i, i < NC ∧ q = E.ad i) ∨ (∃ i, i < n ∧ q = ad i) ∨ sz ≤ q
/-- what stays while a method of the law runs: which cells it may change, its objects' addresses and how many at its begin, what room is left at its begin and at its end -/
abbrev FT : Type := (Nat → Prop) × (Nat → Nat) × Nat × Nat × Nat × Nat × Nat
abbrev FT.A (F : FT) : Nat → Prop := F.1
abbrev FT.ad (F : FT) : Nat → Nat := F.2.1
abbrev FT.n (F : FT) : Nat := F.2.2.1
abbrev FT.c (F : FT) : Nat := F.2.2.2.1
abbrev FT.w (F : FT) : Nat := F.2.2.2.2.1
abbrev FT.uc (F : FT) : Nat := F.2.2.2.2.2.1
abbrev FT.uw (F : FT) : Nat := F.2.2.2.2.2.2
abbrev FT.R (F : FT) (k : Nat) : Room := rmD k (F.c - F.uc) (F.w - F.uw)
def CA (F : FT) (E : EV) (s : State) : Prop := (∀ q, s.heap.size ≤ q → F.A q) ∧ ∀ q, F.A q → E.sz ≤ q
def GL (E : EV) (s : State) (F : FT) (H : Heap) (locs : List Loc) (ad : Nat → Nat) (N : Nat) (S : ZS) (cells slots : Nat) : Prop :=
  va_P E.D vwCl (wd E ad S) H ∧ va_D F.A (wd E ad S) ∧ va_S F.A s.heap H locs ∧ S.n = N ∧ WF S ∧ cells + S.c = F.c ∧ slots + S.w = F.w ∧ GX F.ad F.n ad N ∧ F.uc ≤ S.c ∧ F.uw ≤ S.w
def WL (E : EV) (ad : Nat → Nat) (S : ZS) (U : State) : Prop := E.sz ≤ U.heap.size ∧ va_P E.D vwCl (wd E ad S) U.heap ∧ va_K E.D vwCl E.tys U ∧ AD E ∧ NK U ∧ OO E U U.heap ∧ va_D (fun q => E.sz ≤ q) (wd E ad S) ∧ WF S
def PL (E : EV) (sz : Nat) (ad : Nat → Nat) (av : List Value) (S : ZS) : Array Value → State → Prop := va_Pc av (fun U => U.heap.size = sz ∧ WL E ad S U)
def PU (E : EV) (sz : Nat) (ad : Nat → Nat) (S u : ZS) : (Nat → Nat) → State → Prop := fun ad1 t => va_P E.D vwCl (wd E ad1 u) t.heap ∧ va_D (AL E ad S.n sz) (wd E ad1 u) ∧ WF u ∧ GX ad S.n ad1 u.n ∧ u.c ≤ S.c ∧ u.w ≤ S.w
def QIL (E : EV) (sz : Nat) (ad : Nat → Nat) (S : ZS) (u : Int32 × ZS) : Array Value → State → Outcome → State → Prop := va_Qi (fun (r' : Int32) (_ : Nat → Nat) => r' = u.1) (PU E sz ad S u.2) (AL E ad S.n sz)
def QVL (E : EV) (sz : Nat) (ad : Nat → Nat) (S u : ZS) : Array Value → State → Outcome → State → Prop := va_Qv (fun (_ : Nat → Nat) => True) (PU E sz ad S u) (AL E ad S.n sz)
def QRL (E : EV) (sz : Nat) (ad : Nat → Nat) (S : ZS) (u : Nat × ZS) : Array Value → State → Outcome → State → Prop := va_Qr (fun (_ : Nat → Nat) => True) (fun ad1 a t => RA E ad1 u.2.n u.1 a ∧ PU E sz ad S u.2 ad1 t) (AL E ad S.n sz)
def ML2 (E : EV) (l : Launch) (y : MethodName) (c : ByteArray) (n : Nat) (rt : Option FieldType) (k : Nat) (av : (Nat → Nat) → List Value) (S u : ZS) (QQ : Nat → (Nat → Nat) → Array Value → State → Outcome → State → Prop) : Prop := ∀ sz ad, Met l y (wz y c n rt) (rmD k (S.c - u.c) (S.w - u.w)) (PL E sz ad (av ad) S) (QQ sz ad) (S.c - u.c) (S.w - u.w) (AL E ad S.n sz)
abbrev MIL (E : EV) (l : Launch) (y : MethodName) (c : ByteArray) (n : Nat) (rt : Option FieldType) (k : Nat) (av : (Nat → Nat) → List Value) (S : ZS) (u : Int32 × ZS) : Prop := ML2 E l y c n rt k av S u.2 (fun sz ad => QIL E sz ad S u)
abbrev MVL (E : EV) (l : Launch) (y : MethodName) (c : ByteArray) (n : Nat) (rt : Option FieldType) (k : Nat) (av : (Nat → Nat) → List Value) (S u : ZS) : Prop := ML2 E l y c n rt k av S u (fun sz ad => QVL E sz ad S u)
abbrev MRL (E : EV) (l : Launch) (y : MethodName) (c : ByteArray) (n : Nat) (rt : Option FieldType) (k : Nat) (av : (Nat → Nat) → List Value) (S : ZS) (u : Nat × ZS) : Prop := ML2 E l y c n rt k av S u.2 (fun sz ad => QRL E sz ad S u)
theorem PL_blind {E : EV} {sz : Nat} {ad : Nat → Nat} {av : List Value} {S : ZS} : FrameBlind (PL E sz ad av S) := by
  intro a U f mk h
  obtain ⟨h0, h1, h2, h3, h4, h5, h6, h7, h8, h9⟩ := h
  exact ⟨h0, h1, h2, h3, va_K.moved (u := U) (U := U.calling f mk a) (Vm.Alike.refl U.vm) h4, h5, fun w hw => Nw_same (u := U) rfl hw (h6 w hw), OO.same (u := U) rfl h7, h8, h9⟩
theorem AL_ge {E : EV} {ad : Nat → Nat} {S : ZS} {sz q : Nat} (h : AD E) (hd : va_D (fun q => E.sz ≤ q) (wd E ad S)) (hz : E.sz ≤ sz) (hq : AL E ad S.n sz q) : E.sz ≤ q := by
  rcases hq with ⟨i, hi, rfl⟩ | ⟨i, hi, rfl⟩ | hq
  · exact h.2 i hi
  · exact hd.2 _ _ (wd_at hi)
  · omega
def FTk (E : EV) (s : State) (F : FT) (S u : ZS) : Prop := F.A = AL E F.ad S.n s.heap.size ∧ F.n = S.n ∧ F.c = S.c ∧ F.w = S.w ∧ F.uc = u.c ∧ F.uw = u.w
def FT0 (E : EV) (ad : Nat → Nat) (S u : ZS) (sz : Nat) : FT := (AL E ad S.n sz, ad, S.n, S.c, S.w, u.c, u.w)
/-- a method of the law: its proof begins -/
theorem ML2.of {E : EV} {l : Launch} {y : MethodName} {cc : ByteArray} {n : Nat} {rt : Option FieldType} {k : Nat} {av : (Nat → Nat) → List Value} {S u : ZS} {QQ : Nat → (Nat → Nat) → Array Value → State → Outcome → State → Prop} (hy : plainName y.cls = true) (hn : ∀ ad, (lg_sl (av ad)).length ≤ n) (hcw : u.c ≤ S.c ∧ u.w ≤ S.w)
    (body : ∀ (p : Program) (e : Env) (s : State) (m : MethodId) (args : Array Value) (below : List Frame) (meth : Method) (c : Code) (ad : Nat → Nat) (F : FT), FTk E s F S u → Cx p s m args meth c cc n y.cls E → CA F E s → meth.sig.returnType = rt → meth.name = y.name → ∀ ls : Array Slot, lv_has ls n (lv_args 0 (av ad)) → GL E s F s.heap [] ad S.n S 0 0 →
      W p l e (F.R k) s m args below meth c s.heap [] 0 0 (MQ below (QQ s.heap.size F.ad) args s (F.c - F.uc) (F.w - F.uw) F.A) (F0 m 0 ls [])) : ML2 E l y cc n rt k av S u QQ := by
  intro sz ad
  refine Met.ofW (cc := cc) (maxL := n) (ret := rt) hy rfl ?_
  intro p e s m args below meth c s₁ B hml hv
  obtain ⟨rfl, rfl, h2, h3, h4, h5, h6, h7, h8, h9⟩ := hv
  have hts := atoms_spec (ws := wz y cc n rt) B.pre
  have hown : s.vm.findClass y.cls = some m.cls := findClass_of_methodNamed B.named
  rw [lg_entry_eq]
  refine body p e s m _ below meth c ad (FT0 E ad S u s.heap.size) ⟨rfl, rfl, rfl, rfl, rfl, rfl⟩ ⟨B.exec, B.bytes, hml, hown, fun w hw => hts w (List.mem_cons_of_mem _ hw), h4, h6, B.notSynchronized, h2, h5, h7⟩ ⟨fun q hq => Or.inr (Or.inr hq), fun q hq => AL_ge h5 h8 h2 hq⟩ B.returns (name_of_methodNamed B.named B.method).1 _ (lv_entry (av ad) (hn ad)) ?_
  refine ⟨h3, ⟨h8.1, fun j q hq => ?_⟩, va_S.rf, rfl, h9, Nat.zero_add _, Nat.zero_add _, GX.rf, hcw⟩
  rcases wd_inv hq with ⟨hj, rfl⟩ | ⟨o, ho, -, rfl⟩
  · exact Or.inl ⟨_, hj, rfl⟩
  · exact Or.inr (Or.inl ⟨o, ho, rfl⟩)
