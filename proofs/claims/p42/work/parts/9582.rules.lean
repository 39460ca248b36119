/-! rules of the law's own body: it answers 1 -/
def Ret (z : Option (Int32 × ZS)) (S : ZS) : Prop := ∃ S', z = some (1, S') ∧ S'.c ≤ S.c ∧ S'.w ≤ S.w
/-- room, in units of a call of the class -/
def RM (S : ZS) (k : Nat) : Prop := 3 * k ≤ S.c ∧ 18 * k ≤ S.w
theorem RM.le {S : ZS} {k j : Nat} (h : RM S k) (hj : j ≤ k) : RM S j := by
  obtain ⟨h1, h2⟩ := h
  exact ⟨by omega, by omega⟩
def Loo (S S' : ZS) : Prop := S'.n = S.n ∧ S'.K = S.K ∧ S'.i = S.i ∧ S'.r = S.r
theorem Loo.rfl' {S : ZS} : Loo S S := ⟨rfl, rfl, rfl, rfl⟩
theorem Loo.trans {S S1 S2 : ZS} (h : Loo S S1) (h' : Loo S1 S2) : Loo S S2 := ⟨h'.1.trans h.1, h'.2.1.trans h.2.1, h'.2.2.1.trans h.2.2.1, h'.2.2.2.trans h.2.2.2⟩
/-- the law's train is A, the class's is B; room for k calls -/
def LX (S : ZS) (t r : Nat) (A B : TA) (P : List OR4) (k : Nat) : Prop := TT S t A ∧ OA A.N S t P ∧ RC B P S.g ∧ WW A ∧ 0 < A.N ∧ OB S r 11 ∧ RM S k
theorem LX.tt {S : ZS} {t r k : Nat} {A B : TA} {P : List OR4} (h : LX S t r A B P k) : TT S t A := h.1
theorem LX.oa {S : ZS} {t r k : Nat} {A B : TA} {P : List OR4} (h : LX S t r A B P k) : OA A.N S t P := h.2.1
theorem LX.rc {S : ZS} {t r k : Nat} {A B : TA} {P : List OR4} (h : LX S t r A B P k) : RC B P S.g := h.2.2.1
theorem LX.ww {S : ZS} {t r k : Nat} {A B : TA} {P : List OR4} (h : LX S t r A B P k) : WW A := h.2.2.2.1
theorem LX.n0 {S : ZS} {t r k : Nat} {A B : TA} {P : List OR4} (h : LX S t r A B P k) : 0 < A.N := h.2.2.2.2.1
theorem LX.ob {S : ZS} {t r k : Nat} {A B : TA} {P : List OR4} (h : LX S t r A B P k) : OB S r 11 := h.2.2.2.2.2.1
theorem LX.rm {S : ZS} {t r k : Nat} {A B : TA} {P : List OR4} (h : LX S t r A B P k) : RM S k := h.2.2.2.2.2.2
theorem LX.lv {S : ZS} {t r k : Nat} {A : TA} {P : List OR4} (h : LX S t r A A P k) : LV S t r A P := ⟨h.1, h.2.1, h.2.2.1, h.2.2.2.1, h.2.2.2.2.1, h.2.2.2.2.2.1⟩
theorem LV.lx {S : ZS} {t r k : Nat} {A : TA} {P : List OR4} (h : LV S t r A P) (hk : RM S k) : LX S t r A A P k := ⟨h.1, h.2.1, h.2.2.1, h.2.2.2.1, h.2.2.2.2.1, h.2.2.2.2.2, hk⟩
theorem LX.le {S : ZS} {t r k j : Nat} {A B : TA} {P : List OR4} (h : LX S t r A B P k) (hj : j ≤ k) : LX S t r A B P j := ⟨h.1, h.2.1, h.2.2.1, h.2.2.2.1, h.2.2.2.2.1, h.2.2.2.2.2.1, h.rm.le hj⟩
theorem LX.good {S : ZS} {t r k : Nat} {A B : TA} {P : List OR4} (h : LX S t r A B P k) : ∀ o, o ∈ P → goodO A.N o := h.oa.good
theorem Ret.done {S : ZS} : Ret (some (1, S)) S := ⟨S, rfl, Nat.le_refl _, Nat.le_refl _⟩
theorem Ret.eq {z z' : Option (Int32 × ZS)} {S : ZS} (e : z = z') (h : Ret z' S) : Ret z S := by
  rw [e]
  exact h
theorem ret_chk {z : Option (Int32 × ZS)} {S : ZS} (h : Ret z S) : Ret (chk Prod.snd S z) S := by
  obtain ⟨S', h1, h2, h3⟩ := h
  exact ⟨S', chk_of h1 h2 h3, h2, h3⟩
theorem Ret.mono {z : Option (Int32 × ZS)} {S S1 : ZS} (h : Ret z S1) (hc : S1.c ≤ S.c) (hw : S1.w ≤ S.w) : Ret z S := by
  obtain ⟨S', h1, h2, h3⟩ := h
  exact ⟨S', h1, Nat.le_trans h2 hc, Nat.le_trans h3 hw⟩
theorem ret_b2 {α : Type} {S S1 : ZS} {z : Option (α × ZS)} {v : α} {f : α → ZS → Option (Int32 × ZS)} (hz : z = some (v, S1)) (hc : S1.c ≤ S.c) (hw : S1.w ≤ S.w) (h : Ret (f v S1) S1) : Ret (b2 Prod.snd z f) S := by
  rw [hz]
  exact (ret_chk h).mono hc hw
theorem ret_b1 {S S1 : ZS} {z : Option ZS} {f : ZS → Option (Int32 × ZS)} (hz : z = some S1) (hc : S1.c ≤ S.c) (hw : S1.w ≤ S.w) (h : Ret (f S1) S1) : Ret (b1 Prod.snd z f) S := by
  rw [hz]
  exact (ret_chk h).mono hc hw
theorem OA.gen {N x y : Nat} {Q : Nat → Prop} {S S' : ZS} {t : Nat} {P : List OR4} (h : OA N S t P) (s : Ste Q x y S S') (ht : OB S t 14) (hq : ¬ Q 12 ∧ ¬ Q 13 ∧ ¬ Q 14 ∧ ¬ Q (500000 + P.length)) : OA N S' t P := by
  obtain ⟨h1, h2⟩ := h
  have e8 : S'.r (t / 2) = S.r (t / 2) := ((s.2.2.1 _ ht.2.1).2 (by rw [ht.2.2]; exact hq.2.2.1)).2
  refine ⟨by rw [e8]; exact h1.ste s, fun k o hk => ?_⟩
  rw [e8, ((s.2.2.1 _ h1.2.1).2 (by rw [h1.2.2.1]; exact hq.2.2.2)).2]
  exact (h2 k o hk).ste s ⟨hq.1, hq.2.1⟩
/-- the store moves on, the train doesn't -/
theorem LX.ste {S S' : ZS} {t r k j x y : Nat} {A B : TA} {P : List OR4} {Q : Nat → Prop} (h : LX S t r A B P k) (s : Ste Q x y S S') (hq : (∀ q, Q q → noT q) ∧ ¬ Q 12 ∧ ¬ Q 13 ∧ ¬ Q 14 ∧ ∀ n, ¬ Q (500000 + n)) (hj : RM S' j) : LX S' t r A B P j :=
  ⟨h.tt.ste s hq.1, h.oa.gen s h.tt.o ⟨hq.2.1, hq.2.2.1, hq.2.2.2.1, hq.2.2.2.2 _⟩, by rw [s.1]; exact h.rc, h.ww, h.n0, h.ob.ste s, hj⟩
theorem RM.use {S : ZS} {k a b n : Nat} {g : G} (h : RM S k) (ha : a ≤ 3 * n) (hb : b ≤ 18 * n) (hn : n ≤ k) : RM ((S.wg g).use a b) (k - n) := by
  obtain ⟨h1, h2⟩ := h
  refine ⟨?_, ?_⟩
  · show 3 * (k - n) ≤ S.c - a
    omega
  · show 18 * (k - n) ≤ S.w - b
    omega
theorem LX.look {S : ZS} {t r k a b n : Nat} {A B B' : TA} {P : List OR4} {g : G} (h : LX S t r A B P k) (hr : RC B' P g) (ha : a ≤ 3 * n) (hb : b ≤ 18 * n) (hn : n ≤ k) : LX ((S.wg g).use a b) t r A B' P (k - n) :=
  ⟨h.tt, h.oa.zu (g := g) (c := S.c - a) (w := S.w - b), hr, h.ww, h.n0, h.ob, h.rm.use ha hb hn⟩
/-- a call of the class that may throw, and doesn't -/
theorem lx_clR {S : ZS} {t r k : Nat} {A B B' : TA} {P : List OR4} {z : Option XR} {v : Int32} {f : Int32 → ZS → Option (Int32 × ZS)} (h : LX S t r A B P (k + 1)) (hz : ∃ g', z = some (0, v, g') ∧ RC B' P g') (K : ∀ S', LX S' t r A B' P k → Loo S S' → Ret (f v S') S') : Ret (clR Prod.snd S 3 18 z f) S := by
  obtain ⟨g', e, hr⟩ := hz
  have h1 : LX ((S.wg g').use 3 18) t r A B' P k := h.look (n := 1) hr (by omega) (by omega) (by omega)
  obtain ⟨S', k1, k2, k3⟩ := K _ h1 ⟨rfl, rfl, rfl, rfl⟩
  obtain ⟨m1, m2⟩ := h.rm
  refine ⟨S', ?_, Nat.le_trans k2 (Nat.sub_le _ _), Nat.le_trans k3 (Nat.sub_le _ _)⟩
  unfold clR
  rw [if_pos ⟨by omega, by omega⟩, e]
  show (if (0 : Nat) = 0 then chk Prod.snd ((S.wg g').use 3 18) (f v ((S.wg g').use 3 18)) else none) = _
  rw [if_pos rfl]
  exact chk_of k1 k2 k3
theorem lx_clI {α : Type} {S : ZS} {t r k : Nat} {A B B' : TA} {P : List OR4} {z : Option (α × G)} {v : α} {f : α → ZS → Option (Int32 × ZS)} (h : LX S t r A B P k) (hz : ∃ g', z = some (v, g') ∧ RC B' P g') (K : ∀ S', LX S' t r A B' P k → Loo S S' → Ret (f v S') S') : Ret (clI S z f) S := by
  obtain ⟨g', e, hr⟩ := hz
  have h1 : LX (S.wg g') t r A B' P k := h.look (a := 0) (b := 0) (n := 0) hr (by omega) (by omega) (by omega)
  obtain ⟨S', k1, k2, k3⟩ := K _ h1 ⟨rfl, rfl, rfl, rfl⟩
  refine ⟨S', ?_, k2, k3⟩
  rw [e]
  exact k1
/-- a number of the dice -/
theorem lx_next {S : ZS} {t r k n : Nat} {A B : TA} {P : List OR4} {f : Int32 → ZS → Option (Int32 × ZS)} (h : LX S t r A B P k) (h0 : 0 < n) (hn : n < 2 ^ 31) (K : ∀ j S', j < n → LX S' t r A B P k → Ret (f (nI j) S') S') : Ret (rcv S r 11 (b2 Prod.snd (kX9_next r (nI n) S) f)) S := by
  obtain ⟨j, S1, e1, hj, s1⟩ := k_next h.ob h0 hn
  have hcw := s1.cw
  have h1 : LX S1 t r A B P k := h.ste s1 ⟨fun q hq => by unfold QDc at hq; unfold noT; omega, by unfold QDc; omega, by unfold QDc; omega, by unfold QDc; omega, fun n => by unfold QDc; omega⟩ (by
    obtain ⟨m1, m2⟩ := h.rm
    exact ⟨by omega, by omega⟩)
  rw [rcv_o h.ob]
  exact ret_b2 e1 (by omega) (by omega) (K j S1 hj h1)
theorem ret_jobsDone {S : ZS} {t r k : Nat} {A B : TA} {P : List OR4} {f : Int32 → Option (Int32 × ZS)} (h : LX S t r A B P k) (K : Ret (f B.dn) S) : Ret ((k8_jobsDone S.g).bind f) S := by
  rw [q_jobsDone h.rc, some_bind]
  exact K
theorem ret_toGo {S : ZS} {t r k : Nat} {A B : TA} {P : List OR4} {f : Int32 → Option (Int32 × ZS)} (h : LX S t r A B P k) (K : Ret (f B.go) S) : Ret ((k8_minutesToGo S.g).bind f) S := by
  rw [q_minutesToGo h.rc, some_bind]
  exact K
theorem q0 {z : Option XR} {v : Int32} {B : TA} {P : List OR4} {g : G} (h : z = some (0, v, g)) (r : RC B P g) : ∃ g', z = some (0, v, g') ∧ RC B P g' := ⟨g, h, r⟩
