/-! the law's train is changed -/
def NO : Nat → Prop := fun _ => False
def QT : Nat → Prop := fun k => k = 14
theorem TT.no {x y : Nat} {S S' : ZS} {t : Nat} {A : TA} (h : TT S t A) (s : Ste NO x y S S') : TT S' t A := h.ste s (fun _ z => z.elim)
/-- old objects are as they were -/
theorem Ste.old {x y : Nat} {S S' : ZS} (s : Ste NO x y S S') {o : Nat} (ho : o < S.n) : S'.i o = S.i o ∧ S'.r o = S.r o := (s.2.2.1 o ho).2 (fun z => z)
theorem AR.ne {S : ZS} {c d base base' n n' : Nat} (h : AR S c base n) (h' : AR S d base' n') (e : base + n ≠ base' + n') : c / 2 ≠ d / 2 := fun z => e (by rw [← h.2.2.1, ← h'.2.2.1, z])
theorem AR.neO {S : ZS} {c d base pos n : Nat} (h : AR S c base n) (h' : OB S d pos) (e : base + n ≠ pos) : c / 2 ≠ d / 2 := fun z => e (by rw [← h.2.2.1, ← h'.2.2, z])
theorem TT.fld {S : ZS} {t : Nat} {A : TA} (h : TT S t A) (k : Nat) (v : Int32) : ∀ c base n, 100000 ≤ base → AR S c base n → (S.wi (t / 2) k v).i (c / 2) = S.i (c / 2) := fun c base n hb hc => wi_ne (hc.neO h.o (by omega))
theorem TT.sgo {S : ZS} {t : Nat} {A : TA} {v : Int32} (h : TT S t A) : TT (S.wi (t / 2) 5 v) t (A.sGo v) := by
  have f := h.fld 5 v
  refine ⟨h.o, (up_slot (by decide)).trans h.W, (up_slot (by decide)).trans h.lim, up_self, (up_slot (by decide)).trans h.mi, (up_slot (by decide)).trans h.dn, h.am, h.ar, h.aj, fun m hm => ?_, fun m m' hm hm' e => h.mm hm hm' e, fun p hp => ?_, fun k hk => ?_⟩
  · obtain ⟨a1, a2, a3, a4⟩ := h.m hm
    exact ⟨⟨a1, (congrFun (f _ _ _ (by omega) a1) 0).trans a2, (congrFun (f _ _ _ (by omega) a1) 1).trans a3, (congrFun (f _ _ _ (by omega) a1) 2).trans a4⟩, h.mr hm⟩
  · exact (congrFun (f _ _ _ (by omega) h.ar) p).trans (h.p hp)
  · obtain ⟨a1, a2, a3⟩ := h.j hk
    exact ⟨a1, (congrFun (f _ _ _ (by omega) a1) 0).trans a2, (congrFun (f _ _ _ (by omega) a1) 1).trans a3⟩
theorem TT.smi {S : ZS} {t : Nat} {A : TA} {v : Int32} (h : TT S t A) : TT (S.wi (t / 2) 6 v) t (A.sMi v) := by
  have f := h.fld 6 v
  refine ⟨h.o, (up_slot (by decide)).trans h.W, (up_slot (by decide)).trans h.lim, (up_slot (by decide)).trans h.go, up_self, (up_slot (by decide)).trans h.dn, h.am, h.ar, h.aj, fun m hm => ?_, fun m m' hm hm' e => h.mm hm hm' e, fun p hp => ?_, fun k hk => ?_⟩
  · obtain ⟨a1, a2, a3, a4⟩ := h.m hm
    exact ⟨⟨a1, (congrFun (f _ _ _ (by omega) a1) 0).trans a2, (congrFun (f _ _ _ (by omega) a1) 1).trans a3, (congrFun (f _ _ _ (by omega) a1) 2).trans a4⟩, h.mr hm⟩
  · exact (congrFun (f _ _ _ (by omega) h.ar) p).trans (h.p hp)
  · obtain ⟨a1, a2, a3⟩ := h.j hk
    exact ⟨a1, (congrFun (f _ _ _ (by omega) a1) 0).trans a2, (congrFun (f _ _ _ (by omega) a1) 1).trans a3⟩
theorem TT.sdn {S : ZS} {t : Nat} {A : TA} {v : Int32} (h : TT S t A) : TT (S.wi (t / 2) 7 v) t (A.sDn v) := by
  have f := h.fld 7 v
  refine ⟨h.o, (up_slot (by decide)).trans h.W, (up_slot (by decide)).trans h.lim, (up_slot (by decide)).trans h.go, (up_slot (by decide)).trans h.mi, up_self, h.am, h.ar, h.aj, fun m hm => ?_, fun m m' hm hm' e => h.mm hm hm' e, fun p hp => ?_, fun k hk => ?_⟩
  · obtain ⟨a1, a2, a3, a4⟩ := h.m hm
    exact ⟨⟨a1, (congrFun (f _ _ _ (by omega) a1) 0).trans a2, (congrFun (f _ _ _ (by omega) a1) 1).trans a3, (congrFun (f _ _ _ (by omega) a1) 2).trans a4⟩, h.mr hm⟩
  · exact (congrFun (f _ _ _ (by omega) h.ar) p).trans (h.p hp)
  · obtain ⟨a1, a2, a3⟩ := h.j hk
    exact ⟨a1, (congrFun (f _ _ _ (by omega) a1) 0).trans a2, (congrFun (f _ _ _ (by omega) a1) 1).trans a3⟩
/-- other jobs -/
theorem TT.jobs {S : ZS} {t cj J : Nat} {A : TA} {jk : Nat → Int32} {jm : Nat → Nat} (h : TT S t A) (h1 : AR S cj 400000 J) (h2 : ∀ k, k < J → JB S (S.r (cj / 2) k) (jk k) (jm k)) : TT (S.wr (t / 2) 4 cj) t (A.sQ J jk jm A.go) := by
  have f : ∀ c base n, 100000 ≤ base → AR S c base n → (S.wr (t / 2) 4 cj).r (c / 2) = S.r (c / 2) := fun c base n hb hc => wr_ne (hc.neO h.o (by omega))
  have e2 : (S.wr (t / 2) 4 cj).r (t / 2) 2 = S.r (t / 2) 2 := ur_slot (by decide)
  have e3 : (S.wr (t / 2) 4 cj).r (t / 2) 3 = S.r (t / 2) 3 := ur_slot (by decide)
  have e4 : (S.wr (t / 2) 4 cj).r (t / 2) 4 = cj := ur_self
  refine ⟨h.o, h.W, h.lim, h.go, h.mi, h.dn, by rw [e2]; exact h.am, by rw [e3]; exact h.ar, by rw [e4]; exact h1, fun m hm => ?_, fun m m' hm hm' e => ?_, fun p hp => ?_, fun k hk => ?_⟩
  · rw [e2, e3, f _ _ _ (by omega) h.am]
    exact ⟨h.m hm, h.mr hm⟩
  · rw [e2, f _ _ _ (by omega) h.am]
    exact h.mm hm hm' e
  · rw [e3]
    exact h.p hp
  · rw [e4, f _ _ _ (by omega) h1]
    exact h2 k hk
/-- another row -/
theorem TT.row {S : ZS} {t cr : Nat} {A : TA} {rw : Nat → Nat} (h : TT S t A) (h1 : AR S cr 100000 A.N) (h2 : ∀ p, p < A.N → S.i (cr / 2) p = nI (rw p)) (h3 : ∀ m, m < A.N → S.r (S.r (t / 2) 2 / 2) m ≠ cr) : TT (S.wr (t / 2) 3 cr) t (A.sRw rw) := by
  have f : ∀ c base n, 100000 ≤ base → AR S c base n → (S.wr (t / 2) 3 cr).r (c / 2) = S.r (c / 2) := fun c base n hb hc => wr_ne (hc.neO h.o (by omega))
  have e2 : (S.wr (t / 2) 3 cr).r (t / 2) 2 = S.r (t / 2) 2 := ur_slot (by decide)
  have e3 : (S.wr (t / 2) 3 cr).r (t / 2) 3 = cr := ur_self
  have e4 : (S.wr (t / 2) 3 cr).r (t / 2) 4 = S.r (t / 2) 4 := ur_slot (by decide)
  refine ⟨h.o, h.W, h.lim, h.go, h.mi, h.dn, by rw [e2]; exact h.am, by rw [e3]; exact h1, by rw [e4]; exact h.aj, fun m hm => ?_, fun m m' hm hm' e => ?_, fun p hp => ?_, fun k hk => ?_⟩
  · rw [e2, e3, f _ _ _ (by omega) h.am]
    exact ⟨h.m hm, h3 m hm⟩
  · rw [e2, f _ _ _ (by omega) h.am]
    exact h.mm hm hm' e
  · rw [e3]
    exact h2 p hp
  · rw [e4, f _ _ _ (by omega) h.aj]
    exact h.j hk
/-- a number of a mirror -/
theorem TT.num {S : ZS} {t m k : Nat} {v : Int32} {A A' : TA} (h : TT S t A) (hm : m < A.N) (hs : A'.N = A.N ∧ A'.W = A.W ∧ A'.lim = A.lim ∧ A'.rw = A.rw ∧ A'.J = A.J ∧ A'.jk = A.jk ∧ A'.jm = A.jm ∧ A'.go = A.go ∧ A'.mi = A.mi ∧ A'.dn = A.dn) (hx : ∀ i, i < A.N → i ≠ m → A'.cl i = A.cl i ∧ A'.be i = A.be i ∧ A'.of i = A.of i) (h0 : A'.cl m = if k = 0 then v else A.cl m) (h1 : A'.be m = if k = 1 then v else A.be m) (h2 : A'.of m = if k = 2 then v else A.of m) : TT (S.wi (S.r (S.r (t / 2) 2 / 2) m / 2) k v) t A' := by
  obtain ⟨s1, s2, s3, s4, s5, s6, s7, s8, s9, s10⟩ := hs
  obtain ⟨b1, b2, b3, b4⟩ := h.m hm
  have et : (S.wi (S.r (S.r (t / 2) 2 / 2) m / 2) k v).i (t / 2) = S.i (t / 2) := wi_ne (fun z => b1.neO h.o (by omega) z.symm)
  refine ⟨h.o, by rw [et, s2]; exact h.W, by rw [et, s3]; exact h.lim, by rw [et, s8]; exact h.go, by rw [et, s9]; exact h.mi, by rw [et, s10]; exact h.dn, by rw [s1]; exact h.am, by rw [s1]; exact h.ar, by rw [s5]; exact h.aj, fun i hi => ?_, fun i i' hi hi' e => ?_, fun p hp => ?_, fun j hj => ?_⟩
  · rw [s1] at hi
    refine ⟨?_, h.mr hi⟩
    by_cases e : i = m
    · subst e
      have key : ∀ (j : Nat) (x : Int32), S.i (S.r (S.r (t / 2) 2 / 2) i / 2) j = x → up S.i (S.r (S.r (t / 2) 2 / 2) i / 2) k v (S.r (S.r (t / 2) 2 / 2) i / 2) j = if k = j then v else x := by
        intro j x hx
        by_cases z : j = k
        · subst z
          rw [up_self, if_pos rfl]
        · rw [up_slot z, hx, if_neg (fun y => z y.symm)]
      exact ⟨b1, by rw [h0]; exact key 0 _ b2, by rw [h1]; exact key 1 _ b3, by rw [h2]; exact key 2 _ b4⟩
    · obtain ⟨c1, c2, c3⟩ := hx i hi e
      obtain ⟨d1, d2, d3, d4⟩ := h.m hi
      have ei : (S.wi (S.r (S.r (t / 2) 2 / 2) m / 2) k v).i (S.r (S.r (t / 2) 2 / 2) i / 2) = S.i (S.r (S.r (t / 2) 2 / 2) i / 2) := wi_ne (half_ne d1.1 b1.1 (h.mm hi hm e))
      exact ⟨d1, by rw [c1]; exact (congrFun ei 0).trans d2, by rw [c2]; exact (congrFun ei 1).trans d3, by rw [c3]; exact (congrFun ei 2).trans d4⟩
  · exact h.mm (by rw [← s1]; exact hi) (by rw [← s1]; exact hi') e
  · rw [s1] at hp
    have er : (S.wi (S.r (S.r (t / 2) 2 / 2) m / 2) k v).i (S.r (t / 2) 3 / 2) = S.i (S.r (t / 2) 3 / 2) := wi_ne (half_ne h.ar.1 b1.1 (fun z => h.mr hm z.symm))
    rw [s4]
    exact (congrFun er p).trans (h.p hp)
  · rw [s5] at hj
    obtain ⟨d1, d2, d3⟩ := h.j hj
    have ej : (S.wi (S.r (S.r (t / 2) 2 / 2) m / 2) k v).i (S.r (S.r (t / 2) 4 / 2) j / 2) = S.i (S.r (S.r (t / 2) 4 / 2) j / 2) := wi_ne (d1.ne b1 (by omega))
    rw [s6, s7]
    exact ⟨d1, (congrFun ej 0).trans d2, (congrFun ej 1).trans d3⟩
theorem TT.turn {S : ZS} {t m : Nat} {v : Int32} {A : TA} (h : TT S t A) (hm : m < A.N) : TT (S.wi (S.r (S.r (t / 2) 2 / 2) m / 2) 2 v) t (turnA A m v) :=
  h.num hm ⟨rfl, rfl, rfl, rfl, rfl, rfl, rfl, rfl, rfl, rfl⟩ (fun i _ e => ⟨rfl, rfl, updI_ne e⟩) rfl rfl updI_eq
theorem TT.clar {S : ZS} {t m : Nat} {v : Int32} {A : TA} (h : TT S t A) (hm : m < A.N) : TT (S.wi (S.r (S.r (t / 2) 2 / 2) m / 2) 0 v) t (clarA A m v) :=
  h.num hm ⟨rfl, rfl, rfl, rfl, rfl, rfl, rfl, rfl, rfl, rfl⟩ (fun i _ e => ⟨updI_ne e, rfl, rfl⟩) updI_eq rfl rfl
theorem TT.best {S : ZS} {t m : Nat} {v : Int32} {A : TA} (h : TT S t A) (hm : m < A.N) : TT (S.wi (S.r (S.r (t / 2) 2 / 2) m / 2) 1 v) t (A.sBe (updI A.be m v)) :=
  h.num hm ⟨rfl, rfl, rfl, rfl, rfl, rfl, rfl, rfl, rfl, rfl⟩ (fun i _ e => ⟨rfl, updI_ne e, rfl⟩) rfl updI_eq rfl
/-! a job is ordered -/
theorem order75 {S0 : ZS} {t k m v3 : Nat} {A : TA} (h : TT S0 t A) (hA : WA A) (hn : A.J ≤ 11) (hm : m < A.N) : ∀ (d p f : Nat) (S : ZS), A.J = p + d → d < f → Ste NO 1 (A.J + 1) S0 S → v3 / 2 = S0.n → AR S v3 400000 (A.J + 1) → (∀ j, j < p → S.r (v3 / 2) j = S0.r (S0.r (t / 2) 4 / 2) j) → 3 ≤ S.c → 20 ≤ S.w → ∃ S', kX12_order_75 f t (nI k) (nI m) v3 (nI p) S = some (1, S') ∧ Ste QT 2 (A.J + 3) S0 S' ∧ TT S' t (A.sQ (A.J + 1) (updI A.jk A.J (nI k)) (updN A.jm A.J m) A.go) ∧ S'.r (t / 2) 8 = S0.r (t / 2) 8 ∧ S'.c ≤ S.c ∧ S'.w ≤ S.w := by
  intro d
  induction d with
  | zero =>
    intro p f S hd hf hs hv ha hr hc hw
    obtain ⟨f, rfl⟩ : ∃ z, f = z + 1 := ⟨f - 1, by omega⟩
    obtain rfl : A.J = p := by omega
    have hS := h.no hs
    have hSr := (hs.old h.o.2.1).2
    have hn0 : S0.n ≤ S.n := hs.2.1
    have s1 : Ste NO 1 2 S (S.new (100000 + 2) 2 z0) := Ste.new (by omega) (by omega)
    have aj : AR (S.new (100000 + 2) 2 z0) (2 * S.n + 1) 100000 2 := AR.mk (by omega)
    obtain ⟨S1, eS1⟩ : ∃ z, z = ((S.new (100000 + 2) 2 z0).wi ((2 * S.n + 1) / 2) 0 (nI k)).wi ((2 * S.n + 1) / 2) 1 (nI m) := ⟨_, rfl⟩
    have s2 : Ste NO 1 2 S S1 := by
      rw [eS1]
      refine ⟨s1.1, s1.2.1, fun o ho => ⟨(s1.2.2.1 o ho).1, fun z => ⟨?_, ((s1.2.2.1 o ho).2 z).2⟩⟩, s1.2.2.2.1, s1.2.2.2.2.1, s1.2.2.2.2.2.1, s1.2.2.2.2.2.2⟩
      rw [wi_ne (by rw [(nw_o _).2]; omega), wi_ne (by rw [(nw_o _).2]; omega)]
      exact ((s1.2.2.1 o ho).2 z).1
    have aj1 : AR S1 (2 * S.n + 1) 100000 2 := by rw [eS1]; exact aj
    have j1 : JB S1 (2 * S.n + 1) (nI k) m := ⟨aj1, by rw [eS1]; exact (up_slot (by decide)).trans up_self, by rw [eS1]; exact up_self⟩
    have ha1 : AR S1 v3 400000 (A.J + 1) := ha.ste s2
    have hT1 := hS.no s2
    have hr1 : S1.r = (S.new (100000 + 2) 2 z0).r := by rw [eS1]; rfl
    obtain ⟨S2, eS2⟩ : ∃ z, z = S1.wr (v3 / 2) A.J (2 * S.n + 1) := ⟨_, rfl⟩
    have hv2 : v3 / 2 < S.n := ha.2.1
    have hT2 : TT S2 t A := by
      have s3 : Ste NO 2 (A.J + 3) S0 S2 := by
        have s4 := hs.trans s2
        rw [eS2]
        refine ⟨s4.1, s4.2.1, fun o ho => ⟨(s4.2.2.1 o ho).1, fun z => ⟨((s4.2.2.1 o ho).2 z).1, ?_⟩⟩, s4.2.2.2.1, s4.2.2.2.2.1, s4.2.2.2.2.2.1, by have := s4.2.2.2.2.2.2; show S0.w ≤ S1.w + (A.J + 3); omega⟩
        rw [wr_ne (by omega)]
        exact ((s4.2.2.1 o ho).2 z).2
      exact h.no s3
    have s3 : Ste NO 2 (A.J + 3) S0 S2 := by
      have s4 := hs.trans s2
      rw [eS2]
      refine ⟨s4.1, s4.2.1, fun o ho => ⟨(s4.2.2.1 o ho).1, fun z => ⟨((s4.2.2.1 o ho).2 z).1, ?_⟩⟩, s4.2.2.2.1, s4.2.2.2.2.1, s4.2.2.2.2.2.1, by have := s4.2.2.2.2.2.2; show S0.w ≤ S1.w + (A.J + 3); omega⟩
      rw [wr_ne (by omega)]
      exact ((s4.2.2.1 o ho).2 z).2
    have a2 : AR S2 v3 400000 (A.J + 1) := by rw [eS2]; exact ha1
    have hT3 := hT2.jobs (cj := v3) (J := A.J + 1) (jk := updI A.jk A.J (nI k)) (jm := updN A.jm A.J m) a2 (fun i hi => by
      by_cases e : i = A.J
      · subst e
        rw [updI_eq, updN_eq, eS2]
        show JB S1 (ur S1.r (v3 / 2) A.J (2 * S.n + 1) (v3 / 2) A.J) (nI k) m
        rw [ur_self]
        exact j1
      · have hi' : i < A.J := by omega
        rw [updI_ne e, updN_ne e]
        have er : S2.r (v3 / 2) i = S0.r (S0.r (t / 2) 4 / 2) i := by
          rw [eS2]
          show ur S1.r (v3 / 2) A.J (2 * S.n + 1) (v3 / 2) i = _
          rw [ur_slot e, hr1, nwR hv2]
          exact hr i hi'
        rw [er]
        obtain ⟨b1, b2, b3⟩ := h.j hi'
        exact ⟨b1.ste s3, by rw [(s3.old b1.2.1).1]; exact b2, by rw [(s3.old b1.2.1).1]; exact b3⟩)
    refine ⟨S2.wr (t / 2) 4 v3, ?_, ?_, hT3, ?_, by rw [eS2, eS1]; exact Nat.sub_le _ _, by rw [eS2, eS1]; exact Nat.sub_le _ _⟩
    · have hr4 : S.r (t / 2) 4 = S0.r (t / 2) 4 := congrFun hSr 4
      unfold kX12_order_75
      rw [gN_o hS.o hS.aj.ne0, aL_n hS.aj, if_pos (by rw [nI_leI (by omega) (by omega)]; omega), gN_o hS.o hS.aj.ne0, aL_n hS.aj]
      show nA Prod.snd S 100000 (nI 2) _ = _
      rw [nA_n (by omega) (by omega) (by omega)]
      have p0 : ∀ (T : ZS) (v : Int32) (f : ZS → Option (Int32 × ZS)), AR T (2 * S.n + 1) 100000 2 → aP T (2 * S.n + 1) 100000 0 v f = f (T.wi ((2 * S.n + 1) / 2) 0 v) := fun T v f hT => aP_n (j := 0) hT (by omega)
      have p1 : ∀ (T : ZS) (v : Int32) (f : ZS → Option (Int32 × ZS)), AR T (2 * S.n + 1) 100000 2 → aP T (2 * S.n + 1) 100000 1 v f = f (T.wi ((2 * S.n + 1) / 2) 1 v) := fun T v f hT => aP_n (j := 1) hT (by omega)
      refine chk_of (r := (1, S2.wr (t / 2) 4 v3)) ?_ ?_ ?_
      · rw [p0 _ _ _ aj, p1 ((S.new (100000 + 2) 2 z0).wi ((2 * S.n + 1) / 2) 0 (nI k)) _ _ aj, ← eS1, aR_n ha1 (by omega) aj1.okE, ← eS2, pR_o hT2.o]
      · rw [eS2, eS1]; exact Nat.le_refl _
      · rw [eS2, eS1]; exact Nat.le_refl _
    · exact (Ste.trans (s3.mono (fun _ z => z.elim) (Nat.le_refl _) (Nat.le_refl _)) (Ste.wr (Q := QT) (k := 4) (d := v3) (fun _ => hT2.o.2.2)))
    · show ur S2.r (t / 2) 4 v3 (t / 2) 8 = _
      rw [ur_slot (by decide)]
      exact congrFun (s3.old h.o.2.1).2 8
  | succ d ih =>
    intro p f S hd hf hs hv ha hr hc hw
    obtain ⟨f, rfl⟩ : ∃ z, f = z + 1 := ⟨f - 1, by omega⟩
    have hS := h.no hs
    have hp : p < A.J := by omega
    have hSr := (hs.old h.o.2.1).2
    obtain ⟨b1, b2, b3⟩ := hS.j hp
    have hnn : S0.n ≤ S.n := hs.2.1
    have hjo : S0.r (t / 2) 4 / 2 < S0.n := h.aj.2.1
    obtain ⟨S1, eS1⟩ : ∃ z, z = S.wr (v3 / 2) p (S.r (S.r (t / 2) 4 / 2) p) := ⟨_, rfl⟩
    have s1 : Ste NO 1 (A.J + 1) S0 S1 := by
      rw [eS1]
      refine ⟨hs.1, hs.2.1, fun o ho => ⟨(hs.2.2.1 o ho).1, fun z => ⟨((hs.2.2.1 o ho).2 z).1, ?_⟩⟩, hs.2.2.2.1, hs.2.2.2.2.1, hs.2.2.2.2.2.1, hs.2.2.2.2.2.2⟩
      rw [wr_ne (by omega)]
      exact ((hs.2.2.1 o ho).2 z).2
    obtain ⟨S', e1, q1, q2, q3, q4, q5⟩ := ih (p + 1) f S1 (by omega) (by omega) s1 hv (by rw [eS1]; exact ha) (fun j hj => by
      rw [eS1]
      show ur S.r (v3 / 2) p (S.r (S.r (t / 2) 4 / 2) p) (v3 / 2) j = _
      by_cases e : j = p
      · subst e
        rw [ur_self, congrFun hSr 4, (hs.old hjo).2]
      · rw [ur_slot e]
        exact hr j (by omega)) (by rw [eS1]; exact hc) (by rw [eS1]; exact hw)
    refine ⟨S', ?_, q1, q2, q3, by rw [eS1] at q4; exact q4, by rw [eS1] at q5; exact q5⟩
    unfold kX12_order_75
    rw [gN_o hS.o hS.aj.ne0, aL_n hS.aj, if_neg (by rw [nI_leI (by omega) (by omega)]; omega), gN_o hS.o hS.aj.ne0, aN_n hS.aj hp b1.ne0, aR_n ha (by omega) b1.okE, ← eS1, bd_eq, nI_1]
    exact e1
theorem order12 {S : ZS} {t k m : Nat} {A : TA} (h : TT S t A) (hA : WA A) (hm : m < A.N) (hc : 5 ≤ S.c) (hw : 50 ≤ S.w) : ∀ (d p f : Nat), A.J = p + d → d < f → ∃ v S', kX12_order_12 f t (nI k) (nI m) (S.r (t / 2) 4) (nI A.J) (nI p) S = some (v, S') ∧ ((jfd A (nI k) m d p = true ∨ 12 ≤ A.J) ∧ v = 0 ∧ S' = S ∨ (¬ jfd A (nI k) m d p = true ∧ ¬ 12 ≤ A.J) ∧ v = 1 ∧ Ste QT 2 20 S S' ∧ TT S' t (A.sQ (A.J + 1) (updI A.jk A.J (nI k)) (updN A.jm A.J m) A.go) ∧ S'.r (t / 2) 8 = S.r (t / 2) 8) := by
  have hJ := hA.J12
  have hN := hA.N9
  intro d
  induction d with
  | zero =>
    intro p f hd hf
    obtain ⟨f, rfl⟩ : ∃ z, f = z + 1 := ⟨f - 1, by omega⟩
    unfold kX12_order_12 jfd
    rw [if_pos (by rw [nI_leI (by omega) (by omega)]; omega), gN_o h.o h.aj.ne0, aL_n h.aj]
    by_cases e : 12 ≤ A.J
    · have e2 : nI A.J = 12 := by rw [show A.J = 12 by omega]; rfl
      exact ⟨0, S, by rw [if_pos e2], Or.inl ⟨Or.inr e, rfl, rfl⟩⟩
    · have e2 : ¬ nI A.J = 12 := fun z => e (Nat.le_of_eq (nI_inj (a := 12) (by omega) (by omega) z.symm))
      rw [if_neg e2, gN_o h.o h.aj.ne0, aL_n h.aj, nI_1, nA_n (by omega) (by omega) (by omega)]
      have s1 : Ste NO 1 (A.J + 1) S (S.new (400000 + (A.J + 1)) (A.J + 1) z0) := Ste.new (by omega) (by omega)
      obtain ⟨S', e3, q1, q2, q3, q4, q5⟩ := order75 (k := k) (v3 := 2 * S.n + 1) h hA (by omega) hm A.J 0 FU (S.new (400000 + (A.J + 1)) (A.J + 1) z0) (by omega) (by unfold FU; omega) s1 (nw_o _).2 (AR.mk (by omega)) (fun j hj => by omega) (by show 3 ≤ S.c - 1; omega) (by show 20 ≤ S.w - (A.J + 1); omega)
      refine ⟨1, S', ?_, Or.inr ⟨⟨by decide, e⟩, rfl, q1.mono (fun _ z => z) (Nat.le_refl _) (by omega), q2, q3⟩⟩
      exact chk_of e3 q4 q5
  | succ d ih =>
    intro p f hd hf
    obtain ⟨f, rfl⟩ : ∃ z, f = z + 1 := ⟨f - 1, by omega⟩
    have hp : p < A.J := by omega
    obtain ⟨b1, b2, b3⟩ := h.j hp
    have hjm := (hA.jb hp).1
    have g0 : ∀ f : Int32 → Option (Int32 × ZS), aG S (S.r (S.r (t / 2) 4 / 2) p) 100000 0 f = f (S.i (S.r (S.r (t / 2) 4 / 2) p / 2) 0) := fun f => aG_n (j := 0) b1 (by omega)
    have g1 : ∀ f : Int32 → Option (Int32 × ZS), aG S (S.r (S.r (t / 2) 4 / 2) p) 100000 1 f = f (S.i (S.r (S.r (t / 2) 4 / 2) p / 2) 1) := fun f => aG_n (j := 1) b1 (by omega)
    unfold kX12_order_12 jfd
    rw [if_neg (by rw [nI_leI (by omega) (by omega)]; omega), aN_n h.aj hp b1.ne0, g0, b2]
    by_cases e : A.jk p = nI k
    · rw [if_pos e, g1, b3]
      by_cases e2 : A.jm p = m
      · rw [if_pos (by rw [e2]), if_pos ⟨e, e2⟩]
        exact ⟨0, S, rfl, Or.inl ⟨Or.inl rfl, rfl, rfl⟩⟩
      · rw [if_neg (fun z => e2 (nI_inj (by omega) (by omega) z)), if_neg (fun z => e2 z.2), bd_eq, nI_1]
        exact ih (p + 1) f (by omega) (by omega)
    · rw [if_neg e, if_neg (fun z => e z.1), bd_eq, nI_1]
      exact ih (p + 1) f (by omega) (by omega)
theorem k_order {S : ZS} {t k m : Nat} {A : TA} (h : TT S t A) (hA : WA A) (hm : m < A.N) (hk : k < 3) (hc : 5 ≤ S.c) (hw : 50 ≤ S.w) : ∃ v S', kX12_order t (nI k) (nI m) S = some (v, S') ∧ Ste QT 2 20 S S' ∧ TT S' t (ordA A (nI k) m) ∧ S'.r (t / 2) 8 = S.r (t / 2) 8 ∧ ((jhas A (nI k) m = true ∨ 12 ≤ A.J) → v = 0) ∧ (¬ jhas A (nI k) m = true → ¬ 12 ≤ A.J → v = 1) := by
  obtain ⟨v, S', e, h1⟩ := order12 (k := k) h hA hm hc hw A.J 0 FU (by omega) (by have := hA.J12; unfold FU; omega)
  have e9 : kX12_order t (nI k) (nI m) S = some (v, S') ∨ False := by
    refine Or.inl ?_
    unfold kX12_order
    have hle : S'.c ≤ S.c ∧ S'.w ≤ S.w := by
      rcases h1 with ⟨-, -, rfl⟩ | ⟨-, -, s, -⟩
      · exact ⟨Nat.le_refl _, Nat.le_refl _⟩
      · exact ⟨s.2.2.2.1, s.2.2.2.2.2.1⟩
    refine chk_of ?_ hle.1 hle.2
    rw [gN_o h.o h.aj.ne0, aL_n h.aj]
    exact e
  have e9 := e9.resolve_right (fun z => z)
  rcases h1 with ⟨a1, a2, a3⟩ | ⟨⟨a1, a2⟩, a3, a4, a5, a6⟩
  · subst a3
    refine ⟨v, S', e9, Ste.refl.mono (fun _ z => z) (by omega) (by omega), ?_, rfl, fun _ => a2, fun z1 z2 => ?_⟩
    · rcases a1 with z | z
      · rw [ordA_has z]; exact h
      · rw [ordA_full z]; exact h
    · rcases a1 with z | z
      · exact absurd z z1
      · exact absurd z z2
  · refine ⟨v, S', e9, a4, ?_, a6, fun z => ?_, fun _ _ => a3⟩
    · rw [ordA_new a1 a2]; exact a5
    · rcases z with z | z
      · exact absurd z a1
      · exact absurd z a2
