/-! the law's train is made, gets mirrors -/
def FD (S : ZS) (t : Nat) (fi : Nat → Int32) (fr : Nat → Nat) : Prop := OB S t 14 ∧ S.i (t / 2) = fi ∧ S.r (t / 2) = fr
theorem FD.wi {S : ZS} {t k : Nat} {v : Int32} {fi : Nat → Int32} {fr : Nat → Nat} (h : FD S t fi fr) : FD (S.wi (t / 2) k v) t (upd fi k v) fr := ⟨h.1, by rw [wi_eq, h.2.1], h.2.2⟩
theorem FD.wr {S : ZS} {t k d : Nat} {fi : Nat → Int32} {fr : Nat → Nat} (h : FD S t fi fr) : FD (S.wr (t / 2) k d) t fi (va_up fr k d) := ⟨h.1, h.2.1, by rw [wr_eq, h.2.2]⟩
theorem FD.new {S : ZS} {t kind sl : Nat} {f : Nat → Int32} {fi : Nat → Int32} {fr : Nat → Nat} (h : FD S t fi fr) : FD (S.new kind sl f) t fi fr := ⟨h.1.new, (nwI h.1.2.1).trans h.2.1, (nwR h.1.2.1).trans h.2.2⟩
theorem FD.wi' {S S' : ZS} {t k : Nat} {v : Int32} {fi : Nat → Int32} {fr : Nat → Nat} (h : FD S t fi fr) (e : S' = S.wi (t / 2) k v) : FD S' t (upd fi k v) fr := by
  rw [e]
  exact h.wi
theorem FD.wr' {S S' : ZS} {t k d : Nat} {fi : Nat → Int32} {fr : Nat → Nat} (h : FD S t fi fr) (e : S' = S.wr (t / 2) k d) : FD S' t fi (va_up fr k d) := by
  rw [e]
  exact h.wr
theorem FD.new' {S S' : ZS} {t kind sl : Nat} {f : Nat → Int32} {fi : Nat → Int32} {fr : Nat → Nat} (h : FD S t fi fr) (e : S' = S.new kind sl f) : FD S' t fi fr := by
  rw [e]
  exact h.new
/-- a train without mirrors -/
def trN (W lim : Int32) : TA := (0, W, lim, fun _ => 0, fun _ => 0, fun _ => 0, fun _ => 0, 0, fun _ => 0, fun _ => 0, 0, 0, 0)
theorem k_init {S0 : ZS} (hc : 6 ≤ S0.c) (hw : 20 ≤ S0.w) : ∃ S', kX12_init (2 * S0.n + 1) (S0.new 14 9 z0) = some S' ∧ Ste NO 5 9 S0 S' ∧ TT S' (2 * S0.n + 1) (trN 60 1000) ∧ S'.c ≤ (S0.new 14 9 z0).c ∧ S'.w ≤ (S0.new 14 9 z0).w := by
  obtain ⟨t, ht⟩ : ∃ t, t = 2 * S0.n + 1 := ⟨_, rfl⟩
  have hd : t / 2 = S0.n := by rw [ht]; exact (nw_o _).2
  obtain ⟨S1, e1⟩ : ∃ z, z = S0.new 14 9 z0 := ⟨_, rfl⟩
  have f1 : FD S1 t z0 (fun _ => 0) := by
    rw [e1, ht]
    refine ⟨OB.mk, by rw [(nw_o _).2]; exact nwI0, ?_⟩
    rw [(nw_o _).2]
    funext k
    exact nwR0
  have s1 : Ste NO 1 9 S0 S1 := by rw [e1]; exact Ste.new (by omega) (by omega)
  have c1 : S1.c = S0.c - 1 ∧ S1.w = S0.w - 9 ∧ S1.n = S0.n + 1 := by rw [e1]; exact ⟨rfl, rfl, rfl⟩
  obtain ⟨S2, e2⟩ : ∃ z, z = S1.wi (t / 2) 0 60 := ⟨_, rfl⟩
  have f2 := FD.wi' f1 e2
  have s2 : Ste NO 1 9 S0 S2 := by rw [e2]; exact s1.fillI (by omega)
  obtain ⟨S3, e3⟩ : ∃ z, z = S2.wi (t / 2) 1 1000 := ⟨_, rfl⟩
  have f3 := FD.wi' f2 e3
  have s3 : Ste NO 1 9 S0 S3 := by rw [e3]; exact s2.fillI (by omega)
  have c3 : S3.c = S1.c ∧ S3.w = S1.w ∧ S3.n = S1.n := by rw [e3, e2]; exact ⟨rfl, rfl, rfl⟩
  obtain ⟨S4, e4⟩ : ∃ z, z = S3.new (400000 + 0) 0 z0 := ⟨_, rfl⟩
  have f4 := FD.new' f3 e4
  have a4 : AR S4 (2 * S3.n + 1) 400000 0 := by rw [e4]; exact AR.mk (sl := 0) (f := z0) (by omega)
  have s4 : Ste NO 2 9 S0 S4 := by rw [e4]; exact s3.trans (Ste.new (sl := 0) (by omega) (by omega))
  have c4 : S4.c = S3.c - 1 ∧ S4.w = S3.w ∧ S4.n = S3.n + 1 := by rw [e4]; exact ⟨rfl, rfl, rfl⟩
  obtain ⟨S5, e5⟩ : ∃ z, z = S4.wr (t / 2) 2 (2 * S3.n + 1) := ⟨_, rfl⟩
  have f5 := FD.wr' f4 e5
  have a5 : AR S5 (2 * S3.n + 1) 400000 0 := by rw [e5]; exact a4
  have s5 : Ste NO 2 9 S0 S5 := by rw [e5]; exact s4.fill (by omega)
  have c5 : S5.c = S4.c ∧ S5.w = S4.w ∧ S5.n = S4.n := by rw [e5]; exact ⟨rfl, rfl, rfl⟩
  obtain ⟨S6, e6⟩ : ∃ z, z = S5.new (100000 + 0) 0 z0 := ⟨_, rfl⟩
  have f6 := FD.new' f5 e6
  have a6 : AR S6 (2 * S5.n + 1) 100000 0 := by rw [e6]; exact AR.mk (sl := 0) (f := z0) (by omega)
  have b6 : AR S6 (2 * S3.n + 1) 400000 0 := by rw [e6]; exact a5.new (sl := 0) (f := z0)
  have s6 : Ste NO 3 9 S0 S6 := by rw [e6]; exact s5.trans (Ste.new (sl := 0) (by omega) (by omega))
  have c6 : S6.c = S5.c - 1 ∧ S6.w = S5.w ∧ S6.n = S5.n + 1 := by rw [e6]; exact ⟨rfl, rfl, rfl⟩
  obtain ⟨S7, e7⟩ : ∃ z, z = S6.wr (t / 2) 3 (2 * S5.n + 1) := ⟨_, rfl⟩
  have f7 := FD.wr' f6 e7
  have a7 : AR S7 (2 * S5.n + 1) 100000 0 := by rw [e7]; exact a6
  have b7 : AR S7 (2 * S3.n + 1) 400000 0 := by rw [e7]; exact b6
  have s7 : Ste NO 3 9 S0 S7 := by rw [e7]; exact s6.fill (by omega)
  have c7 : S7.c = S6.c ∧ S7.w = S6.w ∧ S7.n = S6.n := by rw [e7]; exact ⟨rfl, rfl, rfl⟩
  obtain ⟨S8, e8⟩ : ∃ z, z = S7.new (400000 + 0) 0 z0 := ⟨_, rfl⟩
  have f8 := FD.new' f7 e8
  have a8 : AR S8 (2 * S7.n + 1) 400000 0 := by rw [e8]; exact AR.mk (sl := 0) (f := z0) (by omega)
  have b8 : AR S8 (2 * S3.n + 1) 400000 0 := by rw [e8]; exact b7.new (sl := 0) (f := z0)
  have d8 : AR S8 (2 * S5.n + 1) 100000 0 := by rw [e8]; exact a7.new (sl := 0) (f := z0)
  have s8 : Ste NO 4 9 S0 S8 := by rw [e8]; exact s7.trans (Ste.new (sl := 0) (by omega) (by omega))
  have c8 : S8.c = S7.c - 1 ∧ S8.w = S7.w ∧ S8.n = S7.n + 1 := by rw [e8]; exact ⟨rfl, rfl, rfl⟩
  obtain ⟨S9, e9⟩ : ∃ z, z = S8.wr (t / 2) 4 (2 * S7.n + 1) := ⟨_, rfl⟩
  have f9 := FD.wr' f8 e9
  have a9 : AR S9 (2 * S7.n + 1) 400000 0 := by rw [e9]; exact a8
  have b9 : AR S9 (2 * S3.n + 1) 400000 0 := by rw [e9]; exact b8
  have d9 : AR S9 (2 * S5.n + 1) 100000 0 := by rw [e9]; exact d8
  have s9 : Ste NO 4 9 S0 S9 := by rw [e9]; exact s8.fill (by omega)
  have c9 : S9.c = S8.c ∧ S9.w = S8.w ∧ S9.n = S8.n := by rw [e9]; exact ⟨rfl, rfl, rfl⟩
  obtain ⟨Sa, ea⟩ : ∃ z, z = S9.new (500000 + 0) 0 z0 := ⟨_, rfl⟩
  have fa := FD.new' f9 ea
  have aa : AR Sa (2 * S7.n + 1) 400000 0 := by rw [ea]; exact a9.new (sl := 0) (f := z0)
  have ba : AR Sa (2 * S3.n + 1) 400000 0 := by rw [ea]; exact b9.new (sl := 0) (f := z0)
  have da : AR Sa (2 * S5.n + 1) 100000 0 := by rw [ea]; exact d9.new (sl := 0) (f := z0)
  have sa : Ste NO 5 9 S0 Sa := by rw [ea]; exact s9.trans (Ste.new (sl := 0) (by omega) (by omega))
  have ca : Sa.c = S9.c - 1 ∧ Sa.w = S9.w := by rw [ea]; exact ⟨rfl, rfl⟩
  obtain ⟨Sb, eb⟩ : ∃ z, z = Sa.wr (t / 2) 8 (2 * S9.n + 1) := ⟨_, rfl⟩
  have fb := FD.wr' fa eb
  have ab : AR Sb (2 * S7.n + 1) 400000 0 := by rw [eb]; exact aa
  have bb : AR Sb (2 * S3.n + 1) 400000 0 := by rw [eb]; exact ba
  have db : AR Sb (2 * S5.n + 1) 100000 0 := by rw [eb]; exact da
  have sb : Ste NO 5 9 S0 Sb := by rw [eb]; exact sa.fill (by omega)
  have cb : Sb.c = Sa.c ∧ Sb.w = Sa.w := by rw [eb]; exact ⟨rfl, rfl⟩
  rw [← ht, ← e1]
  refine ⟨Sb, ?_, sb, ?_, by omega, by omega⟩
  · unfold kX12_init
    have z0' : (0 : Int32) = nI 0 := rfl
    refine chk_of ?_ (show Sb.c ≤ S1.c by omega) (show Sb.w ≤ S1.w by omega)
    rw [pI_o f1.1, ← e2, pI_o f2.1, ← e3, z0', nA_n (by omega) (by omega) (by omega), ← e4]
    refine chk_of ?_ (show Sb.c ≤ S4.c by omega) (show Sb.w ≤ S4.w by omega)
    rw [pR_o f4.1, ← e5, nA_n (by omega) (by omega) (by omega), ← e6]
    refine chk_of ?_ (show Sb.c ≤ S6.c by omega) (show Sb.w ≤ S6.w by omega)
    rw [pR_o f6.1, ← e7, nA_n (by omega) (by omega) (by omega), ← e8]
    refine chk_of ?_ (show Sb.c ≤ S8.c by omega) (show Sb.w ≤ S8.w by omega)
    rw [pR_o f8.1, ← e9, nA_n (by omega) (by omega) (by omega), ← ea]
    refine chk_of ?_ (show Sb.c ≤ Sa.c by omega) (show Sb.w ≤ Sa.w by omega)
    rw [pR_o fa.1, ← eb]
  · obtain ⟨g1, g2, g3⟩ := fb
    refine ⟨g1, by rw [g2]; rfl, by rw [g2]; rfl, by rw [g2]; rfl, by rw [g2]; rfl, by rw [g2]; rfl, by rw [g3]; exact bb, by rw [g3]; exact db, by rw [g3]; exact ab, fun m hm => ?_, fun m m' hm => ?_, fun p hp => ?_, fun k hk => ?_⟩
    · exact absurd hm (Nat.not_lt_zero _)
    · exact absurd hm (Nat.not_lt_zero _)
    · exact absurd hp (Nat.not_lt_zero _)
    · exact absurd hk (Nat.not_lt_zero _)
/-- one mirror more -/
def addA (A : TA) (c o : Int32) : TA := (A.N + 1, A.W, A.lim, updI A.cl A.N c, updI A.be A.N 100, updI A.of A.N o, updN A.rw A.N A.N, A.J, A.jk, A.jm, A.go, A.mi, A.dn)
set_option maxHeartbeats 2000000 in
theorem add24 {S0 : ZS} {t v4 v5 : Nat} {v1 v2 : Int32} {A : TA} (h : TT S0 t A) (hN : A.N ≤ 9) (hr : ∀ p, p < A.N → A.rw p < 100) (h4 : v4 = 2 * S0.n + 1) (h5 : v5 = 2 * (S0.n + 1) + 1) : ∀ (d p f : Nat) (S : ZS), A.N = p + d → d < f → Ste NO 2 (2 * A.N + 2) S0 S → AR S v4 400000 (A.N + 1) → AR S v5 100000 (A.N + 1) → (∀ j, j < p → S.r (v4 / 2) j = S0.r (S0.r (t / 2) 2 / 2) j) → (∀ j, j < p → S.i (v5 / 2) j = nI (A.rw j)) → 1 ≤ S.c → 3 ≤ S.w → ∃ S', kX12_add_24 f t v1 v2 (nI A.N) v4 v5 (nI p) S = some S' ∧ Ste QT 3 (2 * A.N + 5) S0 S' ∧ TT S' t (addA A v1 v2) ∧ S'.r (t / 2) 8 = S0.r (t / 2) 8 ∧ S'.c ≤ S.c ∧ S'.w ≤ S.w := by
  have hd4 : v4 / 2 = S0.n := by rw [h4]; exact (nw_o _).2
  have hd5 : v5 / 2 = S0.n + 1 := by rw [h5]; exact (nw_o _).2
  intro d
  induction d with
  | zero =>
    intro p f S hd hf hs a4 a5 hR hI hc hw
    obtain ⟨f, rfl⟩ : ∃ z, f = z + 1 := ⟨f - 1, by omega⟩
    obtain rfl : A.N = p := by omega
    have hS := h.no hs
    have hn2 : S0.n + 1 < S.n := by have := a5.2.1; omega
    have htn := h.o.2.1
    obtain ⟨S1, e1⟩ : ∃ z, z = S.new (100000 + 3) 3 z0 := ⟨_, rfl⟩
    have s1 : Ste NO 1 3 S S1 := by rw [e1]; exact Ste.new hc hw
    have aj : AR S1 (2 * S.n + 1) 100000 3 := by rw [e1]; exact AR.mk (sl := 3) (f := z0) (by omega)
    have hdn : (2 * S.n + 1) / 2 = S.n := (nw_o _).2
    have n1 : S1.n = S.n + 1 ∧ S1.c = S.c - 1 ∧ S1.w = S.w - 3 := by rw [e1]; exact ⟨rfl, rfl, rfl⟩
    have a41 := a4.ste s1
    have a51 := a5.ste s1
    obtain ⟨S2, e2⟩ : ∃ z, z = S1.wi ((2 * S.n + 1) / 2) 0 v1 := ⟨_, rfl⟩
    have aj2 : AR S2 (2 * S.n + 1) 100000 3 := by rw [e2]; exact aj
    obtain ⟨S3, e3⟩ : ∃ z, z = S2.wi ((2 * S.n + 1) / 2) 1 100 := ⟨_, rfl⟩
    have aj3 : AR S3 (2 * S.n + 1) 100000 3 := by rw [e3]; exact aj2
    obtain ⟨S4, e4⟩ : ∃ z, z = S3.wi ((2 * S.n + 1) / 2) 2 v2 := ⟨_, rfl⟩
    have aj4 : AR S4 (2 * S.n + 1) 100000 3 := by rw [e4]; exact aj3
    have a44 : AR S4 v4 400000 (A.N + 1) := by rw [e4, e3, e2]; exact a41
    obtain ⟨S5, e5⟩ : ∃ z, z = S4.wr (v4 / 2) A.N (2 * S.n + 1) := ⟨_, rfl⟩
    have a55 : AR S5 v5 100000 (A.N + 1) := by rw [e5, e4, e3, e2]; exact a51
    obtain ⟨S6, e6⟩ : ∃ z, z = S5.wi (v5 / 2) A.N (nI A.N) := ⟨_, rfl⟩
    have o1t := hS.o.ste s1
    have o6 : OB S6 t 14 := by rw [e6, e5, e4, e3, e2]; exact o1t
    obtain ⟨S7, e7⟩ : ∃ z, z = S6.wr (t / 2) 2 v4 := ⟨_, rfl⟩
    have o7 : OB S7 t 14 := by rw [e7]; exact o6
    obtain ⟨S8, e8⟩ : ∃ z, z = S7.wr (t / 2) 3 v5 := ⟨_, rfl⟩
    have k8 : S8.K = S1.K ∧ S8.n = S1.n ∧ S8.c = S1.c ∧ S8.w = S1.w ∧ S8.g = S1.g := by rw [e8, e7, e6, e5, e4, e3, e2]; exact ⟨rfl, rfl, rfl, rfl, rfl⟩
    have i8 : S8.i = up (up (up (up S1.i S.n 0 v1) S.n 1 100) S.n 2 v2) (v5 / 2) A.N (nI A.N) := by rw [e8, e7, e6, e5, e4, e3, e2, hdn]; rfl
    have r8 : S8.r = ur (ur (ur S1.r (v4 / 2) A.N (2 * S.n + 1)) (t / 2) 2 v4) (t / 2) 3 v5 := by rw [e8, e7, e6, e5, e4, e3, e2]; rfl
    have s01 := hs.trans s1
    have old : ∀ o, o < S0.n → S8.i o = S0.i o ∧ (o ≠ t / 2 → S8.r o = S0.r o) := fun o ho => by
      obtain ⟨q1, q2⟩ := s01.old ho
      refine ⟨?_, fun z => ?_⟩
      · rw [i8, up_ne (by omega), up_ne (by omega), up_ne (by omega), up_ne (by omega)]
        exact q1
      · rw [r8, ur_ne z, ur_ne z, ur_ne (by omega)]
        exact q2
    have rt : ∀ k, S8.r (t / 2) k = if k = 3 then v5 else if k = 2 then v4 else S0.r (t / 2) k := fun k => by
      rw [r8]
      by_cases z3 : k = 3
      · rw [z3, ur_self, if_pos rfl]
      · rw [ur_slot z3, if_neg z3]
        by_cases z2 : k = 2
        · rw [z2, ur_self, if_pos rfl]
        · rw [ur_slot z2, if_neg z2, ur_ne (by omega), (s01.old htn).2]
    have rv : ∀ j, j < A.N → S8.r (v4 / 2) j = S0.r (S0.r (t / 2) 2 / 2) j := fun j hj => by
      rw [r8, ur_ne (by omega), ur_ne (by omega), ur_slot (by omega)]
      have := ((s1.2.2.1 (v4 / 2) (by omega)).2 (fun z => z)).2
      rw [this]
      exact hR j hj
    have rvN : S8.r (v4 / 2) A.N = 2 * S.n + 1 := by
      rw [r8, ur_ne (by omega), ur_ne (by omega), ur_self]
    have iv : ∀ j, j < A.N → S8.i (v5 / 2) j = nI (A.rw j) := fun j hj => by
      rw [i8, up_slot (by omega), up_ne (by omega), up_ne (by omega), up_ne (by omega)]
      have := ((s1.2.2.1 (v5 / 2) (by omega)).2 (fun z => z)).1
      rw [this]
      exact hI j hj
    have ivN : S8.i (v5 / 2) A.N = nI A.N := by rw [i8, up_self]
    have ij : S8.i S.n 0 = v1 ∧ S8.i S.n 1 = 100 ∧ S8.i S.n 2 = v2 := by
      rw [i8, up_ne (by omega)]
      refine ⟨?_, ?_, up_self⟩
      · rw [up_slot (by decide), up_slot (by decide), up_self]
      · rw [up_slot (by decide), up_self]
    have s8 : Ste QT 3 (2 * A.N + 5) S0 S8 := by
      refine ⟨by rw [k8.2.2.2.2]; exact s01.1, by have := s01.2.1; omega, fun o ho => ⟨by rw [k8.1]; exact (s01.2.2.1 o ho).1, fun z => ⟨(old o ho).1, (old o ho).2 (fun e => z (by rw [e, h.o.2.2]; rfl))⟩⟩, ?_, ?_, ?_, ?_⟩
      · have := s01.2.2.2; omega
      · have := s01.2.2.2; omega
      · have := s01.2.2.2; omega
      · have := s01.2.2.2; omega
    have arS : ∀ c base n, AR S1 c base n → AR S8 c base n := fun c base n q => ⟨q.1, by rw [k8.2.1]; exact q.2.1, by rw [k8.1]; exact q.2.2.1, q.2.2.2⟩
    refine ⟨S8, ?_, s8, ?_, by rw [rt 8, if_neg (by decide), if_neg (by decide)], by omega, by omega⟩
    · unfold kX12_add_24
      have p0 : ∀ (T : ZS) (v : Int32) (f : ZS → Option ZS), AR T (2 * S.n + 1) 100000 3 → aP T (2 * S.n + 1) 100000 0 v f = f (T.wi ((2 * S.n + 1) / 2) 0 v) := fun T v f hT => aP_n (j := 0) hT (by omega)
      have p1 : ∀ (T : ZS) (v : Int32) (f : ZS → Option ZS), AR T (2 * S.n + 1) 100000 3 → aP T (2 * S.n + 1) 100000 1 v f = f (T.wi ((2 * S.n + 1) / 2) 1 v) := fun T v f hT => aP_n (j := 1) hT (by omega)
      have p2 : ∀ (T : ZS) (v : Int32) (f : ZS → Option ZS), AR T (2 * S.n + 1) 100000 3 → aP T (2 * S.n + 1) 100000 2 v f = f (T.wi ((2 * S.n + 1) / 2) 2 v) := fun T v f hT => aP_n (j := 2) hT (by omega)
      have e9 : (3 : Int32) = nI 3 := rfl
      rw [if_pos (Int32.le_refl _), e9, nA_n (by omega) hc hw, ← e1]
      refine chk_of ?_ (show S8.c ≤ S1.c by omega) (show S8.w ≤ S1.w by omega)
      rw [p0 _ _ _ aj, ← e2, p1 _ _ _ aj2, ← e3, p2 _ _ _ aj3, ← e4, aR_n a44 (by omega) aj4.okE, ← e5, aP_n a55 (by omega), ← e6, pR_o o6, ← e7, pR_o o7, ← e8]
    · have hj4 : AR S0 (S0.r (t / 2) 4) 400000 A.J := h.aj
      refine ⟨h.o.ste s8, ?_, ?_, ?_, ?_, ?_, ?_, ?_, ?_, fun m hm => ?_, fun m m' hm hm' e => ?_, fun p hp => ?_, fun k hk => ?_⟩
      · rw [(old _ htn).1]; exact h.W
      · rw [(old _ htn).1]; exact h.lim
      · rw [(old _ htn).1]; exact h.go
      · rw [(old _ htn).1]; exact h.mi
      · rw [(old _ htn).1]; exact h.dn
      · rw [rt 2, if_neg (by decide), if_pos rfl]; exact arS _ _ _ a41
      · rw [rt 3, if_pos rfl]; exact arS _ _ _ a51
      · rw [rt 4, if_neg (by decide), if_neg (by decide)]; exact hj4.ste s8
      · have hm : m < A.N + 1 := hm
        rw [rt 2, if_neg (by decide), if_pos rfl, rt 3, if_pos rfl]
        by_cases z : m = A.N
        · subst z
          rw [rvN]
          refine ⟨⟨arS _ _ _ aj, ?_, ?_, ?_⟩, by omega⟩
          · rw [hdn, ij.1]; exact updI_eq.symm
          · rw [hdn, ij.2.1]; exact updI_eq.symm
          · rw [hdn, ij.2.2]; exact updI_eq.symm
        · have hm2 : m < A.N := by omega
          rw [rv m hm2]
          obtain ⟨b1, b2, b3, b4⟩ := h.m hm2
          have hb := b1.2.1
          refine ⟨⟨b1.ste s8, ?_, ?_, ?_⟩, by omega⟩
          · rw [(old _ hb).1, b2]; exact (updI_ne z).symm
          · rw [(old _ hb).1, b3]; exact (updI_ne z).symm
          · rw [(old _ hb).1, b4]; exact (updI_ne z).symm
      · have hm : m < A.N + 1 := hm
        have hm' : m' < A.N + 1 := hm'
        rw [rt 2, if_neg (by decide), if_pos rfl]
        by_cases z : m = A.N
        · subst z
          have hm2 : m' < A.N := by omega
          rw [rvN, rv m' hm2]
          have hb := (h.m hm2).1.2.1
          omega
        · by_cases z' : m' = A.N
          · subst z'
            have hm2 : m < A.N := by omega
            rw [rvN, rv m hm2]
            have hb := (h.m hm2).1.2.1
            omega
          · rw [rv m (by omega), rv m' (by omega)]
            exact h.mm (by omega) (by omega) e
      · have hp : p < A.N + 1 := hp
        rw [rt 3, if_pos rfl]
        by_cases z : p = A.N
        · subst z
          rw [ivN]
          show _ = nI (updN A.rw A.N A.N A.N)
          rw [updN_eq]
        · rw [iv p (by omega)]
          show _ = nI (updN A.rw A.N A.N p)
          rw [updN_ne z]
      · rw [rt 4, if_neg (by decide), if_neg (by decide)]
        obtain ⟨b1, b2, b3⟩ := h.j hk
        have hjn := hj4.2.1
        have hjt : S0.r (t / 2) 4 / 2 ≠ t / 2 := hj4.neO h.o (by omega)
        rw [(old _ hjn).2 hjt]
        exact ⟨b1.ste s8, by rw [(old _ b1.2.1).1]; exact b2, by rw [(old _ b1.2.1).1]; exact b3⟩
  | succ d ih =>
    intro p f S hd hf hs a4 a5 hR hI hc hw
    obtain ⟨f, rfl⟩ : ∃ z, f = z + 1 := ⟨f - 1, by omega⟩
    have hS := h.no hs
    have hp : p < A.N := by omega
    obtain ⟨b1, -⟩ := hS.m hp
    have hSr := (hs.old h.o.2.1).2
    have hmo := h.am.2.1
    obtain ⟨S1, e1⟩ : ∃ z, z = S.wr (v4 / 2) p (S.r (S.r (t / 2) 2 / 2) p) := ⟨_, rfl⟩
    have s1 : Ste NO 2 (2 * A.N + 2) S0 S1 := by rw [e1]; exact hs.fill (by omega)
    have hS1 := h.no s1
    have a51 : AR S1 v5 100000 (A.N + 1) := by rw [e1]; exact a5
    obtain ⟨S2, e2⟩ : ∃ z, z = S1.wi (v5 / 2) p (nI (A.rw p)) := ⟨_, rfl⟩
    have s2 : Ste NO 2 (2 * A.N + 2) S0 S2 := by rw [e2]; exact s1.fillI (by omega)
    have n2 : S2.c = S.c ∧ S2.w = S.w ∧ S2.r = S1.r ∧ S1.i = S.i := by rw [e2, e1]; exact ⟨rfl, rfl, rfl, rfl⟩
    obtain ⟨S', k1, k2, k3, k4, k5, k6⟩ := ih (p + 1) f S2 (by omega) (by omega) s2 (by rw [e2, e1]; exact a4) (by rw [e2]; exact a51) (fun j hj => by
      rw [n2.2.2.1, e1]
      show ur S.r (v4 / 2) p (S.r (S.r (t / 2) 2 / 2) p) (v4 / 2) j = _
      by_cases e : j = p
      · subst e
        rw [ur_self, congrFun hSr 2, (hs.old hmo).2]
      · rw [ur_slot e]
        exact hR j (by omega)) (fun j hj => by
      rw [e2]
      show up S1.i (v5 / 2) p (nI (A.rw p)) (v5 / 2) j = _
      by_cases e : j = p
      · subst e
        rw [up_self]
      · rw [up_slot e, n2.2.2.2]
        exact hI j (by omega)) (by omega) (by omega)
    refine ⟨S', ?_, k2, k3, k4, by omega, by omega⟩
    unfold kX12_add_24
    rw [if_neg (by rw [nI_leI (by omega) (by omega)]; omega), gN_o hS.o hS.am.ne0, aN_n hS.am hp b1.ne0, aR_n a4 (by omega) b1.okE, ← e1, gN_o hS1.o hS1.ar.ne0, aG_n hS1.ar hp, hS1.p hp, aP_n a51 (by omega), ← e2, bd_eq, nI_1]
    exact k1
theorem k_add {S : ZS} {t : Nat} {v1 v2 : Int32} {A : TA} (h : TT S t A) (hN : A.N ≤ 9) (hr : ∀ p, p < A.N → A.rw p < 100) (hc : 3 ≤ S.c) (hw : 25 ≤ S.w) : ∃ S', kX12_add t v1 v2 S = some S' ∧ Ste QT 3 25 S S' ∧ TT S' t (addA A v1 v2) ∧ S'.r (t / 2) 8 = S.r (t / 2) 8 := by
  obtain ⟨S1, e1⟩ : ∃ z, z = S.new (400000 + (A.N + 1)) (A.N + 1) z0 := ⟨_, rfl⟩
  have s1 : Ste NO 1 (A.N + 1) S S1 := by rw [e1]; exact Ste.new (by omega) (by omega)
  have n1 : S1.n = S.n + 1 ∧ S1.c = S.c - 1 ∧ S1.w = S.w - (A.N + 1) := by rw [e1]; exact ⟨rfl, rfl, rfl⟩
  have a1 : AR S1 (2 * S.n + 1) 400000 (A.N + 1) := by rw [e1]; exact AR.mk (sl := A.N + 1) (f := z0) (by omega)
  obtain ⟨S2, e2⟩ : ∃ z, z = S1.new (100000 + (A.N + 1)) (A.N + 1) z0 := ⟨_, rfl⟩
  have s2 : Ste NO 1 (A.N + 1) S1 S2 := by rw [e2]; exact Ste.new (by omega) (by omega)
  have n2 : S2.n = S1.n + 1 ∧ S2.c = S1.c - 1 ∧ S2.w = S1.w - (A.N + 1) := by rw [e2]; exact ⟨rfl, rfl, rfl⟩
  have a2 : AR S2 (2 * S1.n + 1) 100000 (A.N + 1) := by rw [e2]; exact AR.mk (sl := A.N + 1) (f := z0) (by omega)
  obtain ⟨S', k1, k2, k3, k4, k5, k6⟩ := add24 (v1 := v1) (v2 := v2) (v4 := 2 * S.n + 1) (v5 := 2 * S1.n + 1) h hN hr rfl (by rw [n1.1]) A.N 0 FU S2 (by omega) (by unfold FU; omega) ((s1.trans s2).mono (fun _ z => z) (by omega) (by omega)) (a1.ste s2) a2 (fun j hj => absurd hj (Nat.not_lt_zero _)) (fun j hj => absurd hj (Nat.not_lt_zero _)) (by omega) (by omega)
  refine ⟨S', ?_, k2.mono (fun _ z => z) (by omega) (by omega), k3, k4⟩
  unfold kX12_add
  refine chk_of ?_ (show S'.c ≤ S.c by omega) (show S'.w ≤ S.w by omega)
  rw [gN_o h.o h.am.ne0, aL_n h.am, nI_1, nA_n (by omega) (by omega) (by omega), ← e1]
  refine chk_of ?_ (show S'.c ≤ S1.c by omega) (show S'.w ≤ S1.w by omega)
  rw [nA_n (by omega) (by omega) (by omega), ← e2]
  exact chk_of k1 k5 k6
