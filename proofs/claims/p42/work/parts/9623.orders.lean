/-! an order out of dice -/
theorem FOx.ox {N : Nat} {S S' : ZS} {c : Nat} {o : OR4} {i : List It} (h : FOx N S S' c o i) : OX N S' c o i := h S' (Nat.le_refl _) (fun _ _ _ => ⟨rfl, rfl, rfl⟩)
/-- the order's kind and mirror are written -/
def Hk (N j m : Nat) (S0 S : ZS) (c : Nat) : Prop := OB S c 13 ∧ S0.n = c / 2 ∧ S.i (c / 2) 0 = nI j ∧ j < 5 ∧ S.i (c / 2) 1 = nI m ∧ m < N
theorem Hk.sd {N j m p x y : Nat} {S0 S S' : ZS} {c : Nat} (h : Hk N j m S0 S c) (s : Sd p x y S S') (hp : p < S0.n) : Hk N j m S0 S' c := by
  obtain ⟨h1, h2, h3, h4, h5, h6⟩ := h
  have e := ((s.2.2.1 _ h1.2.1).2 (by omega)).1
  exact ⟨h1.sd s, h2, by rw [e]; exact h3, h4, by rw [e]; exact h5, h6⟩
/-- the sum is written, the tail follows -/
theorem ord_put {N j m r x y : Nat} {S0 S1 S2 : ZS} {c cs : Nat} {l1 : List SS} {i1 : List It} (hN : 0 < N) (hN2 : N ≤ 10) (h : Hk N j m S0 S2 c) (h1 : (j < 3 ∧ l1 = [] ∧ cs = 0) ∨ (3 ≤ j ∧ FTx N 3 false S1 S2 cs l1 i1 ∧ c / 2 < S1.n)) (ho : OB S2 r 11) (hr : r / 2 < S0.n) (sd : Sd (r / 2) x y S0 S2) (hc : 11 ≤ S2.c) (hw : 44 ≤ S2.w) : ∃ S' l2 i2, (pR S2 c 13 2 cs fun S => rcv S r 11 <| b2 id (kX9_next r 3 S) fun x49 S47 =>
    if x49 = 0 then
      pR S47 c 13 3 0 fun S55 =>
      some S55
    else
      b2 id (kX10_test r (nI N) 1 S47) fun c53 S51 =>
      pR S51 c 13 3 c53 fun S54 =>
      some S54) = some S' ∧ Sd (r / 2) (x + 11) (y + 44) S0 S' ∧ FOx N S0 S' c (j, m, l1, l2) (ordI (j, m, l1, l2) i1 i2) ∧ S'.c ≤ S2.c ∧ S'.w ≤ S2.w := by
  obtain ⟨p1, p2, p3, p4, p5, p6⟩ := h
  obtain ⟨S3, e3⟩ : ∃ z, z = S2.wr (c / 2) 2 cs := ⟨_, rfl⟩
  have n3 : S3.n = S2.n ∧ S3.c = S2.c ∧ S3.w = S2.w ∧ S3.i = S2.i := by rw [e3]; exact ⟨rfl, rfl, rfl, rfl⟩
  have er : S3.r (c / 2) 2 = cs := by rw [e3]; exact ur_self
  have s3 : Sd (r / 2) x y S0 S3 := by
    rw [e3]
    exact sd.fillR (by omega)
  have hf : Hf N j m S0 S3 c l1 i1 := by
    refine ⟨by rw [e3]; exact p1, p2, by rw [n3.2.2.2]; exact p3, p4, by rw [n3.2.2.2]; exact p5, p6, ?_⟩
    rw [er]
    rcases h1 with z | ⟨z1, z2, z3⟩
    · exact Or.inl z
    · refine Or.inr ⟨z1, S1, S2, z2, z3, by omega, ?_⟩
      rw [e3]
      exact Ag.wr (fun _ _ _ => ⟨rfl, rfl, rfl⟩) z3
  obtain ⟨S', l2, i2, t1, t2, t3, t4, t5⟩ := ord_tail hN hN2 hf (by rw [e3]; exact ho) hr s3 (by omega) (by omega)
  refine ⟨S', l2, i2, ?_, t2, t3, by omega, by omega⟩
  rw [pR_o p1, ← e3]
  exact t1
set_option maxHeartbeats 4000000 in
theorem ord_sums {N j m r : Nat} {S0 S : ZS} {c : Nat} (hN : 0 < N) (hN2 : N ≤ 10) (h : Hk N j m S0 S c) (ho : OB S r 11) (hr : r / 2 < S0.n) (sd : Sd (r / 2) 1 4 S0 S) (hc : 30 ≤ S.c) (hw : 150 ≤ S.w) : ∃ S' o i, (gI S c 13 0 fun x9 =>
  if 3 ≤ x9 then
    rcv S r 11 <| b2 id (kX9_next r 2 S) fun x13 S11 =>
    if x13 = 0 then
      nO id S11 12 4 fun c28 S29 =>
      rcv S29 r 11 <| b2 id (kX9_next r 4 S29) fun x33 S31 =>
      b1 id (kX10_init_ZZ c28 0 x33 S31) fun S34 =>
      pR S34 c 13 2 c28 fun S36 =>
      rcv S36 r 11 <| b2 id (kX9_next r 3 S36) fun x39 S37 =>
      if x39 = 0 then
        pR S37 c 13 3 0 fun S45 =>
        some S45
      else
        b2 id (kX10_test r (nI N) 1 S37) fun c43 S41 =>
        pR S41 c 13 3 c43 fun S44 =>
        some S44
    else
      b2 id (kX10_sum r (nI N) 2 S11) fun c17 S15 =>
      pR S15 c 13 2 c17 fun S18 =>
      rcv S18 r 11 <| b2 id (kX9_next r 3 S18) fun x21 S19 =>
      if x21 = 0 then
        pR S19 c 13 3 0 fun S27 =>
        some S27
      else
        b2 id (kX10_test r (nI N) 1 S19) fun c25 S23 =>
        pR S23 c 13 3 c25 fun S26 =>
        some S26
  else
    pR S c 13 2 0 fun S46 =>
    rcv S46 r 11 <| b2 id (kX9_next r 3 S46) fun x49 S47 =>
    if x49 = 0 then
      pR S47 c 13 3 0 fun S55 =>
      some S55
    else
      b2 id (kX10_test r (nI N) 1 S47) fun c53 S51 =>
      pR S51 c 13 3 c53 fun S54 =>
      some S54) = some S' ∧ Sd (r / 2) 20 80 S0 S' ∧ FOx N S0 S' c o i ∧ S'.c ≤ S.c ∧ S'.w ≤ S.w := by
  have hh := h
  obtain ⟨p1, p2, p3, p4, p5, p6⟩ := h
  rw [gI_o p1, p3]
  by_cases h3 : 3 ≤ j
  · rw [if_pos (show (3 : Int32) ≤ nI j by rw [show (3 : Int32) = nI 3 from rfl, nI_leI (by omega) (by omega)]; exact h3), rcv_o ho]
    obtain ⟨a, S6, e6, ha, s6, hn6, -⟩ := k_nextd (k := 2) ho (by omega) (by omega)
    have e6 : kX9_next r 2 S = some (nI a, S6) := e6
    have f6 := s6.2.2.2
    have r6 := ho.sd s6
    have h6 := hh.sd s6 hr
    have hcn := p1.2.1
    by_cases z : nI a = 0
    · obtain ⟨s7, p7, d7, n7, c7, w7⟩ := Sd.nw (p := r / 2) (S := S6) (by omega) (by omega)
      obtain ⟨S7, e7⟩ : ∃ z, z = S6.new 12 4 z0 := ⟨_, rfl⟩
      rw [← e7] at s7 p7 n7 c7 w7
      have r7 := r6.sd s7
      obtain ⟨n, S8, e8, h8, s8, hn8, -⟩ := k_nextd (k := 4) r7 (by omega) (by omega)
      have e8 : kX9_next r 4 S7 = some (nI n, S8) := e8
      have f8 := s8.2.2.2
      obtain ⟨S9, k1, k2, k3, k4, k5⟩ := leaf_made (N := N) (d := 0) (s := 0) (n := n) (b := false) (S0 := S6) (c := 2 * S6.n + 1) (Or.inl ⟨rfl, by omega⟩) (by omega) (leaf_ok' (by omega) (fun y => absurd rfl y)) (p7.sd s8) (by omega) (s7.trans s8)
      have k1 : kX10_init_ZZ (2 * S6.n + 1) 0 (nI n) S8 = some S9 := k1
      obtain ⟨S', l2, i2, t1, t2, t3, t4, t5⟩ := ord_put hN hN2 (h6.sd k2 hr) (Or.inr ⟨h3, k5.up (by omega), by omega⟩) (r6.sd k2) hr ((sd.trans s6).trans k2) (by omega) (by omega)
      refine ⟨S', _, _, ?_, t2.mono (by omega) (by omega), t3, by omega, by omega⟩
      refine b2_N e6 ?_ (show S'.c ≤ S6.c by omega) (show S'.w ≤ S6.w by omega)
      rw [if_pos z, nO_n (by omega) (by omega), ← e7]
      refine chk_of ?_ (show S'.c ≤ S7.c by omega) (show S'.w ≤ S7.w by omega)
      rw [rcv_o r7]
      refine b2_N e8 ?_ (show S'.c ≤ S8.c by omega) (show S'.w ≤ S8.w by omega)
      exact b1_N k1 t1 t4 t5
    · have q2 : sC 2 = 7 := rfl
      obtain ⟨cs, S7, l1, i1, a1, a2, a3⟩ := sum_ok hN hN2 2 12 r S6 (by omega) (by omega) r6 (by omega) (by omega)
      have a1 : kX10_sum r (nI N) 2 S6 = some (cs, S7) := a1
      have f7 := a2.2.2.2
      obtain ⟨S', l2, i2, t1, t2, t3, t4, t5⟩ := ord_put hN hN2 (h6.sd a2 hr) (Or.inr ⟨h3, a3, by omega⟩) (r6.sd a2) hr ((sd.trans s6).trans a2) (by omega) (by omega)
      refine ⟨S', _, _, ?_, t2.mono (by omega) (by omega), t3, by omega, by omega⟩
      refine b2_N e6 ?_ (show S'.c ≤ S6.c by omega) (show S'.w ≤ S6.w by omega)
      rw [if_neg z]
      exact b2_N a1 t1 t4 t5
  · rw [if_neg (show ¬ (3 : Int32) ≤ nI j by rw [show (3 : Int32) = nI 3 from rfl, nI_leI (by omega) (by omega)]; exact h3)]
    obtain ⟨S', l2, i2, t1, t2, t3, t4, t5⟩ := ord_put (l1 := []) (i1 := []) (S1 := S) (cs := 0) hN hN2 hh (Or.inl ⟨by omega, rfl, rfl⟩) ho hr sd (by omega) (by omega)
    exact ⟨S', _, _, t1, t2.mono (by omega) (by omega), t3, t4, t5⟩
theorem ord_ok {N r : Nat} {S0 : ZS} (hN : 0 < N) (hN2 : N ≤ 10) (ho : OB S0 r 11) (hc : 40 ≤ S0.c) (hw : 200 ≤ S0.w) : ∃ S' o i, kX11_init (2 * S0.n + 1) r (nI N) (S0.new 13 4 z0) = some S' ∧ Sd (r / 2) 20 80 S0 S' ∧ FOx N S0 S' (2 * S0.n + 1) o i ∧ S'.c ≤ (S0.new 13 4 z0).c ∧ S'.w ≤ (S0.new 13 4 z0).w := by
  have hp : r / 2 < S0.n := ho.2.1
  have hd : (2 * S0.n + 1) / 2 = S0.n := (nw_o _).2
  obtain ⟨S1, e1⟩ : ∃ z, z = S0.new 13 4 z0 := ⟨_, rfl⟩
  have n1 : S1.n = S0.n + 1 ∧ S1.c = S0.c - 1 ∧ S1.w = S0.w - 4 := by rw [e1]; exact ⟨rfl, rfl, rfl⟩
  have o1 : OB S1 (2 * S0.n + 1) 13 := by rw [e1]; exact OB.mk (S := S0) (sl := 4) (f := z0)
  have s1 : Sd (r / 2) 1 4 S0 S1 := by rw [e1]; exact Sd.new (by omega) (by omega)
  have r1 := ho.sd s1
  obtain ⟨j, S2, e2, hj, s2, hn2, -⟩ := k_nextd (k := 5) r1 (by omega) (by omega)
  have e2 : kX9_next r 5 S1 = some (nI j, S2) := e2
  have f2 := s2.2.2.2
  have r2 := r1.sd s2
  have o2 := o1.sd s2
  obtain ⟨S3, e3⟩ : ∃ z, z = S2.wi ((2 * S0.n + 1) / 2) 0 (nI j) := ⟨_, rfl⟩
  have o3 : OB S3 (2 * S0.n + 1) 13 := by rw [e3]; exact o2
  have r3 : OB S3 r 11 := by rw [e3]; exact r2
  have n3 : S3.n = S2.n ∧ S3.c = S2.c ∧ S3.w = S2.w := by rw [e3]; exact ⟨rfl, rfl, rfl⟩
  have s3 : Sd (r / 2) 1 4 S0 S3 := by
    rw [e3]
    exact (s1.trans s2).fillI (by omega)
  have i3 : S3.i S0.n 0 = nI j := by rw [e3, hd]; exact up_self
  obtain ⟨m, S4, e4, hm, s4, hn4, -⟩ := k_nextd (k := N) r3 hN (by omega)
  have f4 := s4.2.2.2
  have r4 := r3.sd s4
  have o4 := o3.sd s4
  have i4 : S4.i S0.n = S3.i S0.n := ((s4.2.2.1 S0.n (by omega)).2 (by omega)).1
  obtain ⟨S5, e5⟩ : ∃ z, z = S4.wi ((2 * S0.n + 1) / 2) 1 (nI m) := ⟨_, rfl⟩
  have o5 : OB S5 (2 * S0.n + 1) 13 := by rw [e5]; exact o4
  have r5 : OB S5 r 11 := by rw [e5]; exact r4
  have n5 : S5.n = S4.n ∧ S5.c = S4.c ∧ S5.w = S4.w := by rw [e5]; exact ⟨rfl, rfl, rfl⟩
  have s5 : Sd (r / 2) 1 4 S0 S5 := by
    rw [e5]
    exact (s3.trans s4).fillI (by omega)
  have i50 : S5.i S0.n 0 = nI j := by
    rw [e5, hd]
    show up S4.i S0.n 1 (nI m) S0.n 0 = _
    rw [up_slot (by decide), i4]
    exact i3
  have i51 : S5.i S0.n 1 = nI m := by rw [e5, hd]; exact up_self
  obtain ⟨S', o, i, t1, t2, t3, t4, t5⟩ := ord_sums hN hN2 (c := 2 * S0.n + 1) (S0 := S0) ⟨o5, hd.symm, by rw [hd]; exact i50, hj, by rw [hd]; exact i51, hm⟩ r5 hp s5 (by omega) (by omega)
  refine ⟨S', o, i, ?_, t2, t3, by rw [← e1]; omega, by rw [← e1]; omega⟩
  rw [← e1]
  unfold kX11_init
  refine chk_of ?_ (show S'.c ≤ S1.c by omega) (show S'.w ≤ S1.w by omega)
  rw [rcv_o r1]
  refine b2_N e2 ?_ (show S'.c ≤ S2.c by omega) (show S'.w ≤ S2.w by omega)
  rw [pI_o o2, ← e3, rcv_o r3]
  refine b2_N e4 ?_ (show S'.c ≤ S4.c by omega) (show S'.w ≤ S4.w by omega)
  rw [pI_o o4, ← e5]
  exact t1
