/-! tests and orders out of dice -/
def eC : Nat → Nat
  | 0 => 5
  | e + 1 => 2 * eC e + 1
theorem eC_5 : ∀ e, 5 ≤ eC e := by
  intro e
  induction e with
  | zero => exact Nat.le_refl _
  | succ e ih =>
    show 5 ≤ 2 * eC e + 1
    omega
set_option maxHeartbeats 4000000 in
theorem test_ok {N : Nat} (hN : 0 < N) (hN2 : N ≤ 10) : ∀ e D r S, e + 1 ≤ D → e < 100 → OB S r 11 → eC e ≤ S.c → 4 * eC e ≤ S.w → ∃ c S' l i, kRX10_test D r (nI N) (nI e) S = some (c, S') ∧ Sd (r / 2) (eC e) (4 * eC e) S S' ∧ FTx N (e + 3) true S S' c l i := by
  have lows : ∀ e (m : Nat) j r S S1 R, m < 2 ^ 31 → j < 5 → OB S r 11 → kX9_next r (nI m) S = some (nI j, S1) → Sd (r / 2) 0 0 S S1 → S1.n = S.n → 5 ≤ S.c → 20 ≤ S.w → ∃ c S' l i, kX10_test_11 R r (nI N) (nI e) (nI m) r S = some (c, S') ∧ Sd (r / 2) 5 20 S S' ∧ FTx N 3 true S S' c l i := by
    intro e m j r S S1 R hm hj ho e1 s1 hn1 hc hw
    have f1 := s1.2.2.2
    have r1 := ho.sd s1
    have hp : r / 2 < S.n := ho.2.1
    obtain ⟨s2, o2, d2, n2, c2, w2⟩ := Sd.nw (p := r / 2) (S := S1) (by omega) (by omega)
    obtain ⟨S2, e2⟩ : ∃ z, z = S1.new 12 4 z0 := ⟨_, rfl⟩
    rw [← e2] at s2 o2 n2 c2 w2
    have r2 := r1.sd s2
    by_cases h2 : j < 2
    · obtain ⟨n, S3, e3, h3, s3, -, -⟩ := k_nextd (k := N) r2 hN (by omega)
      have f3 := s3.2.2.2
      have hs : j = 0 ∨ j = 1 := by omega
      have hl : leafOK N (leafS (21 + j) (nI n)).1 (leafS (21 + j) (nI n)).2 := by
        rcases hs with rfl | rfl
        · exact Or.inr (Or.inr (Or.inr (Or.inr (Or.inr (Or.inl rfl)))))
        · exact Or.inr (Or.inr (Or.inr (Or.inr (Or.inr (Or.inr ⟨by show ofM 148; unfold ofM; omega, n, h3, rfl⟩)))))
      obtain ⟨S', k1, k2, k3, k4, k5⟩ := leaf_made (N := N) (d := 0) (s := 21 + j) (n := n) (b := true) (S0 := S) (Or.inr ⟨rfl, by omega⟩) (by omega) hl (o2.sd s3) (by omega) ((s1.trans s2).trans s3)
      refine ⟨_, S', _, _, ?_, k2.mono (by omega) (by omega), k5.up (by omega)⟩
      unfold kX10_test_11
      rw [rcv_o ho]
      refine b2_N e1 ?_ (show S'.c ≤ S1.c by omega) (show S'.w ≤ S1.w by omega)
      rw [if_neg (by rw [show (2 : Int32) = nI 2 from rfl, nI_leI (by omega) (by omega)]; omega), nO_n (by omega) (by omega), ← e2]
      refine chk_of ?_ (show S'.c ≤ S2.c by omega) (show S'.w ≤ S2.w by omega)
      rw [rcv_o r2]
      refine b2_N e3 ?_ (show S'.c ≤ S3.c by omega) (show S'.w ≤ S3.w by omega)
      have e9 : 21 + nI j = nI (21 + j) := by rw [show (21 : Int32) = nI 21 from rfl, nI_plus]
      rw [e9]
      exact b1_N k1 rfl (Nat.le_refl _) (Nat.le_refl _)
    · obtain ⟨k, S3, e3, h3, s3, hn3, -⟩ := k_nextd (k := 5) r2 (by omega) (by omega)
      have f3 := s3.2.2.2
      have r3 := r2.sd s3
      have q1 : sC 1 = 3 := rfl
      have q0 : sC 0 = 1 := rfl
      obtain ⟨ca, S4, la, ia, a1, a2, a3⟩ := sum_ok hN hN2 1 12 r S3 (by omega) (by omega) r3 (by omega) (by omega)
      have f4 := a2.2.2.2
      have hnn4 := a2.2.1
      have r4 := r3.sd a2
      obtain ⟨cb, S5, lb, ib, b1, b2, b3⟩ := sum_ok hN hN2 0 12 r S4 (by omega) (by omega) r4 (by omega) (by omega)
      have f5 := b2.2.2.2
      have hnn5 := b2.2.1
      have hsub : subB (16 + k) = false := decide_eq_false (by omega)
      obtain ⟨S', k1, k2, k3, k4, k5⟩ := bi_made (N := N) (d := 2) (S0 := S) (S := S5) (c := 2 * S1.n + 1) (s := 16 + k) (b := true) (Or.inr ⟨rfl, by omega⟩) (by rw [hsub]; exact a3) (by rw [hsub]; exact b3.up (by omega)) (by omega) (by omega) (by omega) (Nat.le_refl _) (b2.ag (by omega) (Nat.le_refl _)) (fun _ _ _ => ⟨rfl, rfl, rfl⟩) (((o2.sd s3).sd a2).sd b2) (by omega) (by omega) (by omega) ((((s1.trans s2).trans s3).trans a2).trans b2)
      refine ⟨_, S', _, _, ?_, k2.mono (by omega) (by omega), k5⟩
      unfold kX10_test_11
      rw [rcv_o ho]
      refine b2_N e1 ?_ (show S'.c ≤ S1.c by omega) (show S'.w ≤ S1.w by omega)
      rw [if_pos (by rw [show (2 : Int32) = nI 2 from rfl, nI_leI (by omega) (by omega)]; omega), if_neg (by rw [show (5 : Int32) = nI 5 from rfl, nI_leI (by omega) (by omega)]; omega), nO_n (by omega) (by omega), ← e2]
      refine chk_of ?_ (show S'.c ≤ S2.c by omega) (show S'.w ≤ S2.w by omega)
      rw [rcv_o r2]
      have e3 : kX9_next r 5 S2 = some (nI k, S3) := e3
      refine b2_N e3 ?_ (show S'.c ≤ S3.c by omega) (show S'.w ≤ S3.w by omega)
      have a1 : kX10_sum r (nI N) 1 S3 = some (ca, S4) := a1
      refine b2_N a1 ?_ (show S'.c ≤ S4.c by omega) (show S'.w ≤ S4.w by omega)
      have b1 : kX10_sum r (nI N) 0 S4 = some (cb, S5) := b1
      refine b2_N b1 ?_ (show S'.c ≤ S5.c by omega) (show S'.w ≤ S5.w by omega)
      have e9 : 16 + nI k = nI (16 + k) := by rw [show (16 : Int32) = nI 16 from rfl, nI_plus]
      rw [e9]
      exact b1_N k1 rfl (Nat.le_refl _) (Nat.le_refl _)
  intro e
  induction e with
  | zero =>
    intro D r S hD he ho hc hw
    obtain ⟨D, rfl⟩ : ∃ z, D = z + 1 := ⟨D - 1, by omega⟩
    obtain ⟨j, S1, e1, hj, s1, hn1, -⟩ := k_nextd (k := 5) ho (by omega) (by omega)
    obtain ⟨c, S', l, i, k1, k2, k3⟩ := lows 0 5 j r S S1 (kRX10_test D) (by omega) hj ho e1 s1 hn1 hc hw
    have f2 := k2.2.2.2
    refine ⟨c, S', l, i, ?_, k2, k3⟩
    show kbX10_test (kRX10_test D) r (nI N) (nI 0) S = _
    unfold kbX10_test
    refine chk_of ?_ f2.1 f2.2.2.1
    rw [if_pos (show nI 0 = 0 from rfl)]
    exact k1
  | succ e ih =>
    intro D r S hD he ho hc hw
    obtain ⟨D, rfl⟩ : ∃ z, D = z + 1 := ⟨D - 1, by omega⟩
    have hs : eC (e + 1) = 2 * eC e + 1 := rfl
    have h5e := eC_5 e
    obtain ⟨j, S1, e1, hj, s1, hn1, -⟩ := k_nextd (k := 8) ho (by omega) (by omega)
    have f1 := s1.2.2.2
    have r1 := ho.sd s1
    have key : ∃ c S' l i, kX10_test_11 (kRX10_test D) r (nI N) (nI (e + 1)) (nI 8) r S = some (c, S') ∧ Sd (r / 2) (eC (e + 1)) (4 * eC (e + 1)) S S' ∧ FTx N (e + 1 + 3) true S S' c l i := by
      by_cases h9 : j < 5
      · obtain ⟨c, S', l, i, k1, k2, k3⟩ := lows (e + 1) 8 j r S S1 (kRX10_test D) (by omega) h9 ho e1 s1 hn1 (by omega) (by omega)
        exact ⟨c, S', l, i, k1, k2.mono (by omega) (by omega), k3.up (by omega)⟩
      · have hp : r / 2 < S.n := ho.2.1
        obtain ⟨ca, S2, la, ia, a1, a2, a3⟩ := ih D r S1 (by omega) (by omega) r1 (by omega) (by omega)
        have f2 := a2.2.2.2
        have r2 := r1.sd a2
        obtain ⟨s3, o3, d3, n3, c3, w3⟩ := Sd.nw (p := r / 2) (S := S2) (by omega) (by omega)
        obtain ⟨S3, e3⟩ : ∃ z, z = S2.new 12 4 z0 := ⟨_, rfl⟩
        rw [← e3] at s3 o3 n3 c3 w3
        have r3 := r2.sd s3
        have hnn1 := s1.2.1
        have hnn2 := a2.2.1
        have em : nI (e + 1) - 1 = nI e := nI_pred e
        have sd3 := (s1.trans a2).trans s3
        have e18 : 18 + nI j = nI (18 + j) := by rw [show (18 : Int32) = nI 18 from rfl, nI_plus]
        by_cases h5 : j = 5
        · subst h5
          obtain ⟨S', k1, k2, k3, k4, k5⟩ := un_made (S0 := S) (S := S3) (c := 2 * S2.n + 1) (s := 23) (Or.inr ⟨rfl, rfl⟩) a3 (by omega) (by omega) (s3.ag (by omega) (Nat.le_refl _)) o3 (by omega) (by omega) sd3
          refine ⟨_, S', _, _, ?_, k2.mono (by omega) (by omega), k5⟩
          unfold kX10_test_11
          rw [rcv_o ho]
          refine b2_N e1 ?_ (show S'.c ≤ S1.c by omega) (show S'.w ≤ S1.w by omega)
          rw [if_pos (show (2 : Int32) ≤ nI 5 by decide), if_pos (show (5 : Int32) ≤ nI 5 by decide), em]
          refine b2_N a1 ?_ (show S'.c ≤ S2.c by omega) (show S'.w ≤ S2.w by omega)
          rw [nO_n (by omega) (by omega), ← e3]
          refine chk_of ?_ (show S'.c ≤ S3.c by omega) (show S'.w ≤ S3.w by omega)
          rw [if_pos (show nI 5 = 5 from rfl), e18]
          exact b1_N k1 rfl (Nat.le_refl _) (Nat.le_refl _)
        · obtain ⟨cb, S4, lb, ib, b1, b2, b3⟩ := ih D r S3 (by omega) (by omega) r3 (by omega) (by omega)
          have f4 := b2.2.2.2
          have hnn4 := b2.2.1
          have ag1 : Ag S1.n S2.n S2 S4 := (s3.ag (by omega) (Nat.le_refl _)).trans (b2.ag (by omega) (by omega))
          have hsub : subB (18 + j) = true := decide_eq_true (by omega)
          obtain ⟨S', k1, k2, k3, k4, k5⟩ := bi_made (S0 := S) (S := S4) (c := 2 * S2.n + 1) (s := 18 + j) (b := true) (Or.inr ⟨rfl, by omega⟩) (by
            rw [hsub]
            exact a3) (by
            rw [hsub]
            exact b3) (by omega) (by omega) (by omega) (Nat.le_refl _) ag1 (fun _ _ _ => ⟨rfl, rfl, rfl⟩) (o3.sd b2) (by omega) (by omega) (by omega) (sd3.trans b2)
          refine ⟨_, S', _, _, ?_, k2.mono (by omega) (by omega), k5⟩
          unfold kX10_test_11
          rw [rcv_o ho]
          refine b2_N e1 ?_ (show S'.c ≤ S1.c by omega) (show S'.w ≤ S1.w by omega)
          rw [if_pos (by rw [show (2 : Int32) = nI 2 from rfl, nI_leI (by omega) (by omega)]; omega), if_pos (by rw [show (5 : Int32) = nI 5 from rfl, nI_leI (by omega) (by omega)]; omega), em]
          refine b2_N a1 ?_ (show S'.c ≤ S2.c by omega) (show S'.w ≤ S2.w by omega)
          rw [nO_n (by omega) (by omega), ← e3]
          refine chk_of ?_ (show S'.c ≤ S3.c by omega) (show S'.w ≤ S3.w by omega)
          rw [if_neg (by rw [show (5 : Int32) = nI 5 from rfl, nI_eq (by omega) (by omega)]; exact h5)]
          refine b2_N b1 ?_ (show S'.c ≤ S4.c by omega) (show S'.w ≤ S4.w by omega)
          rw [e18]
          exact b1_N k1 rfl (Nat.le_refl _) (Nat.le_refl _)
    obtain ⟨c, S', l, i, k1, k2, k3⟩ := key
    have f9 := k2.2.2.2
    refine ⟨c, S', l, i, ?_, k2, k3⟩
    show kbX10_test (kRX10_test D) r (nI N) (nI (e + 1)) S = _
    unfold kbX10_test
    refine chk_of ?_ f9.1 f9.2.2.1
    rw [if_neg (nI_ne0 (by omega) (by omega))]
    exact k1
theorem TX.ne {N d : Nat} {b : Bool} {S : ZS} {c : Nat} {l : List SS} {i : List It} (h : TX N d b S c l i) : l ≠ [] := by
  cases d with
  | zero => exact h.elim
  | succ d =>
    obtain ⟨-, s, -, ⟨-, n, -, -, h, -⟩ | ⟨-, l1, i1, -, h, -⟩ | ⟨-, l1, l2, i1, i2, -, -, h, -⟩⟩ := h
    · rw [h]; simp
    · rw [h]; simp
    · rw [h]; simp
/-- a field of the order that is being made -/
theorem Sd.fillR {p x y o k d : Nat} {S0 S : ZS} (hs : Sd p x y S0 S) (ho : S0.n ≤ o) : Sd p x y S0 (S.wr o k d) :=
  ⟨hs.1, hs.2.1, fun i hi => ⟨(hs.2.2.1 i hi).1, fun z => ⟨((hs.2.2.1 i hi).2 z).1, by rw [wr_ne (by omega)]; exact ((hs.2.2.1 i hi).2 z).2⟩⟩, hs.2.2.2⟩
theorem Sd.fillI {p x y o k : Nat} {v : Int32} {S0 S : ZS} (hs : Sd p x y S0 S) (ho : S0.n ≤ o) : Sd p x y S0 (S.wi o k v) :=
  ⟨hs.1, hs.2.1, fun i hi => ⟨(hs.2.2.1 i hi).1, fun z => ⟨by rw [wi_ne (by omega)]; exact ((hs.2.2.1 i hi).2 z).1, ((hs.2.2.1 i hi).2 z).2⟩⟩, hs.2.2.2⟩
theorem Ag.wr {m m' o k d : Nat} {S1 S : ZS} (h : Ag m m' S1 S) (ho : o < m) : Ag m m' S1 (S.wr o k d) := fun i a b => by
  obtain ⟨h1, h2, h3⟩ := h i a b
  exact ⟨h1, h2, by rw [wr_ne (by omega)]; exact h3⟩
def FOx (N : Nat) (S S' : ZS) (c : Nat) (o : OR4) (i : List It) : Prop := ∀ S'', S'.n ≤ S''.n → Ag S.n S'.n S' S'' → OX N S'' c o i
/-- an order's first half is written -/
def Hf (N j m : Nat) (S0 S : ZS) (c : Nat) (l1 : List SS) (i1 : List It) : Prop := OB S c 13 ∧ S0.n = c / 2 ∧ S.i (c / 2) 0 = nI j ∧ j < 5 ∧ S.i (c / 2) 1 = nI m ∧ m < N ∧ ((j < 3 ∧ l1 = [] ∧ S.r (c / 2) 2 = 0) ∨ (3 ≤ j ∧ ∃ S1 S2, FTx N 3 false S1 S2 (S.r (c / 2) 2) l1 i1 ∧ c / 2 < S1.n ∧ S2.n ≤ S.n ∧ Ag S1.n S2.n S2 S))
theorem ord_tail {N j m r x y : Nat} {S0 S : ZS} {c : Nat} {l1 : List SS} {i1 : List It} (hN : 0 < N) (hN2 : N ≤ 10) (h : Hf N j m S0 S c l1 i1) (ho : OB S r 11) (hr : r / 2 < S0.n) (sd : Sd (r / 2) x y S0 S) (hc : 11 ≤ S.c) (hw : 44 ≤ S.w) : ∃ S' l2 i2, (rcv S r 11 <| b2 id (kX9_next r 3 S) fun x49 S47 =>
    if x49 = 0 then
      pR S47 c 13 3 0 fun S55 =>
      some S55
    else
      b2 id (kX10_test r (nI N) 1 S47) fun c53 S51 =>
      pR S51 c 13 3 c53 fun S54 =>
      some S54) = some S' ∧ Sd (r / 2) (x + 11) (y + 44) S0 S' ∧ FOx N S0 S' c (j, m, l1, l2) (ordI (j, m, l1, l2) i1 i2) ∧ S'.c ≤ S.c ∧ S'.w ≤ S.w := by
  obtain ⟨h1, h2, h3, h4, h5, h6, h7⟩ := h
  obtain ⟨a, S1, e1, ha, s1, hn1, hr1⟩ := k_nextd (k := 3) ho (by omega) (by omega)
  have e1 : kX9_next r 3 S = some (nI a, S1) := e1
  have f1 := s1.2.2.2
  have r1 := ho.sd s1
  have o1 := h1.sd s1
  have hcl := h1.2.1
  have hcr : c / 2 ≠ r / 2 := by omega
  obtain ⟨i1c, r1c⟩ := (s1.2.2.1 _ hcl).2 hcr
  -- what holds of any later store that keeps the fields
  have fin : ∀ S2 (l2 : List SS) (i2 : List It), Sd (r / 2) (x + 11) (y + 44) S0 S2 → OB S2 c 13 → S2.i (c / 2) = S.i (c / 2) → S2.r (c / 2) 2 = S.r (c / 2) 2 → S.n ≤ S2.n → (∀ o, S0.n < o → o < S.n → S2.K o = S.K o ∧ S2.i o = S.i o ∧ S2.r o = S.r o) → (∀ S'', S2.n ≤ S''.n → Ag S0.n S2.n S2 S'' → ((S2.r (c / 2) 3 = 0 ∧ l2 = []) ∨ (S2.r (c / 2) 3 ≠ 0 ∧ l2 ≠ [] ∧ TX N 4 true S'' (S2.r (c / 2) 3) l2 i2))) → FOx N S0 S2 c (j, m, l1, l2) (ordI (j, m, l1, l2) i1 i2) := by
    intro S2 l2 i2 sd2 o2 ei er hn hag hT S'' q1 q2
    obtain ⟨k1, k2, k3⟩ := q2 (c / 2) (by omega) o2.2.1
    refine ⟨⟨o2.1, Nat.lt_of_lt_of_le o2.2.1 q1, by rw [k1]; exact o2.2.2⟩, by rw [k2, ei]; exact h3, h4, by rw [k2, ei]; exact h5, h6, i1, i2, ?_, ?_, rfl⟩
    · rw [k3, er]
      rcases h7 with ⟨z1, z2, z3⟩ | ⟨z1, Sa, Sb, t, u1, u2, u3⟩
      · exact Or.inl ⟨z1, z2, z3⟩
      · refine Or.inr ⟨z1, t S'' (by omega) (fun o a b => ?_)⟩
        obtain ⟨g1, g2, g3⟩ := u3 o a b
        obtain ⟨j1, j2, j3⟩ := hag o (by omega) (by omega)
        obtain ⟨p1, p2, p3⟩ := q2 o (by omega) (by omega)
        exact ⟨p1.trans (j1.trans g1), p2.trans (j2.trans g2), p3.trans (j3.trans g3)⟩
    · rw [k3]
      exact hT S'' q1 q2
  by_cases z : nI a = 0
  · obtain ⟨S2, e2⟩ : ∃ z, z = S1.wr (c / 2) 3 0 := ⟨_, rfl⟩
    have sd2 : Sd (r / 2) (x + 11) (y + 44) S0 S2 := by
      rw [e2]
      exact ((sd.trans s1).fillR (by omega)).mono (by omega) (by omega)
    have hr2 : S2.r = ur S1.r (c / 2) 3 0 := by rw [e2]; rfl
    have hi2 : S2.i = S1.i ∧ S2.K = S1.K ∧ S2.n = S1.n ∧ S2.c = S1.c ∧ S2.w = S1.w := by rw [e2]; exact ⟨rfl, rfl, rfl, rfl, rfl⟩
    refine ⟨S2, [], [], ?_, sd2, fin S2 [] [] sd2 (by rw [e2]; exact o1) (by rw [hi2.1]; exact i1c) (by rw [hr2, ur_slot (by decide), r1c]) (by omega) (fun o a b => ?_) (fun S'' _ _ => Or.inl ⟨by rw [hr2, ur_self], rfl⟩), by omega, by omega⟩
    · rw [rcv_o ho]
      refine b2_N e1 ?_ (show S2.c ≤ S1.c by omega) (show S2.w ≤ S1.w by omega)
      rw [if_pos z, pR_o o1, ← e2]
    · obtain ⟨g1, g2⟩ := s1.2.2.1 o b
      obtain ⟨g3, g4⟩ := g2 (by omega)
      exact ⟨by rw [hi2.2.1]; exact g1, by rw [hi2.1]; exact g3, by rw [hr2, ur_ne (by omega)]; exact g4⟩
  · have q1 : eC 1 = 11 := rfl
    obtain ⟨ct, S2, l2, i2, a1, a2, a3⟩ := test_ok hN hN2 1 12 r S1 (by omega) (by omega) r1 (by omega) (by omega)
    have a1 : kX10_test r (nI N) 1 S1 = some (ct, S2) := a1
    have f2 := a2.2.2.2
    have hnn := a2.2.1
    have o2 := o1.sd a2
    obtain ⟨i2c, r2c⟩ := (a2.2.2.1 _ o1.2.1).2 hcr
    have t2 := a3.tx
    obtain ⟨S3, e3⟩ : ∃ z, z = S2.wr (c / 2) 3 ct := ⟨_, rfl⟩
    have sd3 : Sd (r / 2) (x + 11) (y + 44) S0 S3 := by
      rw [e3]
      exact (((sd.trans s1).trans a2).fillR (by omega)).mono (by omega) (by omega)
    have hr3 : S3.r = ur S2.r (c / 2) 3 ct := by rw [e3]; rfl
    have hi3 : S3.i = S2.i ∧ S3.K = S2.K ∧ S3.n = S2.n ∧ S3.c = S2.c ∧ S3.w = S2.w := by rw [e3]; exact ⟨rfl, rfl, rfl, rfl, rfl⟩
    refine ⟨S3, l2, i2, ?_, sd3, fin S3 l2 i2 sd3 (by rw [e3]; exact o2) (by rw [hi3.1, i2c]; exact i1c) (by rw [hr3, ur_slot (by decide), r2c, r1c]) (by omega) (fun o a b => ?_) (fun S'' u1 u2 => Or.inr ⟨by rw [hr3, ur_self]; exact (TX.o t2).ne0, TX.ne t2, ?_⟩), by omega, by omega⟩
    · rw [rcv_o ho]
      refine b2_N e1 ?_ (show S3.c ≤ S1.c by omega) (show S3.w ≤ S1.w by omega)
      rw [if_neg z]
      refine b2_N a1 ?_ (show S3.c ≤ S2.c by omega) (show S3.w ≤ S2.w by omega)
      rw [pR_o o2, ← e3]
    · obtain ⟨g1, g2⟩ := s1.2.2.1 o b
      obtain ⟨g3, g4⟩ := g2 (by omega)
      obtain ⟨k1, k2⟩ := a2.2.2.1 o (by omega)
      obtain ⟨k3, k4⟩ := k2 (by omega)
      exact ⟨by rw [hi3.2.1]; exact k1.trans g1, by rw [hi3.1]; exact k3.trans g3, by rw [hr3, ur_ne (by omega)]; exact k4.trans g4⟩
    · rw [hr3, ur_self]
      refine a3 S'' (by omega) (fun o a b => ?_)
      obtain ⟨p1, p2, p3⟩ := u2 o (by omega) (by omega)
      exact ⟨p1.trans (by rw [hi3.2.1]), p2.trans (by rw [hi3.1]), p3.trans (by rw [hr3, ur_ne (by omega)])⟩
