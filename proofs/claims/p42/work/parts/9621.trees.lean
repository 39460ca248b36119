/-! sums and tests out of dice -/
theorem FTx.base {N d : Nat} {b : Bool} {S0 S S' : ZS} {c : Nat} {l : List SS} {i : List It} (h : FTx N d b S S' c l i) (hn : S0.n ≤ S.n) : FTx N d b S0 S' c l i := fun S'' h1 h2 => h S'' h1 (h2.sub hn (Nat.le_refl _))
theorem un_made {N d s : Nat} {b : Bool} {S0 S1 S2 S : ZS} {p x y c c1 : Nat} {l1 : List SS} {i1 : List It} (hf : isUn b s) (t : FTx N d b S1 S2 c1 l1 i1) (h01 : S0.n ≤ S1.n) (h2 : S2.n ≤ S.n) (ag : Ag S1.n S2.n S2 S) (ho : OB S c 12) (hc : S0.n ≤ c / 2) (hx : c / 2 < S1.n ∨ S2.n ≤ c / 2) (sd : Sd p x y S0 S) : ∃ S', kX10_init_Z c (nI s) 0 c1 S = some S' ∧ Sd p x y S0 S' ∧ S'.c = S.c ∧ S'.w = S.w ∧ FTx N (d + 1) b S0 S' c (l1 ++ [(unS s, 0)]) (unI s ++ i1) := by
  obtain ⟨S', e, s1, n1, c1', w1, o1, i0, -, r2, -, hne⟩ := init_ok (a1 := nI s) (a2 := 0) (c3 := c1) (c4 := 0) ho hc sd
  refine ⟨S', by rw [init_Z]; exact e, s1, c1', w1, fun S'' q1 q2 => ?_⟩
  obtain ⟨k1, k2, k3⟩ := q2 (c / 2) hc o1.2.1
  refine ⟨⟨o1.1, Nat.lt_of_lt_of_le o1.2.1 q1, by rw [k1]; exact o1.2.2⟩, s, by rw [k2]; exact i0, Or.inr (Or.inl ⟨hf, l1, i1, ?_, rfl, rfl⟩)⟩
  rw [k3, r2]
  refine t S'' (by omega) (fun o a b => ?_)
  obtain ⟨m1, m2, m3⟩ := ag o a b
  obtain ⟨j1, j2, j3⟩ := hne o (by omega)
  obtain ⟨g1, g2, g3⟩ := q2 o (by omega) (by omega)
  exact ⟨g1.trans (j1.trans m1), g2.trans (j2.trans m2), g3.trans (j3.trans m3)⟩
theorem bi_made {N d s : Nat} {b : Bool} {S0 S1 S2 S3 S4 S : ZS} {p x y c c1 c2 : Nat} {l1 l2 : List SS} {i1 i2 : List It} (hf : isBi b s) (t : FTx N d (subB s) S1 S2 c1 l1 i1) (u : FTx N d (subB s) S3 S4 c2 l2 i2) (h01 : S0.n ≤ S1.n) (h03 : S0.n ≤ S3.n) (h2 : S2.n ≤ S.n) (h4 : S4.n ≤ S.n) (ag : Ag S1.n S2.n S2 S) (ag2 : Ag S3.n S4.n S4 S) (ho : OB S c 12) (hc : S0.n ≤ c / 2) (hx : c / 2 < S1.n ∨ S2.n ≤ c / 2) (hx2 : c / 2 < S3.n ∨ S4.n ≤ c / 2) (sd : Sd p x y S0 S) : ∃ S', kX10_init c (nI s) 0 c1 c2 S = some S' ∧ Sd p x y S0 S' ∧ S'.c = S.c ∧ S'.w = S.w ∧ FTx N (d + 1) b S0 S' c (l1 ++ (l2 ++ [(binS s, 0)])) (biL s ++ (i1 ++ (biM s ++ (i2 ++ biR s)))) := by
  obtain ⟨S', e, s1, n1, c1', w1, o1, i0, -, r2, r3, hne⟩ := init_ok (a1 := nI s) (a2 := 0) (c3 := c1) (c4 := c2) ho hc sd
  refine ⟨S', e, s1, c1', w1, fun S'' q1 q2 => ?_⟩
  obtain ⟨k1, k2, k3⟩ := q2 (c / 2) hc o1.2.1
  refine ⟨⟨o1.1, Nat.lt_of_lt_of_le o1.2.1 q1, by rw [k1]; exact o1.2.2⟩, s, by rw [k2]; exact i0, Or.inr (Or.inr ⟨hf, l1, l2, i1, i2, ?_, ?_, rfl, rfl⟩)⟩
  · rw [k3, r2]
    refine t S'' (by omega) (fun o a b => ?_)
    obtain ⟨m1, m2, m3⟩ := ag o a b
    obtain ⟨j1, j2, j3⟩ := hne o (by omega)
    obtain ⟨g1, g2, g3⟩ := q2 o (by omega) (by omega)
    exact ⟨g1.trans (j1.trans m1), g2.trans (j2.trans m2), g3.trans (j3.trans m3)⟩
  · rw [k3, r3]
    refine u S'' (by omega) (fun o a b => ?_)
    obtain ⟨m1, m2, m3⟩ := ag2 o a b
    obtain ⟨j1, j2, j3⟩ := hne o (by omega)
    obtain ⟨g1, g2, g3⟩ := q2 o (by omega) (by omega)
    exact ⟨g1.trans (j1.trans m1), g2.trans (j2.trans m2), g3.trans (j3.trans m3)⟩
theorem Sd.nw {p : Nat} {S : ZS} (hc : 1 ≤ S.c) (hw : 4 ≤ S.w) : Sd p 1 4 S (S.new 12 4 z0) ∧ OB (S.new 12 4 z0) (2 * S.n + 1) 12 ∧ (2 * S.n + 1) / 2 = S.n ∧ (S.new 12 4 z0).n = S.n + 1 ∧ (S.new 12 4 z0).c = S.c - 1 ∧ (S.new 12 4 z0).w = S.w - 4 := ⟨Sd.new hc hw, OB.mk, (nw_o _).2, rfl, rfl, rfl⟩
set_option maxHeartbeats 2000000 in
theorem leaf_path {N j r : Nat} {S : ZS} {R : Nat → Int32 → Int32 → ZS → Option (Nat × ZS)} (hN : 0 < N) (hN2 : N ≤ 10) (hj : j < 9) (ho : OB S r 11) (hc : 1 ≤ S.c) (hw : 4 ≤ S.w) : ∃ c S' l i, (nO Prod.snd S 12 4 fun c21 S22 =>
        if nI j ≤ 0 then
          rcv S22 r 11 <| b2 Prod.snd (kX9_next r 6 S22) fun x27 S25 =>
          if x27 = 0 then
            rcv S25 r 11 <| b2 Prod.snd (kX9_next r 1000000 S25) fun x34 S32 =>
            kX10_sum_63 R x34 (nI j) c21 c21 S32
          else
            rcv S25 r 11 <| b2 Prod.snd (kX9_next r 30 S25) fun x31 S29 =>
            kX10_sum_63 R x31 (nI j) c21 c21 S29
        else
          rcv S22 r 11 <| b2 Prod.snd (kX9_next r (nI N) S22) fun x37 S35 =>
          kX10_sum_63 R x37 (nI j) c21 c21 S35) = some (c, S') ∧ Sd (r / 2) 1 4 S S' ∧ FTx N 1 false S S' c l i := by
  obtain ⟨s1, o1, d1, n1, c1, w1⟩ := Sd.nw (p := r / 2) hc hw
  obtain ⟨S1, e1⟩ : ∃ z, z = S.new 12 4 z0 := ⟨_, rfl⟩
  rw [← e1] at s1 o1 n1 c1 w1
  have r1 := ho.sd s1
  have fin : ∀ n S2, n < 1000000 → (j ≠ 0 → n < N) → Sd (r / 2) 0 0 S1 S2 → ∃ S', kX10_sum_63 R (nI n) (nI j) (2 * S.n + 1) (2 * S.n + 1) S2 = some (2 * S.n + 1, S') ∧ Sd (r / 2) 1 4 S S' ∧ FTx N 1 false S S' (2 * S.n + 1) [leafS j (nI n)] (leafI j n) ∧ S'.c ≤ S2.c ∧ S'.w ≤ S2.w := by
    intro n S2 hn hnN s2
    obtain ⟨S', k1, k2, k3, k4, k5⟩ := leaf_made (N := N) (d := 0) (s := j) (n := n) (b := false) (S0 := S) (Or.inl ⟨rfl, by omega⟩) hn (leaf_ok' hj hnN) (o1.sd s2) (by rw [d1]; exact Nat.le_refl _) (s1.trans s2)
    refine ⟨S', ?_, k2, k5, by omega, by omega⟩
    unfold kX10_sum_63
    exact b1_N k1 rfl (Nat.le_refl _) (Nat.le_refl _)
  rw [nO_n hc hw, ← e1]
  have up : ∀ {n S2} {z : Option (Nat × ZS)}, n < 1000000 → (j ≠ 0 → n < N) → Sd (r / 2) 0 0 S1 S2 → (∀ q, kX10_sum_63 R (nI n) (nI j) (2 * S.n + 1) (2 * S.n + 1) S2 = some q → q.2.c ≤ S2.c → q.2.w ≤ S2.w → z = some q) → ∃ c S' l i, chk Prod.snd S1 z = some (c, S') ∧ Sd (r / 2) 1 4 S S' ∧ FTx N 1 false S S' c l i := by
    intro n S2 z hn hnN s2 hz
    obtain ⟨S', k1, k2, k3, k4, k5⟩ := fin n S2 hn hnN s2
    have f2 := s2.2.2.2
    exact ⟨_, S', _, _, chk_of (hz _ k1 k4 k5) (show S'.c ≤ S1.c by omega) (show S'.w ≤ S1.w by omega), k2, k3⟩
  by_cases e : j = 0
  · have hle : nI j ≤ 0 := by rw [e]; decide
    obtain ⟨a, S2, e2, h2, s2, -, -⟩ := k_nextd (k := 6) r1 (by omega) (by omega)
    have r2 := r1.sd s2
    by_cases z : nI a = 0
    · obtain ⟨n, S3, e3, h3, s3, -, -⟩ := k_nextd (k := 1000000) r2 (by omega) (by omega)
      have f3 := s3.2.2.2
      refine up (n := n) (S2 := S3) h3 (fun y => absurd e y) (s2.trans s3) (fun q k1 k2 k3 => ?_)
      rw [if_pos hle, rcv_o r1]
      have e2 : kX9_next r 6 S1 = some (nI a, S2) := e2
      refine b2_N e2 ?_ (by show q.2.c ≤ S2.c; omega) (by show q.2.w ≤ S2.w; omega)
      rw [if_pos z, rcv_o r2]
      have e3 : kX9_next r 1000000 S2 = some (nI n, S3) := e3
      exact b2_N e3 k1 k2 k3
    · obtain ⟨n, S3, e3, h3, s3, -, -⟩ := k_nextd (k := 30) r2 (by omega) (by omega)
      have f3 := s3.2.2.2
      refine up (n := n) (S2 := S3) (by omega) (fun y => absurd e y) (s2.trans s3) (fun q k1 k2 k3 => ?_)
      rw [if_pos hle, rcv_o r1]
      have e2 : kX9_next r 6 S1 = some (nI a, S2) := e2
      refine b2_N e2 ?_ (by show q.2.c ≤ S2.c; omega) (by show q.2.w ≤ S2.w; omega)
      rw [if_neg z, rcv_o r2]
      have e3 : kX9_next r 30 S2 = some (nI n, S3) := e3
      exact b2_N e3 k1 k2 k3
  · have hle : ¬ nI j ≤ 0 := by
      rw [show (0 : Int32) = nI 0 from rfl, nI_leI (by omega) (by omega)]
      omega
    obtain ⟨n, S2, e2, h2, s2, -, -⟩ := k_nextd (k := N) r1 hN (by omega)
    refine up (n := n) (S2 := S2) (by omega) (fun _ => h2) s2 (fun q k1 k2 k3 => ?_)
    rw [if_neg hle, rcv_o r1]
    exact b2_N e2 k1 k2 k3
set_option maxHeartbeats 2000000 in
theorem sum_ok {N : Nat} (hN : 0 < N) (hN2 : N ≤ 10) : ∀ e D r S, e + 1 ≤ D → e < 100 → OB S r 11 → sC e ≤ S.c → 4 * sC e ≤ S.w → ∃ c S' l i, kRX10_sum D r (nI N) (nI e) S = some (c, S') ∧ Sd (r / 2) (sC e) (4 * sC e) S S' ∧ FTx N (e + 1) false S S' c l i := by
  have leafs : ∀ e (m : Nat) j r S S1 R, m < 2 ^ 31 → j < 9 → OB S r 11 → kX9_next r (nI m) S = some (nI j, S1) → Sd (r / 2) 0 0 S S1 → 1 ≤ S.c → 4 ≤ S.w → ∃ c S' l i, kX10_sum_12 R r (nI N) (nI e) (nI m) r S = some (c, S') ∧ Sd (r / 2) 1 4 S S' ∧ FTx N 1 false S S' c l i := by
    intro e m j r S S1 R hm hj ho e1 s1 hc hw
    have f1 := s1.2.2.2
    obtain ⟨c, S', l, i, k1, k2, k3⟩ := leaf_path (R := R) hN hN2 hj (ho.sd s1) (by omega) (by omega)
    have f2 := k2.2.2.2
    refine ⟨c, S', l, i, ?_, (s1.trans k2).mono (by omega) (by omega), k3.base s1.2.1⟩
    unfold kX10_sum_12
    rw [rcv_o ho]
    refine b2_N e1 ?_ f2.1 f2.2.2.1
    rw [if_neg (by rw [show (9 : Int32) = nI 9 from rfl, nI_leI (by omega) (by omega)]; omega)]
    exact k1
  intro e
  induction e with
  | zero =>
    intro D r S hD he ho hc hw
    obtain ⟨D, rfl⟩ : ∃ z, D = z + 1 := ⟨D - 1, by omega⟩
    obtain ⟨j, S1, e1, hj, s1, -, -⟩ := k_nextd (k := 9) ho (by omega) (by omega)
    obtain ⟨c, S', l, i, k1, k2, k3⟩ := leafs 0 9 j r S S1 (kRX10_sum D) (by omega) hj ho e1 s1 hc hw
    have f2 := k2.2.2.2
    refine ⟨c, S', l, i, ?_, k2, k3⟩
    show kbX10_sum (kRX10_sum D) r (nI N) (nI 0) S = _
    unfold kbX10_sum
    refine chk_of ?_ f2.1 f2.2.2.1
    rw [if_pos (show nI 0 = 0 from rfl)]
    exact k1
  | succ e ih =>
    intro D r S hD he ho hc hw
    obtain ⟨D, rfl⟩ : ∃ z, D = z + 1 := ⟨D - 1, by omega⟩
    have hs : sC (e + 1) = 2 * sC e + 1 := rfl
    have hs1 : 1 ≤ sC (e + 1) := by omega
    obtain ⟨j, S1, e1, hj, s1, -, -⟩ := k_nextd (k := 16) ho (by omega) (by omega)
    have f1 := s1.2.2.2
    have r1 := ho.sd s1
    have key : ∃ c S' l i, kX10_sum_12 (kRX10_sum D) r (nI N) (nI (e + 1)) (nI 16) r S = some (c, S') ∧ Sd (r / 2) (sC (e + 1)) (4 * sC (e + 1)) S S' ∧ FTx N (e + 1 + 1) false S S' c l i := by
      by_cases h9 : j < 9
      · obtain ⟨c, S', l, i, k1, k2, k3⟩ := leafs (e + 1) 16 j r S S1 (kRX10_sum D) (by omega) h9 ho e1 s1 (by omega) (by omega)
        exact ⟨c, S', l, i, k1, k2.mono (by omega) (by omega), k3.up (by omega)⟩
      · have hp : r / 2 < S.n := ho.2.1
        obtain ⟨ca, S2, la, ia, a1, a2, a3⟩ := ih D r S1 (by omega) (by omega) r1 (by omega) (by omega)
        have f2 := a2.2.2.2
        have r2 := r1.sd a2
        obtain ⟨s3, o3, d3, n3, c3, w3⟩ := Sd.nw (p := r / 2) (S := S2) (by omega) (by omega)
        obtain ⟨S3, e3⟩ : ∃ z, z = S2.new 12 4 z0 := ⟨_, rfl⟩
        rw [← e3] at s3 o3 n3 c3 w3
        have r3 := r2.sd s3
        have hnn1 := s1.2.1
        have hnn2 := a2.2.1
        have em : nI (e + 1) - 1 = nI e := nI_pred e
        have sd3 := (s1.trans a2).trans s3
        by_cases h5 : j = 9
        · subst h5
          obtain ⟨S', k1, k2, k3, k4, k5⟩ := un_made (S0 := S) (S := S3) (c := 2 * S2.n + 1) (s := 9) (Or.inl ⟨rfl, rfl⟩) a3 (by omega) (by omega) (s3.ag (by omega) (Nat.le_refl _)) o3 (by omega) (by omega) sd3
          refine ⟨_, S', _, _, ?_, k2.mono (by omega) (by omega), k5⟩
          unfold kX10_sum_12
          rw [rcv_o ho]
          refine b2_N e1 ?_ (show S'.c ≤ S1.c by omega) (show S'.w ≤ S1.w by omega)
          rw [if_pos (show (9 : Int32) ≤ nI 9 by decide), em]
          refine b2_N a1 ?_ (show S'.c ≤ S2.c by omega) (show S'.w ≤ S2.w by omega)
          rw [nO_n (by omega) (by omega), ← e3]
          refine chk_of ?_ (show S'.c ≤ S3.c by omega) (show S'.w ≤ S3.w by omega)
          rw [if_pos (show nI 9 = 9 from rfl)]
          exact b1_N k1 rfl (Nat.le_refl _) (Nat.le_refl _)
        · obtain ⟨cb, S4, lb, ib, b1, b2, b3⟩ := ih D r S3 (by omega) (by omega) r3 (by omega) (by omega)
          have f4 := b2.2.2.2
          have hnn4 := b2.2.1
          have ag1 : Ag S1.n S2.n S2 S4 := (s3.ag (by omega) (Nat.le_refl _)).trans (b2.ag (by omega) (by omega))
          obtain ⟨S', k1, k2, k3, k4, k5⟩ := bi_made (S0 := S) (S := S4) (c := 2 * S2.n + 1) (s := j) (b := false) (Or.inl ⟨rfl, by omega, by omega⟩) (by
            have : subB j = false := decide_eq_false (by omega)
            rw [this]
            exact a3) (by
            have : subB j = false := decide_eq_false (by omega)
            rw [this]
            exact b3) (by omega) (by omega) (by omega) (Nat.le_refl _) ag1 (fun _ _ _ => ⟨rfl, rfl, rfl⟩) (o3.sd b2) (by omega) (by omega) (by omega) (sd3.trans b2)
          refine ⟨_, S', _, _, ?_, k2.mono (by omega) (by omega), k5⟩
          unfold kX10_sum_12
          rw [rcv_o ho]
          refine b2_N e1 ?_ (show S'.c ≤ S1.c by omega) (show S'.w ≤ S1.w by omega)
          rw [if_pos (by rw [show (9 : Int32) = nI 9 from rfl, nI_leI (by omega) (by omega)]; omega), em]
          refine b2_N a1 ?_ (show S'.c ≤ S2.c by omega) (show S'.w ≤ S2.w by omega)
          rw [nO_n (by omega) (by omega), ← e3]
          refine chk_of ?_ (show S'.c ≤ S3.c by omega) (show S'.w ≤ S3.w by omega)
          rw [if_neg (by rw [show (9 : Int32) = nI 9 from rfl, nI_eq (by omega) (by omega)]; exact h5)]
          refine b2_N b1 ?_ (show S'.c ≤ S4.c by omega) (show S'.w ≤ S4.w by omega)
          exact b1_N k1 rfl (Nat.le_refl _) (Nat.le_refl _)
    obtain ⟨c, S', l, i, k1, k2, k3⟩ := key
    have f9 := k2.2.2.2
    refine ⟨c, S', l, i, ?_, k2, k3⟩
    show kbX10_sum (kRX10_sum D) r (nI N) (nI (e + 1)) S = _
    unfold kbX10_sum
    refine chk_of ?_ f9.1 f9.2.2.1
    rw [if_neg (nI_ne0 (by omega) (by omega))]
    exact k1
