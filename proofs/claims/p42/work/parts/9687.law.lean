/-! the law: one round, then both -/
set_option maxRecDepth 20000 in
set_option maxHeartbeats 1000000 in
theorem law_told {S S6 : ZS} {r d u sL : Nat} {sx : Nat → Int32} {v2 : Int32} {K10 : Int32 → ZS → Option (Int32 × ZS)} (hK : ∀ S', RM S' u → S'.g 1 1 = 0 → Ret (K10 (v2 + 1) S') S') {t : Nat} {A : TA} {ms : List Mi} {hw hl : Option Nat} {L : List (OR4 × List It)} (hT : TT S t A) (ho : OB S r 11) (hS : SO S6 d (spl (allI hw hl ms L))) (s : Ste NO 2 ((spl (allI hw hl ms L)).length + 4) S S6) (hO : OLS S t A.N L.length L) (h11 : S.g 1 1 = 0) (hA : TrM A ms (Wv hw) (lv hl)) (hm : ∀ x, x ∈ ms → miOK x) (h7 : 1 ≤ ms.length ∧ ms.length ≤ 7) (hW : ∀ W, hw = some W → W ≤ 180) (hl2 : ∀ W, hl = some W → big W 10000) (hL : L.length ≤ 4) (hlen : (spl (allI hw hl ms L)).length ≤ 1600) (hr : RM S6 (u + 500 + 2830 * 8 + 82)) : Ret (b2 Prod.snd (kL_taught d S6) fun x311 S309 => if x311 = 0 then kL_law_88 sL sx K10 FU v2 r t 0 S309 else some (0, S309)) S6 := by
  have hP : ∀ y, y ∈ L → PO A.N y.1 y.2 := fun y hy => by
    obtain ⟨j, hj, e⟩ := List.getElem_of_mem hy
    exact (hO.2 j y (by rw [List.getElem?_eq_getElem hj, e])).p
  have hX : TXT A.N hw hl (nmM ms 0) L := drawn_txt hA.1 h7.2 hP hL hm hW hl2
  obtain ⟨S7, x, y, e7, s7, r7, k7⟩ := k_taught (u := u + 500 + 2830 * 8) hS (by rw [hA.1]; omega) hX (by rw [allN_I]) hlen (by rw [nmM_2]; exact hA) (by rw [s.1]; exact h11) hr
  have hoa : OA A.N S t (L.map Prod.fst) := hO.oa hL
  have hno : (∀ q, NO q → noT q) ∧ ¬ NO 12 ∧ ¬ NO 13 ∧ ¬ NO 14 ∧ ∀ n, ¬ NO (500000 + n) := ⟨fun q hq => hq.elim, fun z => z, fun z => z, fun z => z, fun _ z => z⟩
  have t6 : TT S6 t A := hT.no s
  have a6 : OA A.N S6 t (L.map Prod.fst) := hoa.gen s hT.o ⟨hno.2.1, hno.2.2.1, hno.2.2.2.1, hno.2.2.2.2 _⟩
  have t7 : TT (S7.wg S6.g) t A := t6.no s7
  have a7 : OA A.N (S7.wg S6.g) t (L.map Prod.fst) := a6.gen s7 t6.o ⟨hno.2.1, hno.2.2.1, hno.2.2.2.1, hno.2.2.2.2 _⟩
  have o7 : OB (S7.wg S6.g) r 11 := (ho.ste s).ste s7
  have h7L : LX S7 t r A A (L.map Prod.fst) (u + 500 + 2830 * 8) := ⟨t7, a7.zu (g := S7.g) (c := S7.c) (w := S7.w), r7, by
    unfold WW
    rw [hA.2.1]
    exact Wv_ok hW, by rw [hA.1]; omega, o7, k7⟩
  refine ret_b2 e7 s7.2.2.2.1 s7.2.2.2.2.2.1 ?_
  rw [if_pos rfl]
  exact lw88 (u := u + 500) (fun f S1 A1 h1 => law_end hK f S1 A1 h1) 8 0 FU S7 A 0 rfl (by unfold FU; omega) h7L hA.2.2.2.2.2.2.2.2 (by omega)
set_option maxRecDepth 20000 in
set_option maxHeartbeats 1000000 in
theorem law_round {S : ZS} {sL v u f : Nat} {sx : Nat → Int32} (hs : sL < 2 ^ 31) (hv : v < 2) (h11 : S.g 1 1 = 0) (hr : RM S (uR u)) (hK : ∀ S', RM S' u → S'.g 1 1 = 0 → Ret (kL_law_10 sL sx f (nI v + 1) S') S') : Ret (kL_law_10 sL sx (f + 1) (nI v) S) S := by
  unfold kL_law_10
  rw [if_neg (by
    rw [show (2 : Int32) = nI 2 from rfl, nI_leI (by omega) (by omega)]
    omega)]
  have e3 : nI v + 3 = nI (v + 3) := nI_plus
  have e6 : nI v + 6 = nI (v + 6) := nI_plus
  rw [e3, e6]
  obtain ⟨m, hm⟩ : ∃ m, m = uD (u + 500 + 2830 * 8 + 82 + 700) 1667 + 180 + 180 + 180 + 180 + 180 + 180 + 2 := ⟨_, rfl⟩
  have hr : RM S (m + 30) := by
    rw [hm]
    exact hr
  obtain ⟨m1, m2⟩ := hr
  have s0 : Ste NO 1 1 S (S.new 11 1 z0) := Ste.new (by omega) (by omega)
  have o0 : OB (S.new 11 1 z0) (2 * S.n + 1) 11 := OB.mk
  rw [nO_n (by omega) (by omega)]
  refine Ret.mono (ret_chk ?_) s0.2.2.2.1 s0.2.2.2.2.2.1
  obtain ⟨w1, c1⟩ := k_cellL (S := S.new 11 1 z0) (sL := sL) (sx := sx) (k := v) hs (by omega)
  obtain ⟨w2, c2⟩ := k_cellL (S := S.new 11 1 z0) (sL := sL) (sx := sx) (k := v + 3) hs (by omega)
  obtain ⟨w3, c3⟩ := k_cellL (S := S.new 11 1 z0) (sL := sL) (sx := sx) (k := v + 6) hs (by omega)
  refine ret_b2 c1 (Nat.le_refl _) (Nat.le_refl _) ?_
  refine ret_b2 c2 (Nat.le_refl _) (Nat.le_refl _) ?_
  refine ret_b2 c3 (Nat.le_refl _) (Nat.le_refl _) ?_
  obtain ⟨S1, e1, s1⟩ := x9_init (a := (w1 ^^^ (w2 * 31)) ^^^ (w3 * 1009)) o0
  refine ret_b1 e1 s1.2.2.2.1 s1.2.2.2.2.2.1 ?_
  have o1 := o0.ste s1
  have g1 : S1.g = S.g := s1.1
  obtain ⟨x0, x1, x2, x3, x4, x5, x6⟩ := s0
  obtain ⟨y0, y1, y2, y3, y4, y5, y6⟩ := s1
  obtain ⟨S2, q1, q2, q3, q4, q5, -⟩ := sb_new (S := S1) (by omega) (by omega)
  rw [nO_n (by omega) (by omega)]
  have hle : (S1.new 1 4 z0).c ≤ S1.c ∧ (S1.new 1 4 z0).w ≤ S1.w := ⟨Nat.sub_le _ _, Nat.sub_le _ _⟩
  refine Ret.mono (ret_chk ?_) hle.1 hle.2
  refine ret_b1 q1 q4 q5 ?_
  have o2 : OB S2 (2 * S.n + 1) 11 := o1.ste q3
  obtain ⟨z1, z2, z3, z4, z5, z6, z7⟩ := id q3
  have r2 : RM S2 m := ⟨by omega, by omega⟩
  rw [hm] at r2
  obtain ⟨t, S3, d1, ⟨A, ms, hw, hl, L, f1, f2, f3, f4, f5, f6, f7, f8, f9, f10, f11, f12, f13⟩, d2, d3⟩ := k_drawn (u := u + 500 + 2830 * 8 + 82 + 700) q9_c q9_w o2 ⟨16, q2, by simp⟩ r2
  refine ret_b2 d1 d2 d3 ?_
  obtain ⟨cap, b1, b2⟩ := f3
  obtain ⟨n1, n2⟩ := f6.get (n := 700) (a := 2) (b := 1604) (Nat.le_add_left _ _) (by decide) (by decide)
  rw [rcv_o b1.o]
  obtain ⟨d, S4, k1, k2, k3⟩ := k_toString b1 n1 (Nat.le_trans (Nat.add_le_add_right f13 4) n2)
  obtain ⟨p1, p2, p3, p4, p5, p6, p7⟩ := id k3
  refine ret_b2 k1 p4 p6 ?_
  exact law_told hK f1 f2 k2 k3 f4 (by rw [f5, z1, g1]; exact h11) f7 f8 f9 f10 f11 f12 f13 (f6.sub (n := 700) p5 p7 (by decide) (Nat.le_trans (Nat.add_le_add_right f13 4) (by decide)) (Nat.le_refl _))
theorem k_law {S : ZS} {sL : Nat} {sx : Nat → Int32} (hs : sL < 2 ^ 31) (h11 : S.g 1 1 = 0) (hr : RM S (uR (uR 0))) : ∃ S', kL_law sL sx S = some (1, S') ∧ S'.c ≤ S.c ∧ S'.w ≤ S.w := by
  unfold kL_law
  refine ret_chk ?_
  have e : FU = 99997 + 1 + 1 + 1 := rfl
  rw [e]
  refine law_round (v := 0) hs (by omega) h11 hr (fun S1 r1 g1 => ?_)
  have e1 : nI 0 + 1 = nI 1 := rfl
  rw [e1]
  refine law_round (v := 1) hs (by omega) g1 r1 (fun S2 r2 g2 => ?_)
  unfold kL_law_10
  rw [if_pos (by decide)]
  exact Ret.done
