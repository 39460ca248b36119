/-! the run's end from the 8 steps on -/
set_option maxRecDepth 20000 in
theorem law_end {t r sL u : Nat} {sx : Nat → Int32} {P : List OR4} {K10 : Int32 → ZS → Option (Int32 × ZS)} {v2 : Int32} (hK : ∀ S', RM S' u → S'.g 1 1 = 0 → Ret (K10 (v2 + 1) S') S') (f : Nat) (S : ZS) (A : TA) (h : LX S t r A A P (u + 500)) : Ret (kL_law_88 sL sx K10 (f + 1) v2 r t (nI 8) S) S := by
  obtain ⟨m1, m2⟩ := h.rm
  obtain ⟨S1, e1, x, ex, g1, c1, w1, rfl, r1, l1, l2, l3, l4⟩ := k_isSame h.tt h.ww h.oa h.n0 h.rc (by omega) (by omega)
  have h1 : LX (ZU S g1 c1 w1) t r A A P (u + 385) := ⟨h.tt, h.oa.zu, r1, h.ww, h.n0, h.ob, by
    refine ⟨?_, ?_⟩
    · show 3 * (u + 385) ≤ c1
      omega
    · show 18 * (u + 385) ≤ w1
      omega⟩
  unfold kL_law_88
  rw [if_pos (show (8 : Int32) ≤ nI 8 by decide), rcv_o h.tt.o]
  refine ret_b2 e1 l1 l3 ?_
  rw [if_neg (by decide)]
  clear e1 l1 l2 l3 l4 m1 m2
  refine lx_next (n := 101) h1 (by omega) (by omega) (fun c S2 hc h2 => ?_)
  refine lx_next (n := 99) h2 (by omega) (by omega) (fun o S3 ho h3 => ?_)
  have eo : 1 + nI o = nI (1 + o) := nI_plus
  rw [bd_eq, eo]
  obtain ⟨m1, m2⟩ := h3.rm
  obtain ⟨S9, d, S10, S11, ⟨S4, q4, a4, b4, S5, q5, o5, a5, b5, S6, q6, o6, a6, b6, S7, q7, o7, a7, b7, S8, q8, o8, a8, b8, q9, o9, a9, b9⟩, o10, q10, a10, b10, q11, a11, b11, r11, k11⟩ := two_ok (B := S3) (c := c) (o := 1 + o) (u := u + 4) (by omega) (by omega) h3.rc.2.2.2 (h3.rm.le (by omega))
  have hle : (S3.new 1 4 z0).c ≤ S3.c ∧ (S3.new 1 4 z0).w ≤ S3.w := ⟨Nat.sub_le _ _, Nat.sub_le _ _⟩
  rw [nO_n (by omega) (by omega)]
  refine Ret.mono (ret_chk ?_) hle.1 hle.2
  refine ret_b1 q4 a4 b4 ?_
  rw [rcv_o o5]
  refine ret_b2 q5 a5 b5 ?_
  rw [rcv_o o6]
  refine ret_b2 q6 a6 b6 ?_
  rw [rcv_o o7]
  refine ret_b2 q7 a7 b7 ?_
  rw [rcv_o o8]
  refine ret_b2 q8 a8 b8 ?_
  rw [rcv_o o9]
  refine ret_b2 q9 a9 b9 ?_
  rw [rcv_o o10]
  refine ret_b2 q10 a10 b10 ?_
  refine ret_b2 q11 a11 b11 ?_
  rw [if_pos rfl]
  exact law_two (endP_all (by omega) (by omega) (by omega)) hK ⟨r11, k11⟩
