/-! the text of two mirrors, built and told (draft; the room in units is to be checked) -/
theorem two_len {c o : Nat} (hc : c ≤ 100) (ho : o ≤ 100) : (spl (allN none none (twoM c o) [])).length ≤ 70 := by
  rw [← two_spl]
  have h1 := (dc_len (m := c) (by omega)).2.2
  have h2 := (dc_len (m := o) (by omega)).2.2
  have l70 : (sB 70).length = 17 := by decide +kernel
  have l71 : (sB 71).length = 27 := by decide +kernel
  have l72 : (sB 72).length = 10 := by decide +kernel
  have b1 : (dc c).length ≤ 6 := (dc_len (by omega)).2.1
  have b2 : (dc o).length ≤ 6 := (dc_len (by omega)).2.1
  rw [List.length_append, List.length_append, List.length_append, List.length_append]
  omega
/-- new builder, five appends, toString, taught: what is behind is f at a store whose class keeps the two mirrors -/
theorem two_ok {B : ZS} {c o u : Nat} (hc : c ≤ 100) (ho : o ≤ 100) (h11 : B.g 1 1 = 0) (hr : RM B (u + 200)) : ∃ S6 d S7 S8, (∃ S1, kJ4_init_da8c8 (2 * B.n + 1) (B.new 1 4 z0) = some S1 ∧ S1.c ≤ (B.new 1 4 z0).c ∧ S1.w ≤ (B.new 1 4 z0).w ∧ ∃ S2, kJ4_append_15ec4_S (2 * B.n + 1) 70 S1 = some (2 * B.n + 1, S2) ∧ OB S1 (2 * B.n + 1) 1 ∧ S2.c ≤ S1.c ∧ S2.w ≤ S1.w ∧ ∃ S3, kJ4_append_bf812 (2 * B.n + 1) (nI c) S2 = some (2 * B.n + 1, S3) ∧ OB S2 (2 * B.n + 1) 1 ∧ S3.c ≤ S2.c ∧ S3.w ≤ S2.w ∧ ∃ S4, kJ4_append_15ec4_S (2 * B.n + 1) 71 S3 = some (2 * B.n + 1, S4) ∧ OB S3 (2 * B.n + 1) 1 ∧ S4.c ≤ S3.c ∧ S4.w ≤ S3.w ∧ ∃ S5, kJ4_append_bf812 (2 * B.n + 1) (nI o) S4 = some (2 * B.n + 1, S5) ∧ OB S4 (2 * B.n + 1) 1 ∧ S5.c ≤ S4.c ∧ S5.w ≤ S4.w ∧ kJ4_append_15ec4_S (2 * B.n + 1) 72 S5 = some (2 * B.n + 1, S6) ∧ OB S5 (2 * B.n + 1) 1 ∧ S6.c ≤ S5.c ∧ S6.w ≤ S5.w) ∧ OB S6 (2 * B.n + 1) 1 ∧ kJ4_toString_0e30d (2 * B.n + 1) S6 = some (d, S7) ∧ S7.c ≤ S6.c ∧ S7.w ≤ S6.w ∧ kL_taught d S7 = some (0, S8) ∧ S8.c ≤ S7.c ∧ S8.w ≤ S7.w ∧ RC (twoA c o) [] S8.g ∧ RM S8 u := by
  obtain ⟨r1, r2⟩ := hr
  have hW := two_len hc ho
  obtain ⟨S1, e1, q1, s1, c1, w1⟩ := tb_new (S := B) (W := sB 70 ++ (dc c ++ (sB 71 ++ (dc o ++ (sB 72 ++ []))))) (by omega) (by omega)
  have hW2 : (sB 70 ++ (dc c ++ (sB 71 ++ (dc o ++ (sB 72 ++ []))))).length ≤ 70 := by rw [List.append_nil, two_spl]; exact hW
  obtain ⟨S2, e2, q2, c2, w2, o2, -, -⟩ := tb_appS q1 (by decide) hW2 (by omega) (by omega) (by omega)
  obtain ⟨S3, e3, q3, c3, w3, o3, -, -⟩ := tb_appI q2 (by omega) hW2 (by omega) (by omega) (by omega)
  obtain ⟨S4, e4, q4, c4, w4, o4, -, -⟩ := tb_appS q3 (by decide) hW2 (by omega) (by omega) (by omega)
  obtain ⟨S5, e5, q5, c5, w5, o5, -, -⟩ := tb_appI q4 (by omega) hW2 (by omega) (by omega) (by omega)
  obtain ⟨S6, e6, q6, c6, w6, o6, -, -⟩ := tb_appS q5 (by decide) hW2 (by omega) (by omega) (by omega)
  obtain ⟨d, S7, e7, k7, s7, t7, o7⟩ := tb_str q6 hW2 (by omega) (by omega)
  rw [List.append_nil, two_spl] at k7
  have x7 := s7.2.2.2
  obtain ⟨S8, x, y, e8, s8, r8, m8⟩ := k_taught (u := u) k7 (by omega) (two_txt hc ho) rfl (by omega) (twoA_tr (c := c) (o := o)) (by rw [s7.1]; exact h11) ⟨by omega, by omega⟩
  exact ⟨S6, d, S7, S8, ⟨S1, e1, c1, w1, S2, e2, o2, c2, w2, S3, e3, o3, c3, w3, S4, e4, o4, c4, w4, S5, e5, o5, c5, w5, e6, o6, c6, w6⟩, o7, e7, t7.2.2.2.1, t7.2.2.2.2.2.1, e8, s8.2.2.2.1, s8.2.2.2.2.2.1, r8, m8⟩
