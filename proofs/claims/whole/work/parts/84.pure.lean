/-! which mirror, which place: both ask alike -/
theorem in_c {a : Int32} {N : Nat} (hN : N < 2 ^ 31) : (¬ a < 0 ∧ a < nI N) ↔ ∃ m, m < N ∧ a = nI m := by
  constructor
  · rintro ⟨h1, h2⟩
    obtain ⟨m, hm, rfl⟩ := nI_of h1
    exact ⟨m, (nI_ltI hm hN).mp h2, rfl⟩
  · rintro ⟨m, hm, rfl⟩
    exact ⟨nI_pos (by omega), (nI_ltI (by omega) hN).mpr hm⟩
theorem lt_pred {a : Int32} {N : Nat} (hN : N < 2 ^ 31) : nI N - 1 < a ↔ ¬ a < nI N := by
  rw [Int32.lt_iff_toInt_lt, Int32.lt_iff_toInt_lt, Int32.toInt_sub, nI_toInt hN, show (1 : Int32).toInt = 1 from rfl, Int.bmod_eq_of_le (by omega) (by omega)]
  omega
theorem chk_in {m N : Nat} {g : G} (hN : g 22 7 = nI N) (hN9 : N ≤ 10) (h : m < N) : k8_checkMirror (nI m) g = some (0, 0, g) := by
  unfold k8_checkMirror
  rw [if_neg (nI_pos (by omega)), hN, if_pos ((nI_ltI (by omega) (by omega)).mpr h)]
theorem chk_out {a : Int32} {N : Nat} {g : G} (hN : g 22 7 = nI N) (h : ¬ (¬ a < 0 ∧ a < nI N)) : k8_checkMirror a g = some (3, 0, g) := by
  unfold k8_checkMirror k8_checkMirror_18
  by_cases h1 : a < 0
  · rw [if_pos h1]
  · rw [if_neg h1, hN, if_neg (fun h2 => h ⟨h1, h2⟩)]
theorem isM_in {m N : Nat} {g : G} (hN : g 54 0 = nI N) (hN9 : N ≤ 10) (h : m < N) : k11_isMirror (nI m) g = some (1, up g 47 0 0) := by
  unfold k11_isMirror k11_isMirror_25
  rw [k11_isIn_n, some_bind, hN, if_neg (nI_pos (by omega)), if_neg (fun h2 => (lt_pred (by omega)).mp h2 ((nI_ltI (by omega) (by omega)).mpr h)), if_neg (by decide)]
  exact zr_01 (Or.inr rfl)
theorem isM_out {a : Int32} {N : Nat} {g : G} (hN : g 54 0 = nI N) (hN9 : N ≤ 10) (h : ¬ (¬ a < 0 ∧ a < nI N)) : k11_isMirror a g = some (0, up g 47 0 1) := by
  unfold k11_isMirror k11_isMirror_25
  have e : (if a < 0 then (0 : Int32) else if nI N - 1 < a then 0 else 1) = 0 := by
    by_cases h1 : a < 0
    · rw [if_pos h1]
    · rw [if_neg h1, if_pos ((lt_pred (by omega)).mpr (fun h2 => h ⟨h1, h2⟩))]
  rw [k11_isIn_n, some_bind, hN, e, if_pos rfl]
  exact zr_01 (Or.inl rfl)
theorem xb_0 {v : Int32} {g : G} {f : G → Option XR} : xb (some (0, v, g)) f = f g := rfl
theorem xb_e {e : Nat} {v : Int32} {g : G} {f : G → Option XR} (h : e ≠ 0) : xb (some (e, v, g)) f = some (e, v, g) := if_neg h
/-- a query of a mirror: the class's way and the reference's, from one world -/
theorem wr1_0 {e : Nat} {v : Int32} {g : G} {f : Nat → Int64} {x : Int64} : wr1 e (0, v, g) f x = some (0, g, vp_updL f 0 x) := if_pos rfl
theorem wr1_e {e : Nat} {v : Int32} {g : G} {f : Nat → Int64} {x : Int64} (h : e ≠ 0) : wr1 e (e, v, g) f x = some (1, g, f) := by
  unfold wr1
  rw [if_neg h, if_pos rfl]
theorem vpL_0 {f : Nat → Int64} {x : Int64} : vp_updL f 0 x 0 = x := if_pos rfl
/-! the row's own queries -/
theorem valueOf_pre {o t N m : Nat} {rw : Nat → Nat} {g : G} (hO : okO o t) (h : RelR o t N rw g) (hm : m < N) (a1 : Int32) : ∃ g1, litOf o rw N g g1 ∧ RelR o t N rw g1 ∧ k4_shine o g = some g1 ∧ k4_has o (nI m) g = some 1 := by
  obtain ⟨g1, e1, l1, r1⟩ := shine_c hO h
  exact ⟨g1, l1, r1, e1, k4_has_n h.1 h.row.1 hm⟩
theorem RelR.N9 {o t N : Nat} {rw : Nat → Nat} {g : G} (h : RelR o t N rw g) : N ≤ 10 := h.row.1
theorem v129 {o t N m : Nat} {rw : Nat → Nat} {g : G} (hO : okO o t) (h : RelR o t N rw g) (hm : m < N) : ∃ g1, k4_valueOf o 129 (nI m) g = some (g1 (t + 1) m, g1) ∧ litOf o rw N g g1 ∧ RelR o t N rw g1 := by
  obtain ⟨g1, l1, r1, e1, e2⟩ := valueOf_pre hO h hm 129
  have := h.N9
  refine ⟨g1, ?_, l1, r1⟩
  unfold k4_valueOf
  rw [e2, some_bind, if_neg (by decide), e1, some_bind, if_pos rfl, ld_n (by omega) (by omega), (r1.2.2.2.2.2.2.1 m hm).1]
theorem v130 {o t N m : Nat} {rw : Nat → Nat} {g : G} (hO : okO o t) (h : RelR o t N rw g) (hm : m < N) : ∃ g1, k4_valueOf o 130 (nI m) g = some (g1 (t + 3) m, g1) ∧ litOf o rw N g g1 ∧ RelR o t N rw g1 := by
  obtain ⟨g1, l1, r1, e1, e2⟩ := valueOf_pre hO h hm 130
  have := h.N9
  refine ⟨g1, ?_, l1, r1⟩
  unfold k4_valueOf
  rw [e2, some_bind, if_neg (by decide), e1, some_bind, if_neg (by decide), if_pos rfl, ld_n (by omega) (by omega), (r1.2.2.2.2.2.2.1 m hm).2.2]
theorem v145 {o t N m : Nat} {rw : Nat → Nat} {g : G} (hO : okO o t) (h : RelR o t N rw g) (hm : m < N) : ∃ g1, k4_valueOf o 145 (nI m) g = some (g1 (t + 2) m, g1) ∧ litOf o rw N g g1 ∧ RelR o t N rw g1 := by
  obtain ⟨g1, l1, r1, e1, e2⟩ := valueOf_pre hO h hm 145
  have := h.N9
  refine ⟨g1, ?_, l1, r1⟩
  unfold k4_valueOf
  rw [e2, some_bind, if_neg (by decide), e1, some_bind]
  iterate 16 rw [if_neg (by decide)]
  rw [if_pos rfl, ld_n (by omega) (by omega), (r1.2.2.2.2.2.2.1 m hm).2.1]
