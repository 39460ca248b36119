/-! the mirror that loses most; jobs ordered and cancelled -/
theorem worst_loop {o N : Nat} {rw : Nat → Nat} {g1 g2 : G} (hN : g1 o 7 = nI N) (hR : isRow g1 (o + 4) N rw) (hN2 : g2 54 0 = nI N) (hR2 : isRow g2 83 N rw) (hb : ∀ q, q < N → g2 93 (rw q) - g2 94 (rw q) = g1 (o + 6) (rw q)) : ∀ (d p f z : Nat), N = p + d → d < f → z < N → ∃ w, w < N ∧ k4_mostLosing_12 o f (nI (rw z)) (nI p) g1 = some (nI (rw w), g1) ∧ k11_worstMirror_41 f (nI (rw z)) (nI p) g2 = some (nI (rw w), g2) := by
  have hN9 := hR.1
  intro d
  induction d with
  | zero =>
    intro p f z hd hf hz
    obtain ⟨f, rfl⟩ : ∃ y, f = y + 1 := ⟨f - 1, by omega⟩
    obtain rfl : N = p := by omega
    refine ⟨z, hz, ?_, ?_⟩
    · unfold k4_mostLosing_12
      rw [hN, if_pos (by rw [nI_leI (by omega) (by omega)]; omega)]
    · unfold k11_worstMirror_41
      rw [hN2, if_pos (by rw [nI_leI (by omega) (by omega)]; omega)]
  | succ d ih =>
    intro p f z hd hf hz
    obtain ⟨f, rfl⟩ : ∃ y, f = y + 1 := ⟨f - 1, by omega⟩
    have hp : p < N := by omega
    have hrp := (hR.2.1 p hp).2
    have hrz := (hR.2.1 z hz).2
    by_cases hc : g1 (o + 6) (rw p) ≤ g1 (o + 6) (rw z)
    · obtain ⟨w, w1, w2, w3⟩ := ih (p + 1) f z (by omega) (by omega) hz
      refine ⟨w, w1, ?_, ?_⟩
      · unfold k4_mostLosing_12
        rw [hN, if_neg (by rw [nI_leI (by omega) (by omega)]; omega), k4_mirrorIn_n hN hR hp, some_bind, k4_has_n hN hN9 hrp, some_bind, if_neg (by decide), k4_has_n hN hN9 hrz, some_bind, if_neg (by decide), ld_n (by omega) (by omega), ld_n (by omega) (by omega), if_pos hc, bd_eq, nI_1, w2]
      · unfold k11_worstMirror_41
        rw [hN2, if_neg (by rw [nI_leI (by omega) (by omega)]; omega), ld_n (by omega) (by omega), (hR2.2.1 p hp).1, ld_n (by omega) (by omega), ld_n (by omega) (by omega), ld_n (by omega) (by omega), ld_n (by omega) (by omega), hb p hp, hb z hz, if_pos hc, bd_eq, nI_1, w3]
    · obtain ⟨w, w1, w2, w3⟩ := ih (p + 1) f p (by omega) (by omega) hp
      refine ⟨w, w1, ?_, ?_⟩
      · unfold k4_mostLosing_12
        rw [hN, if_neg (by rw [nI_leI (by omega) (by omega)]; omega), k4_mirrorIn_n hN hR hp, some_bind, k4_has_n hN hN9 hrp, some_bind, if_neg (by decide), k4_has_n hN hN9 hrz, some_bind, if_neg (by decide), ld_n (by omega) (by omega), ld_n (by omega) (by omega), if_neg hc, bd_eq, nI_1, w2]
      · unfold k11_worstMirror_41
        rw [hN2, if_neg (by rw [nI_leI (by omega) (by omega)]; omega), ld_n (by omega) (by omega), (hR2.2.1 p hp).1, ld_n (by omega) (by omega), ld_n (by omega) (by omega), ld_n (by omega) (by omega), ld_n (by omega) (by omega), hb p hp, hb z hz, if_neg hc, bd_eq, nI_1, w3]
theorem p_worstMirror : S_worstMirror Inv := by
  intro n g f h
  obtain ⟨N, J, rw, h⟩ := h
  have hN9 := h.R.N9
  by_cases hm : N = 0
  · subst hm
    refine ⟨(1, g, f), (0, up (up g 47 0 0) 47 0 1), ?_, ?_, (show up (up g 47 0 0) 47 0 1 47 0 = 1 from up_self), fun h => absurd h (by show ¬ (1 : Int32) = 0; decide), h.thrown.thrown.next⟩
    · unfold w_worstMirror k8_worstMirror
      rw [h.R.1, if_pos (show nI 0 = 0 from rfl)]
      exact wr1_e (by decide)
    · unfold k11_worstMirror
      rw [bd_eq]
      dsimp only
      rw [h.thrown.R.2.1, if_pos (show nI 0 = 0 from rfl)]
      rfl
  · obtain ⟨g1, e1, l1, r1⟩ := shine_c hO0 h.R
    have h1 := (h.lit l1).thrown (v := 0)
    obtain ⟨g2, e2, l2, r2⟩ := shine_m hO0 h1.R
    obtain ⟨m1, m2, m3⟩ := lit_m hO0 h1.R (by rw [up_other (by decide)]; exact l1.2.2.1) l2
    have hb : ∀ q, q < N → g2 93 (rw q) - g2 94 (rw q) = g1 (22 + 6) (rw q) := fun q hq => by
      rw [(m3 q hq).2.1, up_other (by decide)]
    obtain ⟨w, w1, w2, w3⟩ := worst_loop r1.1 r1.row r2.2.1 r2.mrow hb (N - 1) 1 FU 0 (by omega) (by unfold FU; omega) (by omega)
    refine ⟨(0, g1, vp_updL f 0 (nI (rw w)).toInt64), (nI (rw w), g2), ?_, ?_, ?_, fun _ => rfl, (h1.mlit l2).next⟩
    · unfold w_worstMirror k8_worstMirror k4_mostLosing
      rw [h.R.1, if_neg (by rw [show (0 : Int32) = nI 0 from rfl, nI_eq (by omega) (by omega)]; exact hm), e1, some_bind, show (0 : Int32) = nI 0 from rfl, k4_mirrorIn_n r1.1 r1.row (by omega), some_bind, show (1 : Int32) = nI 1 from rfl, w2]
      exact wr1_0
    · unfold k11_worstMirror
      rw [bd_eq]
      dsimp only
      rw [h1.R.2.1, if_neg (by rw [show (0 : Int32) = nI 0 from rfl, nI_eq (by omega) (by omega)]; exact hm), e2, some_bind, show (0 : Int32) = nI 0 from rfl, ld_n (by omega) (by omega), (r2.mrow.2.1 0 (by omega)).1, show (1 : Int32) = nI 1 from rfl, w3]
    · show g2 47 0 = 0
      rw [l2.2.1 0 (by decide) (by decide), up_self]
/-- the row's own arrays as they were; what is covered is told again -/
theorem RelR.next {o t N : Nat} {rw : Nat → Nat} {g g' : G} (h : RelR o t N rw g) (ho : ∀ i, 1 ≤ i → i ≤ 7 → g' (o + i) = g (o + i)) (ht : ∀ i, 1 ≤ i → i ≤ 4 → g' (t + i) = g (t + i)) (h54 : g' 54 = g 54) (hk : ∀ k, k ≠ 10 → k ≠ 13 → g' o k = g o k) (h13 : g' o 13 = 0 ∨ (g' o = g o)) (hc : g' o 10 = covOf t g') : RelR o t N rw g' := by
  obtain ⟨h1, h2, h3, h4, h5, h6, h7, h8, h9⟩ := h
  refine ⟨by rw [hk 7 (by decide) (by decide)]; exact h1, by rw [h54]; exact h2, by rw [hk 8 (by decide) (by decide), h54]; exact h3, by rw [hk 9 (by decide) (by decide), h54]; exact h4, isRow_same (ho 4 (by omega) (by omega)) h5, isRow_same (ht 4 (by omega) (by omega)) h6, fun m hm => ?_, ?_, hc⟩
  · rw [ho 1 (by omega) (by omega), ho 2 (by omega) (by omega), ho 3 (by omega) (by omega), ht 1 (by omega) (by omega), ht 2 (by omega) (by omega), ht 3 (by omega) (by omega)]
    exact h7 m hm
  · rcases h13 with q | q
    · exact Or.inl q
    · rcases h8 with h | ⟨h, ha, hb, hcc⟩
      · exact Or.inl (by rw [q]; exact h)
      · refine Or.inr ⟨by rw [q]; exact h, ?_, ?_, ?_⟩
        · rw [ho 1 (by omega) (by omega), ho 3 (by omega) (by omega), q]
          exact litTo_same (ho 5 (by omega) (by omega)) (ho 6 (by omega) (by omega)) (ho 7 (by omega) (by omega)) ha
        · rw [ho 1 (by omega) (by omega), ho 3 (by omega) (by omega), q]
          exact hb
        · rw [ho 3 (by omega) (by omega), q]
          exact hcc
theorem find_both {q t J : Nat} {v1 v2 : Int32} {g : G} (hJ : J ≤ 12) (h2 : g q 2 = nI J) (h6 : g t 6 = nI J) (hk : ∀ k, k < J → g (q + 1) k = g (t + 5) k ∧ g (q + 2) k = g (t + 6) k) : ∀ (d p f : Nat), J = p + d → d < f → (∃ z, z < J ∧ k9_find_2 t g f v1 v2 (nI p) = some (nI z) ∧ k3_takesIn_2 q g f v1 v2 (nI p) = some 0) ∨ (k9_find_2 t g f v1 v2 (nI p) = some (-1) ∧ k3_takesIn_2 q g f v1 v2 (nI p) = some (if 12 ≤ J then 0 else 1)) := by
  intro d
  induction d with
  | zero =>
    intro p f hd hf
    obtain ⟨f, rfl⟩ : ∃ z, f = z + 1 := ⟨f - 1, by omega⟩
    obtain rfl : J = p := by omega
    refine Or.inr ⟨?_, ?_⟩
    · unfold k9_find_2
      rw [h6, if_pos (by rw [nI_leI (by omega) (by omega)]; omega)]
    · unfold k3_takesIn_2
      rw [h2, if_pos (by rw [nI_leI (by omega) (by omega)]; omega)]
      by_cases e : 12 ≤ J
      · rw [if_pos ((lit_le (M := 12) (k := 12) rfl (by omega) (by omega)).mpr e), if_pos e]
      · rw [if_neg (fun z => e ((lit_le (M := 12) (k := 12) rfl (by omega) (by omega)).mp z)), if_neg e]
  | succ d ih =>
    intro p f hd hf
    obtain ⟨f, rfl⟩ : ∃ z, f = z + 1 := ⟨f - 1, by omega⟩
    have hp : p < J := by omega
    obtain ⟨k1, k2⟩ := hk p hp
    have stay : ¬ (g (t + 5) p = v1 ∧ g (t + 6) p = v2) → k9_find_2 t g (f + 1) v1 v2 (nI p) = k9_find_2 t g f v1 v2 (nI (p + 1)) ∧ k3_takesIn_2 q g (f + 1) v1 v2 (nI p) = k3_takesIn_2 q g f v1 v2 (nI (p + 1)) := by
      intro hn
      constructor
      · conv => lhs; unfold k9_find_2
        rw [h6, if_neg (by rw [nI_leI (by omega) (by omega)]; omega), ld_n (by omega) (by omega)]
        by_cases e : g (t + 5) p = v1
        · rw [if_pos e, ld_n (by omega) (by omega), if_neg (fun z => hn ⟨e, z⟩), bd_eq, nI_1]
        · rw [if_neg e, bd_eq, nI_1]
      · conv => lhs; unfold k3_takesIn_2
        rw [h2, if_neg (by rw [nI_leI (by omega) (by omega)]; omega), ld_n (by omega) (by omega), k1]
        by_cases e : g (t + 5) p = v1
        · rw [if_pos e, ld_n (by omega) (by omega), k2, if_neg (fun z => hn ⟨e, z⟩), bd_eq, nI_1]
        · rw [if_neg e, bd_eq, nI_1]
    by_cases hn : g (t + 5) p = v1 ∧ g (t + 6) p = v2
    · refine Or.inl ⟨p, hp, ?_, ?_⟩
      · unfold k9_find_2
        rw [h6, if_neg (by rw [nI_leI (by omega) (by omega)]; omega), ld_n (by omega) (by omega), if_pos hn.1, ld_n (by omega) (by omega), if_pos hn.2]
      · unfold k3_takesIn_2
        rw [h2, if_neg (by rw [nI_leI (by omega) (by omega)]; omega), ld_n (by omega) (by omega), k1, if_pos hn.1, ld_n (by omega) (by omega), k2, if_pos hn.2]
    · obtain ⟨s1, s2⟩ := stay hn
      rw [s1, s2]
      exact ih (p + 1) f (by omega) (by omega)
theorem wr3_0 {e1 e2 e3 : Nat} {v : Int32} {g : G} {f : Nat → Int64} {x : Int64} : wr3 e1 e2 e3 (0, v, g) f x = some (0, g, vp_updL f 0 x) := if_pos rfl
theorem wr3_3 {v : Int32} {g : G} {f : Nat → Int64} {x : Int64} : wr3 3 2 1 (3, v, g) f x = some (1, g, f) := rfl
theorem wr3_2 {v : Int32} {g : G} {f : Nat → Int64} {x : Int64} : wr3 3 2 1 (2, v, g) f x = some (2, g, f) := rfl
theorem wr3_1 {v : Int32} {g : G} {f : Nat → Int64} {x : Int64} : wr3 3 2 1 (1, v, g) f x = some (3, g, f) := rfl
/-- the queues alone are others -/
theorem InvC.jobs {n N J J' : Nat} {rw : Nat → Nat} {g g' : G} (h : InvC n N J rw g) (hf : ∀ a, a ≠ 22 → a ≠ 30 → a ≠ 31 → a ≠ 32 → a ≠ 47 → a ≠ 79 → a ≠ 84 → a ≠ 85 → g' a = g a) (h2 : g' 47 2 = g 47 2) (h3 : g' 47 3 = g 47 3) (hk : ∀ k, k ≠ 10 → k ≠ 13 → g' 22 k = g 22 k) (h13 : g' 22 13 = 0 ∨ (g' 22 = g 22)) (hc : g' 22 10 = covOf 79 g') (hQ : RelQ 30 79 N J' g') (h8 : g' 79 8 = g 79 8) (h4 : g' 30 4 = g 30 4) : InvC n N J' rw g' := by
  obtain ⟨a1, a2, a3, a4, a5, a6, ⟨d, d1, d2⟩, a7⟩ := h
  refine ⟨a1.frame ?_ ?_ ?_ h2, ?_, a3.next (fun i i1 i2 => ?_) (fun i i1 i2 => ?_) ?_ hk h13 hc, a4.frame ?_ ?_ ?_, hQ, ?_, ⟨d, d1, by rw [h4]; exact d2⟩, a7.frame (fun a ha => ?_)⟩
  any_goals (exact hf _ (by omega) (by omega) (by omega) (by omega) (by omega) (by omega) (by omega) (by omega))
  · rw [hf 0 (by omega) (by omega) (by omega) (by omega) (by omega) (by omega) (by omega) (by omega), h3]; exact a2
  · rw [hf 21 (by omega) (by omega) (by omega) (by omega) (by omega) (by omega) (by omega) (by omega), h8]; exact a6
theorem p_orderJob : S_orderJob Inv := by
  intro n g f a b h
  obtain ⟨N, J, rw, h⟩ := h
  have hN9 := h.R.N9
  obtain ⟨q1, q2, q3, q4, q5, q6, q7, q8⟩ := h.Q
  by_cases hm : ¬ a < 0 ∧ a < nI N
  · obtain ⟨m, hm1, rfl⟩ := (in_c (by omega)).mp hm
    by_cases hv : b < 0 ∨ 2 < b
    · refine ⟨(2, g, f), (0, up (up g 47 0 0) 47 0 2), ?_, ?_, (show up (up g 47 0 0) 47 0 2 47 0 = 2 from up_self), fun h => absurd h (by show ¬ (2 : Int32) = 0; decide), h.thrown.thrown.next⟩
      · unfold w_orderJob k8_orderJob k8_orderJob_14
        rw [chk_in h.R.1 hN9 hm1, xb_0]
        rcases hv with hv | hv
        · rw [if_pos hv]
          exact wr3_2
        · by_cases h1 : b < 0
          · rw [if_pos h1]
            exact wr3_2
          · rw [if_neg h1, if_neg (Int32.not_le.mpr hv)]
            exact wr3_2
      · unfold k11_orderJob
        have e : (if b < 0 then (0 : Int32) else if (2 : Int32) < b then 0 else 1) = 0 := by
          rcases hv with hv | hv
          · rw [if_pos hv]
          · split
            · rfl
            · rfl
        rw [isM_in h.R.2.1 hN9 hm1, some_bind]
        dsimp only
        rw [if_neg (by decide), k11_isIn_n, some_bind, e, if_pos rfl]
        rfl
    · have hv1 : ¬ b < 0 := fun q => hv (Or.inl q)
      have hv2 : ¬ 2 < b := fun q => hv (Or.inr q)
      have hkind : b = 0 ∨ b = 1 ∨ b = 2 := by
        obtain ⟨k, hk, rfl⟩ := (in_le (N := 2) (by omega)).mp ⟨hv1, Int32.not_lt.mp hv2⟩
        rcases (show k = 0 ∨ k = 1 ∨ k = 2 by omega) with rfl | rfl | rfl
        · exact Or.inl rfl
        · exact Or.inr (Or.inl rfl)
        · exact Or.inr (Or.inr rfl)
      have cls : ∀ u : Int32, k3_takesIn 30 b (nI m) g = some u → w_orderJob (nI m) b g f = (if u = 0 then wr3 3 2 1 (1, 0, g) f (0 : Int32).toInt64 else ((k3_add 30 b (nI m) g).bind fun g6 => some (0, (g6 30 2), g6)).bind fun w => wr3 3 2 1 w f w.2.1.toInt64) := by
        intro u hu
        unfold w_orderJob k8_orderJob
        rw [chk_in h.R.1 hN9 hm1, xb_0, if_neg hv1, if_pos (Int32.not_lt.mp hv2), hu, some_bind]
        by_cases e : u = 0
        · rw [if_pos e, if_pos e]; rfl
        · rw [if_neg e, if_neg e]
      have mdl : ∀ g', g' 54 = g 54 → k11_orderJob (nI m) b g' = (k9_order 79 b (nI m) (up g' 47 0 0)).bind fun u5 => if u5.1 = 0 then (k11_no 3 u5.2).bind fun u7 => some (u7.1, u7.2) else some ((u5.2 79 6), u5.2) := by
        intro g' e54
        unfold k11_orderJob
        rw [isM_in (by rw [e54]; exact h.R.2.1) hN9 hm1, some_bind]
        dsimp only
        rw [if_neg (by decide), k11_isIn_n, some_bind, if_neg hv1, if_neg hv2, if_neg (by decide)]
      have hno : (k3_takesIn 30 b (nI m) g = some 0) → (k9_order 79 b (nI m) (up g 47 0 0) = some (0, up g 47 0 0)) → ∃ (u : WR) (v : Int32 × G), w_orderJob (nI m) b g f = some u ∧ k11_orderJob (nI m) b u.2.1 = some v ∧ v.2 47 0 = u.1 ∧ (u.1 = 0 → u.2.2 0 = v.1.toInt64) ∧ Inv (n + 1) v.2 := by
        intro c1 c2
        refine ⟨(3, g, f), (0, up (up g 47 0 0) 47 0 3), ?_, ?_, (show up (up g 47 0 0) 47 0 3 47 0 = 3 from up_self), fun h => absurd h (by show ¬ (3 : Int32) = 0; decide), h.thrown.thrown.next⟩
        · rw [cls 0 c1, if_pos rfl]
          exact wr3_1
        · show k11_orderJob (nI m) b g = _
          rw [mdl g rfl, c2, some_bind, if_pos rfl]
          rfl
      have hf := find_both (q := 30) (t := 79) (v1 := b) (v2 := nI m) (g := g) q1 q2 q3 (fun k hk => ⟨(q6 k hk).1, (q6 k hk).2.1⟩) J 0 FU (by omega) (by unfold FU; omega)
      have hfm : ∀ g', g' 79 = g 79 → g' 84 = g 84 → g' 85 = g 85 → ∀ fu x, k9_find_2 79 g' fu b (nI m) x = k9_find_2 79 g fu b (nI m) x := by
        intro g' e1 e2 e3 fu
        induction fu with
        | zero => intro x; rfl
        | succ fu ih =>
          intro x
          unfold k9_find_2
          unfold ld
          rw [e1, e2, e3]
          simp only [ih]
      by_cases hJ : J = 12
      · apply hno
        · rcases hf with ⟨z, z1, z2, z3⟩ | ⟨z1, z2⟩
          · exact z3
          · exact z2.trans (by rw [if_pos (by omega)])
        · unfold k9_order
          rw [up_ne (by decide), q3, hJ, if_pos (show nI 12 = 12 from rfl)]
      · rcases hf with ⟨z, z1, z2, z3⟩ | ⟨z1, z2⟩
        · apply hno z3
          unfold k9_order k9_find
          rw [up_ne (by decide), q3, if_neg (by rw [show (12 : Int32) = nI 12 from rfl, nI_eq (by omega) (by omega)]; exact hJ), hfm _ (up_ne (by decide)) (up_ne (by decide)) (up_ne (by decide)), show (0 : Int32) = nI 0 from rfl, z2, some_bind, if_neg (nI_nm1 (by omega))]
        · rw [if_neg (by omega)] at z2
          refine ⟨(0, up (up (up g 31 J b) 32 J (nI m)) 30 2 (nI (J + 1)), vp_updL f 0 (nI (J + 1)).toInt64), (nI (J + 1), up (up (up (up (up (up (up g 31 J b) 32 J (nI m)) 30 2 (nI (J + 1))) 47 0 0) 84 J b) 85 J (nI m)) 79 6 (nI (J + 1))), ?_, ?_, ?_, fun _ => rfl, InvC.next (N := N) (J := J + 1) (rw := rw) ?_⟩
          · rw [cls 1 z2, if_neg (by decide)]
            unfold k3_add
            rw [show k3_takesIn 30 b (nI m) g = some 1 from z2, some_bind, if_neg (by decide), q2, sto_n (by omega) (by omega), up_other (by decide), q2, sto_n (by omega) (by omega), bd_eq, up_other (by decide), up_other (by decide), q2, nI_1, some_bind, up_self]
            exact wr3_0
          · show k11_orderJob (nI m) b (up (up (up g 31 J b) 32 J (nI m)) 30 2 (nI (J + 1))) = _
            rw [mdl _ (by rw [up_ne (by decide), up_ne (by decide), up_ne (by decide)])]
            generalize hg0 : up (up (up (up g 31 J b) 32 J (nI m)) 30 2 (nI (J + 1))) 47 0 0 = g0
            have e79 : g0 79 = g 79 := by subst hg0; rw [up_ne (by decide), up_ne (by decide), up_ne (by decide), up_ne (by decide)]
            have e84 : g0 84 = g 84 := by subst hg0; rw [up_ne (by decide), up_ne (by decide), up_ne (by decide), up_ne (by decide)]
            have e85 : g0 85 = g 85 := by subst hg0; rw [up_ne (by decide), up_ne (by decide), up_ne (by decide), up_ne (by decide)]
            unfold k9_order k9_find
            rw [hfm g0 e79 e84 e85, show k9_find_2 79 g FU b (nI m) 0 = some (-1) from z1, some_bind, if_pos rfl, e79, q3, if_neg (by rw [show (12 : Int32) = nI 12 from rfl, nI_eq (by omega) (by omega)]; exact hJ), sto_n (by omega) (by omega), up_other (by decide), e79, q3, sto_n (by omega) (by omega), bd_eq, up_other (by decide), up_other (by decide), e79, q3, nI_1, some_bind]
            dsimp only
            rw [if_neg (by decide), up_self]
          · show up (up (up (up (up (up (up g 31 J b) 32 J (nI m)) 30 2 (nI (J + 1))) 47 0 0) 84 J b) 85 J (nI m)) 79 6 (nI (J + 1)) 47 0 = 0
            rw [up_other (by decide), up_other (by decide), up_other (by decide), up_self]
          · show InvC n N (J + 1) rw (up (up (up (up (up (up (up g 31 J b) 32 J (nI m)) 30 2 (nI (J + 1))) 47 0 0) 84 J b) 85 J (nI m)) 79 6 (nI (J + 1)))
            generalize hg0 : up (up (up (up (up (up (up g 31 J b) 32 J (nI m)) 30 2 (nI (J + 1))) 47 0 0) 84 J b) 85 J (nI m)) 79 6 (nI (J + 1)) = g0
            have hf : ∀ a, a ≠ 30 → a ≠ 31 → a ≠ 32 → a ≠ 47 → a ≠ 79 → a ≠ 84 → a ≠ 85 → g0 a = g a := by
              intro a b1 b2 b3 b4 b5 b6 b7
              subst hg0
              rw [up_ne b5, up_ne b7, up_ne b6, up_ne b4, up_ne b1, up_ne b3, up_ne b2]
            have e30 : ∀ k, k ≠ 2 → g0 30 k = g 30 k := by
              intro k hk
              subst hg0
              rw [up_other (by decide), up_other (by decide), up_other (by decide), up_other (by decide), up_slot hk, up_other (by decide), up_other (by decide)]
            have e79 : ∀ k, k ≠ 6 → g0 79 k = g 79 k := by
              intro k hk
              subst hg0
              rw [up_slot hk, up_other (by decide), up_other (by decide), up_other (by decide), up_other (by decide), up_other (by decide), up_other (by decide)]
            have e31 : ∀ k, g0 31 k = if k = J then b else g 31 k := by
              intro k
              subst hg0
              rw [up_other (by decide), up_other (by decide), up_other (by decide), up_other (by decide), up_other (by decide), up_other (by decide), up_app]
              by_cases e : k = J
              · rw [if_pos ⟨rfl, e⟩, if_pos e]
              · rw [if_neg (fun z => e z.2), if_neg e]
            have e32 : ∀ k, g0 32 k = if k = J then nI m else g 32 k := by
              intro k
              subst hg0
              rw [up_other (by decide), up_other (by decide), up_other (by decide), up_other (by decide), up_other (by decide), up_app, up_other (by decide)]
              by_cases e : k = J
              · rw [if_pos ⟨rfl, e⟩, if_pos e]
              · rw [if_neg (fun z => e z.2), if_neg e]
            have e84 : ∀ k, g0 84 k = if k = J then b else g 84 k := by
              intro k
              subst hg0
              rw [up_other (by decide), up_other (by decide), up_app, up_other (by decide), up_other (by decide), up_other (by decide), up_other (by decide)]
              by_cases e : k = J
              · rw [if_pos ⟨rfl, e⟩, if_pos e]
              · rw [if_neg (fun z => e z.2), if_neg e]
            have e85 : ∀ k, g0 85 k = if k = J then nI m else g 85 k := by
              intro k
              subst hg0
              rw [up_other (by decide), up_app, up_other (by decide), up_other (by decide), up_other (by decide), up_other (by decide), up_other (by decide)]
              by_cases e : k = J
              · rw [if_pos ⟨rfl, e⟩, if_pos e]
              · rw [if_neg (fun z => e z.2), if_neg e]
            have e30s : g0 30 2 = nI (J + 1) := by
              subst hg0
              rw [up_other (by decide), up_other (by decide), up_other (by decide), up_other (by decide), up_self]
            have e79s : g0 79 6 = nI (J + 1) := by
              subst hg0
              rw [up_self]
            have e47 : ∀ k, k ≠ 0 → g0 47 k = g 47 k := by
              intro k hk
              subst hg0
              rw [up_other (by decide), up_other (by decide), up_other (by decide), up_slot hk, up_other (by decide), up_other (by decide), up_other (by decide)]
            clear hg0
            have e22 := hf 22 (by decide) (by decide) (by decide) (by decide) (by decide) (by decide) (by decide)
            refine h.jobs (fun a _ b1 b2 b3 b4 b5 b6 b7 => hf a b1 b2 b3 b4 b5 b6 b7) (e47 2 (by decide)) (e47 3 (by decide)) (fun k _ _ => by rw [e22]) (Or.inr e22) ?_ ⟨by omega, e30s, e79s, by rw [e30 3 (by decide), e79 7 (by decide)]; exact q4, by rw [e30 4 (by decide), e79 9 (by decide)]; exact q5, fun k hk => ?_, by rw [e79 7 (by decide)]; exact q7, fun z => by omega⟩ (e79 8 (by decide)) (e30 4 (by decide))
            · rw [e22, h.R.2.2.2.2.2.2.2.2]
              unfold covOf
              rw [e79 7 (by decide), e85]
              by_cases e : J = 0
              · rw [q8 e, if_pos (by decide), if_pos (by decide)]
              · rw [if_neg (show ¬ 0 = J by omega)]
            · show g0 31 k = g0 84 k ∧ g0 32 k = g0 85 k ∧ (∃ m, m < N ∧ g0 85 k = nI m) ∧ (g0 84 k = 0 ∨ g0 84 k = 1 ∨ g0 84 k = 2)
              rw [e31, e32, e84, e85]
              by_cases e : k = J
              · rw [if_pos e, if_pos e, if_pos e, if_pos e]
                exact ⟨rfl, rfl, ⟨m, hm1, rfl⟩, hkind⟩
              · rw [if_neg e, if_neg e, if_neg e, if_neg e]
                exact q6 k (by omega)
  · refine ⟨(1, g, f), (0, up g 47 0 1), ?_, ?_, by show up g 47 0 1 47 0 = 1; exact up_self, fun h => absurd h (by show ¬ (1 : Int32) = 0; decide), h.thrown.next⟩
    · unfold w_orderJob k8_orderJob
      rw [chk_out h.R.1 hm, xb_e (by decide)]
      exact wr3_3
    · unfold k11_orderJob
      show (k11_isMirror a g).bind _ = _
      rw [isM_out h.R.2.1 hN9 hm, some_bind, if_pos rfl]
/-! a job cancelled -/
def shq (a p : Nat) (x y : Nat → Int32) : Prop := (∀ k, k < a → y k = x k) ∧ (∀ k, a ≤ k → k < p → y k = x (k + 1)) ∧ ∀ k, p ≤ k → y k = x k
theorem shq_0 {a : Nat} {x : Nat → Int32} : shq a a x x := ⟨fun _ _ => rfl, fun k h1 h2 => by omega, fun _ _ => rfl⟩
theorem shq_up {a p c : Nat} {x : Nat → Int32} {g : G} (hp : a ≤ p) (h : shq a p x (g c)) : shq a (p + 1) x (up g c p (x (p + 1)) c) := by
  obtain ⟨h1, h2, h3⟩ := h
  refine ⟨fun k hk => ?_, fun k k1 k2 => ?_, fun k hk => ?_⟩
  · rw [up_slot (by omega)]; exact h1 k hk
  · by_cases e : k = p
    · subst e; exact up_self
    · rw [up_slot e]; exact h2 k k1 (by omega)
  · rw [up_slot (by omega)]; exact h3 k (by omega)
theorem shq_ne {a p c o j : Nat} {x : Nat → Int32} {g : G} {v : Int32} (hc : c ≠ o) (h : shq a p x (g c)) : shq a p x (up g o j v c) := by
  rw [up_ne hc]; exact h
theorem remove_loop {o a J : Nat} {g0 : G} (hJ : J ≤ 11) (ha : a ≤ J) (hN : g0 o 2 = nI J) : ∀ (d p f : Nat) (g : G), J = p + d → d < f → a ≤ p → (∀ b, b ≠ o + 1 → b ≠ o + 2 → g b = g0 b) → shq a p (g0 (o + 1)) (g (o + 1)) → shq a p (g0 (o + 2)) (g (o + 2)) → ∃ g', (∀ b, b ≠ o + 1 → b ≠ o + 2 → g' b = g0 b) ∧ shq a J (g0 (o + 1)) (g' (o + 1)) ∧ shq a J (g0 (o + 2)) (g' (o + 2)) ∧ k3_remove_25 o f (nI a) (nI p) g = some (if a = 0 then up g' o 3 0 else g') := by
  intro d
  induction d with
  | zero =>
    intro p f g hd hf hap hg h1 h2
    obtain ⟨f, rfl⟩ : ∃ z, f = z + 1 := ⟨f - 1, by omega⟩
    obtain rfl : J = p := by omega
    refine ⟨g, hg, h1, h2, ?_⟩
    unfold k3_remove_25
    rw [hg o (by omega) (by omega), hN, if_pos (by rw [nI_leI (by omega) (by omega)]; omega)]
    by_cases e : a = 0
    · rw [if_pos (by rw [e]; rfl), if_pos e, bd_eq]
    · rw [if_neg (by rw [show (0 : Int32) = nI 0 from rfl, nI_eq (by omega) (by omega)]; exact e), if_neg e]
  | succ d ih =>
    intro p f g hd hf hap hg h1 h2
    obtain ⟨f, rfl⟩ : ∃ z, f = z + 1 := ⟨f - 1, by omega⟩
    obtain ⟨g', k1, k2, k3, k4⟩ := ih (p + 1) f (up (up g (o + 1) p (g0 (o + 1) (p + 1))) (o + 2) p (g0 (o + 2) (p + 1))) (by omega) (by omega) (by omega) (fun b b1 b2 => by rw [up_ne b2, up_ne b1, hg b b1 b2]) (shq_ne (by omega) (shq_up hap h1)) (by
      have := shq_up hap (shq_ne (o := o + 1) (j := p) (v := g0 (o + 1) (p + 1)) (show o + 2 ≠ o + 1 by omega) h2)
      exact this)
    refine ⟨g', k1, k2, k3, ?_⟩
    rw [← k4]
    conv => lhs; unfold k3_remove_25
    rw [hg o (by omega) (by omega), hN, if_neg (by rw [nI_leI (by omega) (by omega)]; omega), nI_1, ld_n (by omega) (by omega), sto_n (by omega) (by omega), ld_n (by omega) (by omega), sto_n (by omega) (by omega), bd_eq, up_other (by omega), h1.2.2 (p + 1) (by omega), h2.2.2 (p + 1) (by omega)]
theorem take_loop {o a J : Nat} {g0 : G} {v : Int32} (hJ : J ≤ 11) (ha : a ≤ J) (hN : g0 o 6 = nI J) : ∀ (d p f : Nat) (g : G), J = p + d → d < f → a ≤ p → (∀ b, b ≠ o + 5 → b ≠ o + 6 → g b = g0 b) → shq a p (g0 (o + 5)) (g (o + 5)) → shq a p (g0 (o + 6)) (g (o + 6)) → ∃ g', (∀ b, b ≠ o + 5 → b ≠ o + 6 → g' b = g0 b) ∧ shq a J (g0 (o + 5)) (g' (o + 5)) ∧ shq a J (g0 (o + 6)) (g' (o + 6)) ∧ k9_take_19 o f (nI a) v (nI p) g = some (v, if a = 0 then up g' o 7 0 else g') := by
  intro d
  induction d with
  | zero =>
    intro p f g hd hf hap hg h1 h2
    obtain ⟨f, rfl⟩ : ∃ z, f = z + 1 := ⟨f - 1, by omega⟩
    obtain rfl : J = p := by omega
    refine ⟨g, hg, h1, h2, ?_⟩
    unfold k9_take_19
    rw [hg o (by omega) (by omega), hN, if_pos (by rw [nI_leI (by omega) (by omega)]; omega)]
    by_cases e : a = 0
    · rw [if_pos (by rw [e]; rfl), if_pos e, bd_eq]
    · rw [if_neg (by rw [show (0 : Int32) = nI 0 from rfl, nI_eq (by omega) (by omega)]; exact e), if_neg e]
  | succ d ih =>
    intro p f g hd hf hap hg h1 h2
    obtain ⟨f, rfl⟩ : ∃ z, f = z + 1 := ⟨f - 1, by omega⟩
    obtain ⟨g', k1, k2, k3, k4⟩ := ih (p + 1) f (up (up g (o + 5) p (g0 (o + 5) (p + 1))) (o + 6) p (g0 (o + 6) (p + 1))) (by omega) (by omega) (by omega) (fun b b1 b2 => by rw [up_ne b2, up_ne b1, hg b b1 b2]) (shq_ne (by omega) (shq_up hap h1)) (by
      have := shq_up hap (shq_ne (o := o + 5) (j := p) (v := g0 (o + 5) (p + 1)) (show o + 6 ≠ o + 5 by omega) h2)
      exact this)
    refine ⟨g', k1, k2, k3, ?_⟩
    rw [← k4]
    conv => lhs; unfold k9_take_19
    rw [hg o (by omega) (by omega), hN, if_neg (by rw [nI_leI (by omega) (by omega)]; omega), nI_1, ld_n (by omega) (by omega), sto_n (by omega) (by omega), ld_n (by omega) (by omega), sto_n (by omega) (by omega), bd_eq, up_other (by omega), h1.2.2 (p + 1) (by omega), h2.2.2 (p + 1) (by omega)]
theorem drop_c {o a J : Nat} {g : G} (hJ : J ≤ 11) (ha : a ≤ J) (hN : g (o + 9) 2 = nI (J + 1)) : ∃ g', k7_dropJob o (nI a) g = some g' ∧ (∀ b, b ≠ o + 1 → b ≠ o + 9 → b ≠ o + 9 + 1 → b ≠ o + 9 + 2 → g' b = g b) ∧ (∀ k, k ≠ 10 → k ≠ 13 → g' (o + 1) k = g (o + 1) k) ∧ (a = 0 → g' (o + 1) 10 = -1 ∧ g' (o + 1) 13 = 0) ∧ (a ≠ 0 → g' (o + 1) = g (o + 1)) ∧ g' (o + 9) 2 = nI J ∧ g' (o + 9) 3 = (if a = 0 then 0 else g (o + 9) 3) ∧ g' (o + 9) 4 = g (o + 9) 4 ∧ shq a J (g (o + 9 + 1)) (g' (o + 9 + 1)) ∧ shq a J (g (o + 9 + 2)) (g' (o + 9 + 2)) := by
  obtain ⟨g1, f1, f2, f3, f4⟩ := remove_loop (o := o + 9) (a := a) (J := J) (g0 := up g (o + 9) 2 (nI J)) hJ ha up_self (J - a) a FU (up g (o + 9) 2 (nI J)) (by omega) (by unfold FU; omega) (by omega) (fun _ _ _ => rfl) shq_0 shq_0
  rw [up_ne (by omega)] at f2 f3
  have hrem : k3_remove (o + 9) (nI a) g = some (if a = 0 then up g1 (o + 9) 3 0 else g1) := by
    unfold k3_remove
    rw [if_neg (nI_pos (by omega)), hN, if_pos ((nI_ltI (by omega) (by omega)).mpr (by omega)), bd_eq, nI_pred, f4]
  have e9 : g1 (o + 9) = up g (o + 9) 2 (nI J) (o + 9) := f1 (o + 9) (by omega) (by omega)
  by_cases e : a = 0
  · subst e
    rw [if_pos rfl] at hrem
    refine ⟨up (up (up g1 (o + 9) 3 0) (o + 1) 10 (-1)) (o + 1) 13 0, ?_, fun b b1 b2 b3 b4 => ?_, fun k k1 k2 => ?_, fun _ => ⟨?_, ?_⟩, fun q => absurd rfl q, ?_, ?_, ?_, ?_, ?_⟩
    · unfold k7_dropJob
      rw [hrem, some_bind, if_pos (show nI 0 = 0 from rfl)]
      rfl
    · rw [up_ne b1, up_ne b1, up_ne b2, f1 b b3 b4, up_ne b2]
    · rw [up_slot k2, up_slot k1, up_other (by omega), f1 _ (by omega) (by omega), up_other (by omega)]
    · rw [up_slot (by decide), up_self]
    · rw [up_self]
    · rw [up_other (by omega), up_other (by omega), up_slot (by decide), e9, up_self]
    · rw [up_other (by omega), up_other (by omega), up_self, if_pos rfl]
    · rw [up_other (by omega), up_other (by omega), up_slot (by decide), e9, up_slot (by decide)]
    · rw [up_ne (by omega), up_ne (by omega), up_ne (by omega)]
      exact f2
    · rw [up_ne (by omega), up_ne (by omega), up_ne (by omega)]
      exact f3
  · rw [if_neg e] at hrem
    refine ⟨g1, ?_, fun b b1 b2 b3 b4 => ?_, fun k k1 k2 => ?_, fun q => absurd q e, fun _ => ?_, ?_, ?_, ?_, f2, f3⟩
    · unfold k7_dropJob
      rw [hrem, some_bind, if_neg (by rw [show (0 : Int32) = nI 0 from rfl, nI_eq (by omega) (by omega)]; exact e)]
    · rw [f1 b b3 b4, up_ne b2]
    · rw [f1 _ (by omega) (by omega), up_other (by omega)]
    · rw [f1 _ (by omega) (by omega), up_ne (by omega)]
    · rw [e9, up_self]
    · rw [e9, up_slot (by decide), if_neg e]
    · rw [e9, up_slot (by decide)]
theorem take_m {t a J : Nat} {g : G} (hJ : J ≤ 11) (ha : a ≤ J) (hN : g t 6 = nI (J + 1)) : ∃ g', k9_take t (nI a) g = some (g (t + 6) a, g') ∧ (∀ b, b ≠ t → b ≠ t + 5 → b ≠ t + 6 → g' b = g b) ∧ (∀ k, k ≠ 6 → k ≠ 7 → g' t k = g t k) ∧ g' t 6 = nI J ∧ g' t 7 = (if a = 0 then 0 else g t 7) ∧ shq a J (g (t + 5)) (g' (t + 5)) ∧ shq a J (g (t + 6)) (g' (t + 6)) := by
  obtain ⟨g1, f1, f2, f3, f4⟩ := take_loop (o := t) (a := a) (J := J) (v := g (t + 6) a) (g0 := up g t 6 (nI J)) hJ ha up_self (J - a) a FU (up g t 6 (nI J)) (by omega) (by unfold FU; omega) (by omega) (fun _ _ _ => rfl) shq_0 shq_0
  rw [up_ne (by omega)] at f2 f3
  have e9 : g1 t = up g t 6 (nI J) t := f1 t (by omega) (by omega)
  have hk : k9_take t (nI a) g = some (g (t + 6) a, if a = 0 then up g1 t 7 0 else g1) := by
    unfold k9_take
    rw [ld_n (by omega) (by omega), bd_eq, hN, nI_pred, f4]
  by_cases e : a = 0
  · rw [if_pos e] at hk
    refine ⟨_, hk, fun b b1 b2 b3 => ?_, fun k k1 k2 => ?_, ?_, ?_, ?_, ?_⟩
    · rw [up_ne b1, f1 b b2 b3, up_ne b1]
    · rw [up_slot k2, e9, up_slot k1]
    · rw [up_slot (by decide), e9, up_self]
    · rw [up_self, if_pos e]
    · rw [up_ne (by omega)]; exact f2
    · rw [up_ne (by omega)]; exact f3
  · rw [if_neg e] at hk
    refine ⟨_, hk, fun b b1 b2 b3 => ?_, fun k k1 k2 => ?_, ?_, ?_, f2, f3⟩
    · rw [f1 b b2 b3, up_ne b1]
    · rw [e9, up_slot k1]
    · rw [e9, up_self]
    · rw [e9, up_slot (by decide), if_neg e]
theorem drop_Q {q t N J a : Nat} {g g' : G} (ha : a ≤ J) (h : RelQ q t N (J + 1) g) (c1 : g' q 2 = nI J) (c2 : g' q 3 = (if a = 0 then 0 else g q 3)) (c3 : g' q 4 = g' t 9) (c4 : shq a J (g (q + 1)) (g' (q + 1))) (c5 : shq a J (g (q + 2)) (g' (q + 2))) (m1 : g' t 6 = nI J) (m2 : g' t 7 = (if a = 0 then 0 else g t 7)) (m4 : shq a J (g (t + 5)) (g' (t + 5))) (m5 : shq a J (g (t + 6)) (g' (t + 6))) : RelQ q t N J g' := by
  obtain ⟨q1, q2, q3, q4, q5, q6, q7, q8⟩ := h
  refine ⟨by omega, c1, m1, by rw [c2, m2, q4], c3, fun k hk => ?_, ?_, fun e => ?_⟩
  · by_cases e : k < a
    · rw [c4.1 k e, c5.1 k e, m4.1 k e, m5.1 k e]
      exact q6 k (by omega)
    · rw [c4.2.1 k (by omega) hk, c5.2.1 k (by omega) hk, m4.2.1 k (by omega) hk, m5.2.1 k (by omega) hk]
      exact q6 (k + 1) (by omega)
  · rw [m2]
    split
    · decide
    · exact q7
  · rw [m2, if_pos (by omega)]
theorem p_cancelJob : S_cancelJob Inv := by
  intro n g f a h
  obtain ⟨N, J, rw, h⟩ := h
  have hN9 := h.R.N9
  have hQ := h.Q
  obtain ⟨q1, q2, q3, q4, q5, q6, q7, q8⟩ := h.Q
  by_cases hm : ¬ a < 0 ∧ a < nI J
  · obtain ⟨k, hk, rfl⟩ := (in_c (by omega)).mp hm
    obtain ⟨J, rfl⟩ : ∃ j, J = j + 1 := ⟨J - 1, by omega⟩
    obtain ⟨g1, c0, c1, c2, c3, c4, c5, c6, c7, c8, c9⟩ := drop_c (o := 21) (a := k) (J := J) (g := g) (by omega) (by omega) q2
    have e79 : g1 79 = g 79 := c1 79 (by decide) (by decide) (by decide) (by decide)
    have e84 : g1 84 = g 84 := c1 84 (by decide) (by decide) (by decide) (by decide)
    have e85 : g1 85 = g 85 := c1 85 (by decide) (by decide) (by decide) (by decide)
    have n79 : (up g1 47 0 0) 79 = g 79 := by rw [up_ne (by decide), e79]
    have n84 : (up g1 47 0 0) 84 = g 84 := by rw [up_ne (by decide), e84]
    have n85 : (up g1 47 0 0) 85 = g 85 := by rw [up_ne (by decide), e85]
    obtain ⟨g2, m0, m1, m2, m3, m4, m5, m6⟩ := take_m (t := 79) (a := k) (J := J) (g := up g1 47 0 0) (by omega) (by omega) (by rw [n79]; exact q3)
    have hb : ∀ b, b ≠ 79 → b ≠ 84 → b ≠ 85 → b ≠ 47 → g2 b = g1 b := fun b b1 b2 b3 b4 => by rw [m1 b b1 b2 b3, up_ne b4]
    have b22 : g2 22 = g1 22 := hb 22 (by decide) (by decide) (by decide) (by decide)
    have b30 : g2 30 = g1 30 := hb 30 (by decide) (by decide) (by decide) (by decide)
    have b31 : g2 31 = g1 31 := hb 31 (by decide) (by decide) (by decide) (by decide)
    have b32 : g2 32 = g1 32 := hb 32 (by decide) (by decide) (by decide) (by decide)
    rw [n79] at m2 m4
    rw [show up g1 47 0 0 (79 + 5) = g 84 from n84] at m5
    rw [show up g1 47 0 0 (79 + 6) = g 85 from n85] at m6
    refine ⟨(0, g1, vp_updL f 0 (g 85 k).toInt64), (g 85 k, g2), ?_, ?_, ?_, fun _ => rfl, InvC.next (N := N) (J := J) (rw := rw) ?_⟩
    · unfold w_cancelJob k8_cancelJob k3_mirrorIn
      rw [chkJ_in q2 q1 hk, xb_0, if_neg (nI_pos (by omega)), q2, if_neg (by rw [nI_leI (by omega) (by omega)]; omega), ld_n (by omega) (by omega), (q6 k hk).2.1, some_bind, c0]
      exact wr1_0
    · unfold k11_cancelJob
      show (k11_isJob (nI k) g1).bind _ = _
      rw [isJ_in (by rw [e79]; exact q3) q1 hk, some_bind]
      dsimp only
      rw [if_neg (by decide), m0, some_bind]
      dsimp only
      rw [show up g1 47 0 0 (79 + 6) = g 85 from n85]
    · show g2 47 0 = 0
      rw [m1 47 (by decide) (by decide) (by decide), up_self]
    · show InvC n N J rw g2
      have hQ2 : RelQ 30 79 N J g2 := drop_Q (a := k) (by omega) hQ (by rw [b30]; exact c5) (by rw [b30]; exact c6) (by rw [b30, m2 9 (by decide) (by decide)]; exact c7.trans q5) (by rw [b31]; exact c8) (by rw [b32]; exact c9) m3 m4 m5 m6
      have h47 : ∀ i, i ≠ 0 → g2 47 i = g 47 i := fun i hi => by
        rw [m1 47 (by decide) (by decide) (by decide), up_slot hi, c1 47 (by decide) (by decide) (by decide) (by decide)]
      refine h.jobs (fun a b1 b2 b3 b4 b5 b6 b7 b8 => ?_) (h47 2 (by decide)) (h47 3 (by decide)) (fun i i1 i2 => by rw [b22]; exact c2 i i1 i2) ?_ ?_ hQ2 (m2 8 (by decide) (by decide)) (by rw [b30]; exact c7)
      · rw [hb a b6 b7 b8 b5, c1 a b1 b2 b3 b4]
      · by_cases e : k = 0
        · exact Or.inl (by rw [b22]; exact (c3 e).2)
        · exact Or.inr (by rw [b22]; exact c4 e)
      · unfold covOf
        rw [m4]
        by_cases e : k = 0
        · rw [if_pos e, if_pos (by decide), b22]
          exact (c3 e).1
        · rw [if_neg e, b22, show g2 (79 + 6) 0 = g 85 0 from m6.1 0 (by omega)]
          rw [show g1 22 = g 22 from c4 e]
          exact h.R.2.2.2.2.2.2.2.2
  · refine ⟨(1, g, f), (0, up g 47 0 1), ?_, ?_, by show up g 47 0 1 47 0 = 1; exact up_self, fun h => absurd h (by show ¬ (1 : Int32) = 0; decide), h.thrown.next⟩
    · unfold w_cancelJob k8_cancelJob
      rw [chkJ_out q2 hm, xb_e (by decide)]
      exact wr1_e (by decide)
    · unfold k11_cancelJob
      show (k11_isJob a g).bind _ = _
      rw [isJ_out q3 q1 hm, some_bind, if_pos rfl]
