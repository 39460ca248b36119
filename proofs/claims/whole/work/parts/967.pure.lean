/-! the leaves of sums: both read the same numbers -/
theorem find_spec {t J : Nat} {v1 v2 : Int32} {g : G} (hJ : J ≤ 12) (h6 : g t 6 = nI J) : ∀ (d p f : Nat), J = p + d → d < f → (∃ z, z < J ∧ g (t + 5) z = v1 ∧ g (t + 6) z = v2 ∧ k9_find_2 t g f v1 v2 (nI p) = some (nI z)) ∨ ((∀ k, p ≤ k → k < J → ¬ (g (t + 5) k = v1 ∧ g (t + 6) k = v2)) ∧ k9_find_2 t g f v1 v2 (nI p) = some (-1)) := by
  intro d
  induction d with
  | zero =>
    intro p f hd hf
    obtain ⟨f, rfl⟩ : ∃ z, f = z + 1 := ⟨f - 1, by omega⟩
    refine Or.inr ⟨fun k k1 k2 => by omega, ?_⟩
    unfold k9_find_2
    rw [h6, if_pos (by rw [nI_leI (by omega) (by omega)]; omega)]
  | succ d ih =>
    intro p f hd hf
    obtain ⟨f, rfl⟩ : ∃ z, f = z + 1 := ⟨f - 1, by omega⟩
    have hp : p < J := by omega
    by_cases hn : g (t + 5) p = v1 ∧ g (t + 6) p = v2
    · refine Or.inl ⟨p, hp, hn.1, hn.2, ?_⟩
      unfold k9_find_2
      rw [h6, if_neg (by rw [nI_leI (by omega) (by omega)]; omega), ld_n (by omega) (by omega), if_pos hn.1, ld_n (by omega) (by omega), if_pos hn.2]
    · have stay : k9_find_2 t g (f + 1) v1 v2 (nI p) = k9_find_2 t g f v1 v2 (nI (p + 1)) := by
        conv => lhs; unfold k9_find_2
        rw [h6, if_neg (by rw [nI_leI (by omega) (by omega)]; omega), ld_n (by omega) (by omega)]
        by_cases e : g (t + 5) p = v1
        · rw [if_pos e, ld_n (by omega) (by omega), if_neg (fun z => hn ⟨e, z⟩), bd_eq, nI_1]
        · rw [if_neg e, bd_eq, nI_1]
      rw [stay]
      rcases ih (p + 1) f (by omega) (by omega) with ⟨z, z1, z2, z3, z4⟩ | ⟨z1, z2⟩
      · exact Or.inl ⟨z, z1, z2, z3, z4⟩
      · refine Or.inr ⟨fun k k1 k2 => ?_, z2⟩
        by_cases e : k = p
        · subst e; exact hn
        · exact z1 k (by omega) k2
theorem find_1 {t J : Nat} {v1 v2 : Int32} {g : G} (hJ : J ≤ 12) (h6 : g t 6 = nI J) : (∃ z, z < J ∧ g (t + 5) z = v1 ∧ g (t + 6) z = v2 ∧ k9_find t v1 v2 g = some (nI z)) ∨ ((∀ k, k < J → ¬ (g (t + 5) k = v1 ∧ g (t + 6) k = v2)) ∧ k9_find t v1 v2 g = some (-1)) := by
  rcases find_spec (v1 := v1) (v2 := v2) hJ h6 J 0 FU (by omega) (by unfold FU; omega) with h | ⟨h1, h2⟩
  · exact Or.inl h
  · exact Or.inr ⟨fun k hk => h1 k (by omega) hk, h2⟩
theorem has_spec {q J : Nat} {v : Int32} {g : G} (hJ : J ≤ 12) (h2 : g q 2 = nI J) : ∀ (d p f : Nat), J = p + d → d < f → (∃ z, z < J ∧ g (q + 2) z = v ∧ k3_hasJobFor_2 q g f v (nI p) = some 1) ∨ ((∀ k, p ≤ k → k < J → ¬ g (q + 2) k = v) ∧ k3_hasJobFor_2 q g f v (nI p) = some 0) := by
  intro d
  induction d with
  | zero =>
    intro p f hd hf
    obtain ⟨f, rfl⟩ : ∃ z, f = z + 1 := ⟨f - 1, by omega⟩
    refine Or.inr ⟨fun k k1 k2 => by omega, ?_⟩
    unfold k3_hasJobFor_2
    rw [h2, if_pos (by rw [nI_leI (by omega) (by omega)]; omega)]
  | succ d ih =>
    intro p f hd hf
    obtain ⟨f, rfl⟩ : ∃ z, f = z + 1 := ⟨f - 1, by omega⟩
    have hp : p < J := by omega
    by_cases hn : g (q + 2) p = v
    · refine Or.inl ⟨p, hp, hn, ?_⟩
      unfold k3_hasJobFor_2
      rw [h2, if_neg (by rw [nI_leI (by omega) (by omega)]; omega), ld_n (by omega) (by omega), if_pos hn]
    · have stay : k3_hasJobFor_2 q g (f + 1) v (nI p) = k3_hasJobFor_2 q g f v (nI (p + 1)) := by
        conv => lhs; unfold k3_hasJobFor_2
        rw [h2, if_neg (by rw [nI_leI (by omega) (by omega)]; omega), ld_n (by omega) (by omega), if_neg hn, bd_eq, nI_1]
      rw [stay]
      rcases ih (p + 1) f (by omega) (by omega) with h | ⟨z1, z2⟩
      · exact Or.inl h
      · refine Or.inr ⟨fun k k1 k2 => ?_, z2⟩
        by_cases e : k = p
        · subst e; exact hn
        · exact z1 k (by omega) k2
theorem hasjob2 {q t N J : Nat} {gc gm : G} {v : Int32} (h : RelQ2 q t N J gc gm) : ∃ u, (u = 0 ∨ u = 1) ∧ k3_hasJobFor q v gc = some u ∧ ∀ a4, k11_reckon t 20 v a4 gm = some (u, gm) := by
  obtain ⟨h1, h2, h3, h4, h5, h6, h7, h8⟩ := h
  have hc := has_spec (v := v) h1 h2 J 0 FU (by omega) (by unfold FU; omega)
  have f0 := find_1 (v1 := 0) (v2 := v) h1 h3
  have f1 := find_1 (v1 := 1) (v2 := v) h1 h3
  have f2 := find_1 (v1 := 2) (v2 := v) h1 h3
  have yes : ∀ u : Int32, (∃ z, z < J ∧ k9_find t 0 v gm = some (nI z)) ∨ (k9_find t 0 v gm = some (-1) ∧ ((∃ z, z < J ∧ k9_find t 1 v gm = some (nI z)) ∨ (k9_find t 1 v gm = some (-1) ∧ ∃ z, z < J ∧ k9_find t 2 v gm = some (nI z)))) → ∀ a4, k11_reckon t 20 v a4 gm = some (1, gm) := by
    intro u hh a4
    unfold k11_reckon
    iterate 9 rw [if_neg (by decide)]
    rw [if_pos rfl]
    rcases hh with ⟨z, z1, z2⟩ | ⟨z0, ⟨z, z1, z2⟩ | ⟨z3, z, z1, z2⟩⟩
    · rw [z2, some_bind, if_neg (nI_nm1 (by omega))]
    · rw [z0, some_bind, if_pos rfl, z2, some_bind, if_neg (nI_nm1 (by omega))]
    · rw [z0, some_bind, if_pos rfl, z3, some_bind, if_pos rfl, z2, some_bind, if_neg (nI_nm1 (by omega))]
  have no : k9_find t 0 v gm = some (-1) → k9_find t 1 v gm = some (-1) → k9_find t 2 v gm = some (-1) → ∀ a4, k11_reckon t 20 v a4 gm = some (0, gm) := by
    intro z0 z1 z2 a4
    unfold k11_reckon
    iterate 9 rw [if_neg (by decide)]
    rw [if_pos rfl, z0, some_bind, if_pos rfl, z1, some_bind, if_pos rfl, z2, some_bind, if_pos rfl]
  rcases hc with ⟨z, z1, z2, z3⟩ | ⟨z1, z2⟩
  · refine ⟨1, Or.inr rfl, z3, yes 1 ?_⟩
    obtain ⟨-, m2, -, k2⟩ := h6 z z1
    rcases f0 with ⟨x, x1, -, -, x4⟩ | ⟨x1, x2⟩
    · exact Or.inl ⟨x, x1, x4⟩
    · refine Or.inr ⟨x2, ?_⟩
      rcases f1 with ⟨y, y1, -, -, y4⟩ | ⟨y1, y2⟩
      · exact Or.inl ⟨y, y1, y4⟩
      · refine Or.inr ⟨y2, ?_⟩
        rcases f2 with ⟨w, w1, -, -, w4⟩ | ⟨w1, w2⟩
        · exact ⟨w, w1, w4⟩
        · rcases k2 with k | k | k
          · exact absurd ⟨k, m2.symm.trans z2⟩ (x1 z z1)
          · exact absurd ⟨k, m2.symm.trans z2⟩ (y1 z z1)
          · exact absurd ⟨k, m2.symm.trans z2⟩ (w1 z z1)
  · refine ⟨0, Or.inl rfl, z2, ?_⟩
    have none : ∀ a, (∃ z, z < J ∧ gm (t + 5) z = a ∧ gm (t + 6) z = v ∧ k9_find t a v gm = some (nI z)) ∨ ((∀ k, k < J → ¬ (gm (t + 5) k = a ∧ gm (t + 6) k = v)) ∧ k9_find t a v gm = some (-1)) → k9_find t a v gm = some (-1) := by
      intro a hh
      rcases hh with ⟨x, x1, x2, x3, x4⟩ | ⟨x1, x2⟩
      · exact absurd ((h6 x x1).2.1.trans x3) (z1 x (by omega) x1)
      · exact x2
    exact no (none 0 f0) (none 1 f1) (none 2 f2)
theorem leaf2 {w t N J s : Nat} {rw : Nat → Nat} {gc gm : G} {a2 a3 a4 : Int32} (hO : wOK w t) (hs : ariOf s = 0) (h : RelW w t N J rw gc gm) (hm : ofMirror s → ∃ m, m < N ∧ a3 = nI m ∧ a2 = nI m) (h31 : s = 31 → a2 = a3) : ∃ v gc1 gm1, k7_valueOf w (nI (stepOf s)) a2 gc = some (v, gc1) ∧ k11_reckon t (nI s) a3 a4 gm = some (v, gm1) ∧ RelW w t N J rw gc1 gm1 ∧ fC w gc gc1 ∧ gc1 w = gc w ∧ gc1 (w + 12) = gc (w + 12) ∧ fM t gm gm1 ∧ gm1 78 = gm 78 ∧ gc1 (w + 9) = gc (w + 9) := by
  have hN9 := h.N9
  have same : ∀ v, k7_valueOf w (nI (stepOf s)) a2 gc = some (v, gc) → k11_reckon t (nI s) a3 a4 gm = some (v, gm) → ∃ v gc1 gm1, k7_valueOf w (nI (stepOf s)) a2 gc = some (v, gc1) ∧ k11_reckon t (nI s) a3 a4 gm = some (v, gm1) ∧ RelW w t N J rw gc1 gm1 ∧ fC w gc gc1 ∧ gc1 w = gc w ∧ gc1 (w + 12) = gc (w + 12) ∧ fM t gm gm1 ∧ gm1 78 = gm 78 ∧ gc1 (w + 9) = gc (w + 9) := fun v e1 e2 => ⟨v, gc, gm, e1, e2, h, fC.refl, rfl, rfl, fM.refl, rfl, rfl⟩
  have lit : ∀ v : G → Int32, (∀ gc1, RelW w t N J rw gc1 gm → k4_shine (w + 1) gc = some gc1 → k7_valueOf w (nI (stepOf s)) a2 gc = some (v gc1, gc1) ∧ k11_reckon t (nI s) a3 a4 gm = some (v gc1, gm)) → ∃ v gc1 gm1, k7_valueOf w (nI (stepOf s)) a2 gc = some (v, gc1) ∧ k11_reckon t (nI s) a3 a4 gm = some (v, gm1) ∧ RelW w t N J rw gc1 gm1 ∧ fC w gc gc1 ∧ gc1 w = gc w ∧ gc1 (w + 12) = gc (w + 12) ∧ fM t gm gm1 ∧ gm1 78 = gm 78 ∧ gc1 (w + 9) = gc (w + 9) := by
    intro v hv
    obtain ⟨gc1, c1, h1, f1, f2, f3, -, f9⟩ := w_lit h
    obtain ⟨e1, e2⟩ := hv gc1 h1 c1
    exact ⟨v gc1, gc1, gm, e1, e2, h1, f1, f2, f3, fM.refl, rfl, f9⟩
  have both : ∀ v : G → Int32, (∀ gc1 gm1, RelW w t N J rw gc1 gm1 → k4_shine (w + 1) gc = some gc1 → k11_shine t gm = some gm1 → gm1 47 22 = gc1 (w + 1) 11 → gm1 47 23 = gc1 (w + 1) 12 → (∀ m, m < N → gm1 94 m = gc1 (w + 1 + 5) m ∧ gm1 93 m - gm1 94 m = gc1 (w + 1 + 6) m ∧ gm1 95 m = gc1 (w + 1 + 7) m) → k7_valueOf w (nI (stepOf s)) a2 gc = some (v gc1, gc1) ∧ k11_reckon t (nI s) a3 a4 gm = some (v gc1, gm1)) → ∃ v gc1 gm1, k7_valueOf w (nI (stepOf s)) a2 gc = some (v, gc1) ∧ k11_reckon t (nI s) a3 a4 gm = some (v, gm1) ∧ RelW w t N J rw gc1 gm1 ∧ fC w gc gc1 ∧ gc1 w = gc w ∧ gc1 (w + 12) = gc (w + 12) ∧ fM t gm gm1 ∧ gm1 78 = gm 78 ∧ gc1 (w + 9) = gc (w + 9) := by
    intro v hv
    obtain ⟨gc1, gm1, c1, m1, h1, f1, f2, f3, f4, f5, e1, e2, e3, f9⟩ := w_light hO h
    obtain ⟨x1, x2⟩ := hv gc1 gm1 h1 c1 m1 e1 e2 e3
    exact ⟨v gc1, gc1, gm1, x1, x2, h1, f1, f2, f3, f4, f5, f9⟩
  have hQ := h.2.2.2.2.1
  rcases ari0 hs with rfl | rfl | rfl | rfl | rfl | rfl | rfl | rfl | rfl | rfl | rfl
  · exact same a2 rfl (by rw [h31 rfl]; rfl)
  · exact same (gc w 5) rfl (by rw [h.2.2.2.2.2]; rfl)
  · refine both (fun g => g (w + 1) 11) (fun gc1 gm1 h1 c1 m1 e1 e2 e3 => ⟨?_, ?_⟩)
    · show (k4_lastLight (w + 1) gc).bind _ = _
      unfold k4_lastLight
      rw [c1]; rfl
    · show (k11_light t gm).bind _ = _
      unfold k11_light
      rw [m1, some_bind, e1]; rfl
  · exact same (nI J) (by show some (gc (w + 9) 2, gc) = _; rw [hQ.2.1]) (by show some (gm t 6, gm) = _; rw [hQ.2.2.1])
  · obtain ⟨m, hm1, rfl, rfl⟩ := hm (by unfold ofMirror; omega)
    refine lit (fun g => g (w + 1 + 3) m) (fun gc1 h1 c1 => ⟨?_, ?_⟩)
    · show (k4_valueOf (w + 1) 130 (nI m) gc).bind _ = _
      unfold k4_valueOf
      rw [k4_has_n h.1.1 hN9 hm1, some_bind, if_neg (by decide), c1, some_bind, if_neg (by decide), if_pos rfl, ld_n (by omega) (by omega)]
      rfl
    · show ld gm (t + 3) 10 (nI m) (fun x => some (x, gm)) = _
      rw [ld_n (by omega) (by omega), (h1.1.2.2.2.2.2.1 m hm1).2]
  · obtain ⟨m, hm1, rfl, rfl⟩ := hm (by unfold ofMirror; omega)
    refine lit (fun g => g (w + 1 + 1) m) (fun gc1 h1 c1 => ⟨?_, ?_⟩)
    · show (k4_valueOf (w + 1) 129 (nI m) gc).bind _ = _
      unfold k4_valueOf
      rw [k4_has_n h.1.1 hN9 hm1, some_bind, if_neg (by decide), c1, some_bind, if_pos rfl, ld_n (by omega) (by omega)]
      rfl
    · show ld gm (t + 1) 10 (nI m) (fun x => some (x, gm)) = _
      rw [ld_n (by omega) (by omega), (h1.1.2.2.2.2.2.1 m hm1).1]
  · obtain ⟨m, hm1, rfl, rfl⟩ := hm (by unfold ofMirror; omega)
    refine lit (fun g => g (w + 1 + 2) m) (fun gc1 h1 c1 => ⟨?_, ?_⟩)
    · show (k4_valueOf (w + 1) 145 (nI m) gc).bind _ = _
      unfold k4_valueOf
      rw [k4_has_n h.1.1 hN9 hm1, some_bind, if_neg (by decide), c1, some_bind]
      iterate 16 rw [if_neg (by decide)]
      rw [if_pos rfl, ld_n (by omega) (by omega)]
      rfl
    · show ld gm (t + 2) 10 (nI m) (fun x => some (x, gm)) = _
      rw [ld_n (by omega) (by omega), h1.2.2.1 m hm1]
  · obtain ⟨m, hm1, rfl, rfl⟩ := hm (by unfold ofMirror; omega)
    refine both (fun g => g (w + 1 + 6) m) (fun gc1 gm1 h1 c1 m1 e1 e2 e3 => ⟨?_, ?_⟩)
    · show (k4_valueOf (w + 1) 143 (nI m) gc).bind _ = _
      unfold k4_valueOf
      rw [k4_has_n h.1.1 hN9 hm1, some_bind, if_neg (by decide), c1, some_bind]
      iterate 14 rw [if_neg (by decide)]
      rw [if_pos rfl, ld_n (by omega) (by omega)]
      rfl
    · show (k11_shine t gm).bind _ = _
      rw [m1, some_bind, ld_n (by omega) (by omega), ld_n (by omega) (by omega), (e3 m hm1).2.1]
  · obtain ⟨m, hm1, rfl, rfl⟩ := hm (by unfold ofMirror; omega)
    refine both (fun g => g (w + 1 + 7) m) (fun gc1 gm1 h1 c1 m1 e1 e2 e3 => ⟨?_, ?_⟩)
    · show (k4_valueOf (w + 1) 144 (nI m) gc).bind _ = _
      unfold k4_valueOf
      rw [k4_has_n h.1.1 hN9 hm1, some_bind, if_neg (by decide), c1, some_bind]
      iterate 15 rw [if_neg (by decide)]
      rw [if_pos rfl, ld_n (by omega) (by omega)]
      rfl
    · show (k11_shine t gm).bind _ = _
      rw [m1, some_bind, ld_n (by omega) (by omega), (e3 m hm1).2.2]
  · refine both (fun g => seenV (g (w + 1) 11) (g (w + 1) 9) (g (w + 1) 8) (g (w + 1) 12)) (fun gc1 gm1 h1 c1 m1 e1 e2 e3 => ⟨?_, ?_⟩)
    · show (k4_showsLight (w + 1) gc).bind _ = _
      have : k4_showsLight (w + 1) gc = some (seenV (gc1 (w + 1) 11) (gc1 (w + 1) 9) (gc1 (w + 1) 8) (gc1 (w + 1) 12), gc1) := by
        unfold k4_showsLight seenV
        rw [c1, some_bind]
        split
        · rfl
        · rw [k4_within, some_bind]
          split <;> rfl
      rw [this, some_bind]
      rcases seenV_01 (L := gc1 (w + 1) 11) (lim := gc1 (w + 1) 9) (W := gc1 (w + 1) 8) (a := gc1 (w + 1) 12) with e | e
      · rw [e, if_pos rfl]
      · rw [e, if_neg (show ¬ (1 : Int32) = 0 by decide)]
    · show (k11_seen t gm).bind _ = _
      have : k11_seen t gm = some (seenV (gc1 (w + 1) 11) (gc1 (w + 1) 9) (gc1 (w + 1) 8) (gc1 (w + 1) 12), gm1) := by
        unfold k11_seen k11_light seenV
        rw [m1, some_bind, some_bind, h1.2.1, e1]
        dsimp only
        split
        · rfl
        · rw [k11_isWide_n, some_bind, h1.1.2.2.1, e2]
          split <;> rfl
      rw [this, some_bind]
      rcases seenV_01 (L := gc1 (w + 1) 11) (lim := gc1 (w + 1) 9) (W := gc1 (w + 1) 8) (a := gc1 (w + 1) 12) with e | e
      · rw [e, if_pos rfl]
      · rw [e, if_neg (show ¬ (1 : Int32) = 0 by decide)]
  · obtain ⟨m, hm1, rfl, rfl⟩ := hm (by unfold ofMirror; omega)
    obtain ⟨u, u1, u2, u3⟩ := hasjob2 (v := nI m) hQ
    refine same u ?_ (u3 a4)
    show (k3_hasJobFor (w + 9) (nI m) gc).bind _ = _
    rw [u2, some_bind]
    rcases u1 with rfl | rfl
    · rw [if_pos rfl]
    · rw [if_neg (by decide)]
