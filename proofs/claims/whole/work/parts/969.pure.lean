/-! an order carried out -/
theorem holdV_rng {x : Int64} {lo hi : Int32} (h : lo ≤ hi) : lo ≤ holdV x lo hi ∧ holdV x lo hi ≤ hi := by
  have h1 : lo.toInt ≤ hi.toInt := Int32.le_iff_toInt_le.mp h
  have a1 := Int32.le_toInt lo
  have a2 := Int32.toInt_lt hi
  have key : ∀ z : Int64, lo.toInt ≤ z.toInt → z.toInt ≤ hi.toInt → lo ≤ z.toInt32 ∧ z.toInt32 ≤ hi := by
    intro z z1 z2
    have e : z.toInt32.toInt = z.toInt := by
      rw [Int64.toInt_toInt32, Int.bmod_eq_of_le (by omega) (by omega)]
    exact ⟨Int32.le_iff_toInt_le.mpr (by rw [e]; exact z1), Int32.le_iff_toInt_le.mpr (by rw [e]; exact z2)⟩
  unfold holdV
  by_cases e : x < hi.toInt64
  · rw [if_pos e]
    have e' := Int64.lt_iff_toInt_lt.mp e
    rw [Int32.toInt_toInt64] at e'
    by_cases e2 : x < lo.toInt64
    · rw [if_pos e2]
      exact key _ (by rw [Int32.toInt_toInt64]; omega) (by rw [Int32.toInt_toInt64]; omega)
    · rw [if_neg e2]
      have e2' := Int64.not_lt.mp e2
      rw [Int64.le_iff_toInt_le, Int32.toInt_toInt64] at e2'
      exact key _ e2' (by omega)
  · rw [if_neg e]
    by_cases e2 : hi.toInt64 < lo.toInt64
    · rw [if_pos e2]
      exact key _ (by rw [Int32.toInt_toInt64]; omega) (by rw [Int32.toInt_toInt64]; omega)
    · rw [if_neg e2]
      exact key _ (by rw [Int32.toInt_toInt64]; omega) (by rw [Int32.toInt_toInt64]; omega)
theorem k11_held_eq {x : Int64} {lo hi : Int32} {g : G} : k11_held x lo hi g = some (holdV x lo hi) := rfl
/-- a number of a mirror, written by both -/
theorem RelW.write {w t N J m i : Nat} {rw : Nat → Nat} {gc gm : G} {v : Int32} (hO : wOK w t) (hi : 1 ≤ i ∧ i ≤ 3) (h : RelW w t N J rw gc gm) (hr : Rng t N (up gm (t + i) m v)) : RelW w t N J rw (up (up gc (w + 1 + i) m v) (w + 1) 13 0) (up gm (t + i) m v) := by
  have hO' := hO.o
  unfold okO at hO'
  obtain ⟨⟨r1, r2, r3, r4, r5, r6, r7, r8⟩, h2, h3, h4, h5, h6⟩ := h
  have key : ∀ k, 1 ≤ k → k ≤ 3 → ∀ j, gc (w + 1 + k) j = gm (t + k) j → up (up gc (w + 1 + i) m v) (w + 1) 13 0 (w + 1 + k) j = up gm (t + i) m v (t + k) j := by
    intro k k1 k2 j hj
    rw [up_other (by omega), up_app, up_app]
    by_cases e : k = i ∧ j = m
    · rw [if_pos ⟨by omega, e.2⟩, if_pos ⟨by omega, e.2⟩]
    · rw [if_neg (fun z => e ⟨by omega, z.2⟩), if_neg (fun z => e ⟨by omega, z.2⟩)]
      exact hj
  refine ⟨⟨?_, ?_, ?_, isRow_same ?_ r4, isRow_same (up_ne (by omega)) r5, fun j hj => ⟨key 1 (by omega) (by omega) j (r6 j hj).1, key 3 (by omega) (by omega) j (r6 j hj).2⟩, Or.inl up_self, ?_⟩, ?_, fun j hj => key 2 (by omega) (by omega) j (h3 j hj), hr, h5.fr (fun k hk => ?_) (up_ne (by omega)) (up_ne (by omega)) (up_ne (by omega)), ?_⟩
  · rw [up_slot (by decide), up_other (by omega)]; exact r1
  · rw [up_other (by omega)]; exact r2
  · rw [up_slot (by decide), up_other (by omega), up_other (by omega)]; exact r3
  · rw [up_ne (by omega), up_ne (by omega)]
  · rw [up_slot (by decide), up_other (by omega), covOf_same (up_ne (by omega)) (up_ne (by omega))]; exact r8
  · rw [up_slot (by decide), up_other (by omega), up_other (by omega)]; exact h2
  · rw [up_ne (by omega), up_ne (by omega)]
  · rw [up_other (by omega), up_other (by omega), up_other (by omega)]; exact h6
theorem takes_spec {q J : Nat} {v1 v2 : Int32} {g : G} (hJ : J ≤ 12) (h2 : g q 2 = nI J) : ∀ (d p f : Nat), J = p + d → d < f → (∃ z, z < J ∧ g (q + 1) z = v1 ∧ g (q + 2) z = v2 ∧ k3_takesIn_2 q g f v1 v2 (nI p) = some 0) ∨ ((∀ k, p ≤ k → k < J → ¬ (g (q + 1) k = v1 ∧ g (q + 2) k = v2)) ∧ k3_takesIn_2 q g f v1 v2 (nI p) = some (if 12 ≤ J then 0 else 1)) := by
  intro d
  induction d with
  | zero =>
    intro p f hd hf
    obtain ⟨f, rfl⟩ : ∃ z, f = z + 1 := ⟨f - 1, by omega⟩
    refine Or.inr ⟨fun k k1 k2 => by omega, ?_⟩
    unfold k3_takesIn_2
    rw [h2, if_pos (by rw [nI_leI (by omega) (by omega)]; omega)]
    by_cases e : 12 ≤ J
    · rw [if_pos ((lit_le (M := 12) (k := 12) rfl (by omega) (by omega)).mpr e), if_pos e]
    · rw [if_neg (fun z => e ((lit_le (M := 12) (k := 12) rfl (by omega) (by omega)).mp z)), if_neg e]
  | succ d ih =>
    intro p f hd hf
    obtain ⟨f, rfl⟩ : ∃ z, f = z + 1 := ⟨f - 1, by omega⟩
    have hp : p < J := by omega
    by_cases hn : g (q + 1) p = v1 ∧ g (q + 2) p = v2
    · refine Or.inl ⟨p, hp, hn.1, hn.2, ?_⟩
      unfold k3_takesIn_2
      rw [h2, if_neg (by rw [nI_leI (by omega) (by omega)]; omega), ld_n (by omega) (by omega), if_pos hn.1, ld_n (by omega) (by omega), if_pos hn.2]
    · have stay : k3_takesIn_2 q g (f + 1) v1 v2 (nI p) = k3_takesIn_2 q g f v1 v2 (nI (p + 1)) := by
        conv => lhs; unfold k3_takesIn_2
        rw [h2, if_neg (by rw [nI_leI (by omega) (by omega)]; omega), ld_n (by omega) (by omega)]
        by_cases e : g (q + 1) p = v1
        · rw [if_pos e, ld_n (by omega) (by omega), if_neg (fun z => hn ⟨e, z⟩), bd_eq, nI_1]
        · rw [if_neg e, bd_eq, nI_1]
      rw [stay]
      rcases ih (p + 1) f (by omega) (by omega) with h | ⟨z1, z2⟩
      · exact Or.inl h
      · refine Or.inr ⟨fun k k1 k2 => ?_, z2⟩
        by_cases e : k = p
        · subst e; exact hn
        · exact z1 k (by omega) k2
/-- a job told by an order: both add it, or neither -/
theorem add2 {w t N J m : Nat} {rw : Nat → Nat} {gc gm : G} {v1 : Int32} (hO : wOK w t) (hv : v1 = 0 ∨ v1 = 1 ∨ v1 = 2) (h : RelW w t N J rw gc gm) (hm : m < N) : ∃ gc' gm' u J', k3_add (w + 9) v1 (nI m) gc = some gc' ∧ k9_order t v1 (nI m) gm = some (u, gm') ∧ RelW w t N J' rw gc' gm' ∧ fC w gc gc' ∧ fM t gm gm' ∧ gc' w = gc w ∧ gc' (w + 9) 4 = gc (w + 9) 4 := by
  have hO' := hO.o
  unfold okO at hO'
  have ht : t ≠ 78 ∧ 78 < t := by rcases hO with ⟨-, rfl⟩ | ⟨-, rfl⟩ <;> omega
  obtain ⟨⟨r1, r2, r3, r4, r5, r6, r7, r8⟩, h2, h3, h4, ⟨q1, q2, q3, q4, q5, q6, q7, q8⟩, h6⟩ := id h
  have hN9 := h.N9
  have fi := find_1 (v1 := v1) (v2 := nI m) q1 q3
  have ta := takes_spec (v1 := v1) (v2 := nI m) q1 q2 J 0 FU (by omega) (by unfold FU; omega)
  have hno : k3_takesIn (w + 9) v1 (nI m) gc = some 0 → k9_order t v1 (nI m) gm = some (0, gm) → ∃ gc' gm' u J', k3_add (w + 9) v1 (nI m) gc = some gc' ∧ k9_order t v1 (nI m) gm = some (u, gm') ∧ RelW w t N J' rw gc' gm' ∧ fC w gc gc' ∧ fM t gm gm' ∧ gc' w = gc w ∧ gc' (w + 9) 4 = gc (w + 9) 4 := by
    intro c1 c2
    refine ⟨gc, gm, 0, J, ?_, c2, h, fC.refl, fM.refl, rfl, rfl⟩
    unfold k3_add
    rw [c1, some_bind, if_pos rfl]
  have ne12 : J ≠ 12 → ¬ nI J = 12 := fun e z => e ((nI_eq (b := 12) (by omega) (by omega)).mp z)
  by_cases hJ : J = 12
  · apply hno
    · rcases ta with ⟨z, z1, z2, z3, z4⟩ | ⟨z1, z2⟩
      · exact z4
      · exact z2.trans (by rw [if_pos (by omega)])
    · unfold k9_order
      rw [q3, hJ, if_pos (show nI 12 = 12 from rfl)]
  · rcases ta with ⟨z, z1, z2, z3, z4⟩ | ⟨z1, z2⟩
    · apply hno z4
      rcases fi with ⟨y, y1, y2, y3, y4⟩ | ⟨y1, y2⟩
      · unfold k9_order
        rw [q3, if_neg (ne12 hJ), y4, some_bind, if_neg (nI_nm1 (by omega))]
      · exact absurd ⟨(q6 z z1).1.symm.trans z2, (q6 z z1).2.1.symm.trans z3⟩ (y1 z z1)
    · rcases fi with ⟨y, y1, y2, y3, y4⟩ | ⟨y1, y2⟩
      · exact absurd ⟨(q6 y y1).1.trans y2, (q6 y y1).2.1.trans y3⟩ (z1 y (by omega) y1)
      · rw [if_neg (by omega)] at z2
        have s1 : ∀ k, up (up (up gc (w + 9 + 1) J v1) (w + 9 + 2) J (nI m)) (w + 9) 2 (nI (J + 1)) (w + 9 + 1) k = if k = J then v1 else gc (w + 9 + 1) k := by
          intro k
          rw [up_other (by omega), up_other (by omega), up_app]
          by_cases e : k = J
          · rw [if_pos ⟨rfl, e⟩, if_pos e]
          · rw [if_neg (fun z => e z.2), if_neg e]
        have s2 : ∀ k, up (up (up gc (w + 9 + 1) J v1) (w + 9 + 2) J (nI m)) (w + 9) 2 (nI (J + 1)) (w + 9 + 2) k = if k = J then nI m else gc (w + 9 + 2) k := by
          intro k
          rw [up_other (by omega), up_app, up_other (by omega)]
          by_cases e : k = J
          · rw [if_pos ⟨rfl, e⟩, if_pos e]
          · rw [if_neg (fun z => e z.2), if_neg e]
        have s3 : ∀ k, up (up (up gm (t + 5) J v1) (t + 6) J (nI m)) t 6 (nI (J + 1)) (t + 5) k = if k = J then v1 else gm (t + 5) k := by
          intro k
          rw [up_other (by omega), up_other (by omega), up_app]
          by_cases e : k = J
          · rw [if_pos ⟨rfl, e⟩, if_pos e]
          · rw [if_neg (fun z => e z.2), if_neg e]
        have s4 : ∀ k, up (up (up gm (t + 5) J v1) (t + 6) J (nI m)) t 6 (nI (J + 1)) (t + 6) k = if k = J then nI m else gm (t + 6) k := by
          intro k
          rw [up_other (by omega), up_app, up_other (by omega)]
          by_cases e : k = J
          · rw [if_pos ⟨rfl, e⟩, if_pos e]
          · rw [if_neg (fun z => e z.2), if_neg e]
        refine ⟨up (up (up gc (w + 9 + 1) J v1) (w + 9 + 2) J (nI m)) (w + 9) 2 (nI (J + 1)), up (up (up gm (t + 5) J v1) (t + 6) J (nI m)) t 6 (nI (J + 1)), 1, J + 1, ?_, ?_, ⟨⟨?_, ?_, ?_, isRow_same ?_ r4, isRow_same ?_ r5, fun j hj => ?_, litOK_same (fun i hi => ?_) r7, ?_⟩, ?_, fun j hj => ?_, h4.frame ?_ ?_ ?_, ⟨by omega, up_self, up_self, ?_, ?_, fun k hk => ?_, ?_, fun z => by omega⟩, ?_⟩, fun a ha => ?_, ⟨fun a a1 a2 a3 a4 a5 a6 => ?_, fun k k1 k2 => ?_⟩, ?_, ?_⟩
        · unfold k3_add
          rw [show k3_takesIn (w + 9) v1 (nI m) gc = some 1 from z2, some_bind, if_neg (by decide), q2, sto_n (by omega) (by omega), up_other (by omega), q2, sto_n (by omega) (by omega), bd_eq, up_other (by omega), up_other (by omega), q2, nI_1]
        · unfold k9_order
          rw [q3, if_neg (ne12 hJ), y2, some_bind, if_pos rfl, sto_n (by omega) (by omega), up_other (by omega), q3, sto_n (by omega) (by omega), bd_eq, up_other (by omega), up_other (by omega), q3, nI_1]
        · rw [up_other (by omega), up_other (by omega), up_other (by omega)]; exact r1
        · rw [up_other (by omega), up_other (by omega), up_other (by omega)]; exact r2
        · rw [up_other (by omega), up_other (by omega), up_other (by omega), up_other (by omega), up_other (by omega), up_other (by omega)]; exact r3
        · rw [up_ne (by omega), up_ne (by omega), up_ne (by omega)]
        · rw [up_ne (by omega), up_ne (by omega), up_ne (by omega)]
        · rw [up_other (by omega), up_other (by omega), up_other (by omega), up_other (by omega), up_other (by omega), up_other (by omega), up_other (by omega), up_other (by omega), up_other (by omega), up_other (by omega), up_other (by omega), up_other (by omega)]
          exact r6 j hj
        · rw [up_ne (by omega), up_ne (by omega), up_ne (by omega)]
        · rw [up_other (by omega), up_other (by omega), up_other (by omega), r8]
          unfold covOf
          rw [up_slot (by decide), up_other (by omega), up_other (by omega)]
          by_cases e : J = 0
          · rw [q8 e, if_pos (by decide), if_pos (by decide)]
          · rw [up_other (by omega), up_slot (by omega), up_other (by omega)]
        · rw [up_other (by omega), up_other (by omega), up_other (by omega), up_other (by omega), up_other (by omega), up_other (by omega)]; exact h2
        · rw [up_other (by omega), up_other (by omega), up_other (by omega), up_other (by omega), up_other (by omega), up_other (by omega)]
          exact h3 j hj
        · rw [up_ne (by omega), up_ne (by omega), up_ne (by omega)]
        · rw [up_ne (by omega), up_ne (by omega), up_ne (by omega)]
        · rw [up_ne (by omega), up_ne (by omega), up_ne (by omega)]
        · rw [up_slot (by decide), up_other (by omega), up_other (by omega), up_slot (by decide), up_other (by omega), up_other (by omega)]; exact q4
        · rw [up_slot (by decide), up_other (by omega), up_other (by omega), up_slot (by decide), up_other (by omega), up_other (by omega)]; exact q5
        · rw [s1, s2, s3, s4]
          by_cases e : k = J
          · rw [if_pos e, if_pos e, if_pos e, if_pos e]
            exact ⟨rfl, rfl, ⟨m, hm, rfl⟩, hv⟩
          · rw [if_neg e, if_neg e, if_neg e, if_neg e]
            exact q6 k (by omega)
        · rw [up_slot (by decide), up_other (by omega), up_other (by omega)]; exact q7
        · rw [up_other (by omega), up_other (by omega), up_other (by omega), up_slot (by decide), up_other (by omega), up_other (by omega)]; exact h6
        · rw [up_ne (by omega), up_ne (by omega), up_ne (by omega)]
        · rw [up_ne (by omega), up_ne (by omega), up_ne (by omega)]
        · rw [up_other (by omega), up_other (by omega), up_other (by omega)]
        · rw [up_ne (by omega), up_ne (by omega), up_ne (by omega)]
        · rw [up_slot (by decide), up_other (by omega), up_other (by omega)]
