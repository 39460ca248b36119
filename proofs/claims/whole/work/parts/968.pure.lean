/-! a node of a sum: both follow it -/
theorem fin_push {w t N J j : Nat} {rw : Nat → Nat} {gc gm : G} {v : Int32} {st : List Nat} (hO : wOK w t) (h : RelW w t N J rw gc gm) (h4 : gc w 4 = nI st.length) (hl : st.length < 400) (hv : sv (gc (w + 12)) (gm 78) st) (hlt : ∀ a, a ∈ st → a < j) : ∃ gc', k7_push w v gc = some gc' ∧ RelW w t N J rw gc' (up gm 78 j v) ∧ gc' w 4 = nI (j :: st).length ∧ sv (gc' (w + 12)) (up gm 78 j v 78) (j :: st) ∧ fC w gc gc' ∧ gc' (w + 9) = gc (w + 9) := by
  refine ⟨_, k7_push_n h4 hl, ?_, up_self, ?_, fun a ha => ?_, by rw [up_ne (by omega), up_ne (by omega)]⟩
  · exact (h.stk (gc' := up (up gc (w + 12) st.length v) w 4 (nI (st.length + 1))) (fun a a1 a2 => by rw [up_ne a1, up_ne a2]) (by rw [up_slot (by decide), up_other (by omega)])).val hO
  · refine ⟨?_, sv_same st hv (fun i hi => ?_) (fun a ha => ?_)⟩
    · rw [up_other (by omega), up_self, up_self]
    · rw [up_other (by omega), up_slot (by omega)]
    · have := hlt a ha
      rw [up_slot (by omega)]
  · rw [up_ne (by omega), up_ne (by omega)]
theorem pop_1 {w t N J a : Nat} {rw : Nat → Nat} {gc gm : G} {st : List Nat} (h : RelW w t N J rw gc gm) (h4 : gc w 4 = nI (a :: st).length) (hl : (a :: st).length ≤ 400) (hv : sv (gc (w + 12)) (gm 78) (a :: st)) : ∃ gc', k7_pop w gc = some (gm 78 a, gc') ∧ RelW w t N J rw gc' gm ∧ gc' w 4 = nI st.length ∧ sv (gc' (w + 12)) (gm 78) st ∧ fC w gc gc' ∧ gc' (w + 9) = gc (w + 9) := by
  have hl' : st.length + 1 ≤ 400 := hl
  refine ⟨up gc w 4 (nI st.length), ?_, ?_, up_self, ?_, fun b hb => ?_, up_ne (by omega)⟩
  · rw [k7_pop_n (p := st.length) h4 (by omega), hv.1]
  · exact h.stk (fun b b1 b2 => by rw [up_ne b1]) (by rw [up_slot (by decide)])
  · exact sv_same st hv.2 (fun i hi => by rw [up_other (by omega)]) (fun _ _ => rfl)
  · rw [up_ne (by omega)]
theorem fo_leaf {w s : Nat} {a2 : Int32} {g : G} (h : ariOf s = 0) : k7_follow w (nI (stepOf s)) a2 g = (k7_valueOf w (nI (stepOf s)) a2 g).bind fun u7 => (k7_push w u7.1 u7.2).bind fun g8 => some g8 := by
  have o : k8_isOrder (nI (stepOf s)) g = some 0 := by
    unfold k8_isOrder
    rcases ari0 h with rfl | rfl | rfl | rfl | rfl | rfl | rfl | rfl | rfl | rfl | rfl <;> iterate 5 rw [if_neg (by decide)]
  have i : k7_joinsTwo (nI (stepOf s)) g = some 0 := by
    unfold k7_joinsTwo
    rcases ari0 h with rfl | rfl | rfl | rfl | rfl | rfl | rfl | rfl | rfl | rfl | rfl <;> iterate 13 rw [if_neg (by decide)]
  have n6 : ¬ nI (stepOf s) = 6 := by
    rcases ari0 h with rfl | rfl | rfl | rfl | rfl | rfl | rfl | rfl | rfl | rfl | rfl <;> decide
  have n149 : ¬ nI (stepOf s) = 149 := by
    rcases ari0 h with rfl | rfl | rfl | rfl | rfl | rfl | rfl | rfl | rfl | rfl | rfl <;> decide
  unfold k7_follow
  rw [o, some_bind, if_pos rfl, if_neg n6, if_neg n149, i, some_bind, if_pos rfl]
theorem fo_bin {w s : Nat} {a2 : Int32} {g : G} (h : ariOf s = 2) : k7_follow w (nI (stepOf s)) a2 g = (k7_pop w g).bind fun u9 => bd u9.1 fun x10 => (k7_pop w u9.2).bind fun u11 => (k7_join (nI (stepOf s)) u11.1 x10 u11.2).bind fun u12 => (k7_push w u12 u11.2).bind fun g13 => some g13 := by
  have o : k8_isOrder (nI (stepOf s)) g = some 0 := by
    unfold k8_isOrder
    rcases ari2 h with rfl | rfl | rfl | rfl | rfl | rfl | rfl | rfl | rfl | rfl | rfl | rfl | rfl <;> iterate 5 rw [if_neg (by decide)]
  have i : k7_joinsTwo (nI (stepOf s)) g = some 1 := by
    unfold k7_joinsTwo
    rcases ari2 h with rfl | rfl | rfl | rfl | rfl | rfl | rfl | rfl | rfl | rfl | rfl | rfl | rfl <;> (repeat (first | rw [if_pos (by decide)] | rw [if_neg (by decide)]))
  have n6 : ¬ nI (stepOf s) = 6 := by
    rcases ari2 h with rfl | rfl | rfl | rfl | rfl | rfl | rfl | rfl | rfl | rfl | rfl | rfl | rfl <;> decide
  have n149 : ¬ nI (stepOf s) = 149 := by
    rcases ari2 h with rfl | rfl | rfl | rfl | rfl | rfl | rfl | rfl | rfl | rfl | rfl | rfl | rfl <;> decide
  unfold k7_follow
  rw [o, some_bind, if_pos rfl, if_neg n6, if_neg n149, i, some_bind, if_neg (show ¬ (1 : Int32) = 0 by decide)]
theorem re_bin {t s : Nat} {a3 a4 : Int32} {g : G} (h : ariOf s = 2) : k11_reckon t (nI s) a3 a4 g = ld g 78 800 a3 fun x33 => ld g 78 800 a4 fun x34 => (k11_joined (nI s) x33 x34 g).bind fun u35 => some (u35, g) := by
  unfold k11_reckon
  rcases ari2 h with rfl | rfl | rfl | rfl | rfl | rfl | rfl | rfl | rfl | rfl | rfl | rfl | rfl <;> iterate 13 rw [if_neg (by decide)]
theorem node_step {w t N J b j d : Nat} {rw : Nat → Nat} {gc gm g0 : G} {st z : List Nat} (hO : wOK w t) (h : RelW w t N J rw gc gm) (hn : nodeOK g0 N b j) (hrun : stkRun g0 (d + 1) j st = some z) (hlt : ∀ a, a ∈ st → a < j) (hlen : st.length < 400) (hj : j < 800) (h4 : gc w 4 = nI st.length) (hv : sv (gc (w + 12)) (gm 78) st) : ∃ v gm1 gc' st', k7_follow w (g0 19 b) (g0 20 b) gc = some gc' ∧ k11_reckon t (g0 63 j) (g0 64 j) (g0 65 j) gm = some (v, gm1) ∧ RelW w t N J rw gc' (up gm1 78 j v) ∧ gc' w 4 = nI st'.length ∧ sv (gc' (w + 12)) (up gm1 78 j v 78) st' ∧ (∀ a, a ∈ st' → a < j + 1) ∧ st'.length ≤ st.length + 1 ∧ stkRun g0 d (j + 1) st' = some z ∧ fC w gc gc' ∧ fM t gm (up gm1 78 j v) ∧ gc' (w + 9) = gc (w + 9) := by
  obtain ⟨s, s1, s2, s3, s4, s5, s6⟩ := hn
  have hs : (g0 63 j).toNatClampNeg = s := by rw [s3, nI_clamp (by omega)]
  rw [s3, s4]
  have hcase : ariOf s = 0 ∨ ariOf s = 1 ∨ ariOf s = 2 := by omega
  unfold stkRun at hrun
  rw [hs] at hrun
  rcases hcase with a0 | a0 | a0
  · rw [a0, if_pos rfl] at hrun
    obtain ⟨v, gc1, gm1, e1, e2, h1, f1, f2, f3, f4, f5, f9⟩ := leaf2 (a2 := g0 20 b) (a3 := g0 64 j) (a4 := g0 65 j) hO a0 h s5 s6
    obtain ⟨gc', p1, p2, p3, p4, p5, p9⟩ := fin_push (v := v) (j := j) hO h1 (by rw [f2]; exact h4) (by omega) (by rw [f3, f5]; exact hv) hlt
    refine ⟨v, gm1, gc', j :: st, ?_, e2, p2, p3, p4, ?_, Nat.le_refl _, hrun, f1.trans p5, f4.trans fM.val, p9.trans f9⟩
    · rw [fo_leaf a0, e1, some_bind]
      dsimp only
      rw [p1]; rfl
    · intro a ha
      rcases List.mem_cons.mp ha with rfl | ha
      · omega
      · have := hlt a ha; omega
  · rw [a0, if_neg (by decide), if_pos rfl] at hrun
    cases st with
    | nil => cases hrun
    | cons a st =>
      dsimp only at hrun
      by_cases e : g0 64 j = nI a
      · rw [if_pos e] at hrun
        have haj := hlt a List.mem_cons_self
        obtain ⟨gc1, q1, q2, q3, q4, q5, q9⟩ := pop_1 h h4 (by omega) hv
        have hl0 : st.length + 1 < 400 := hlen
        have fin : ∀ x : Int32, k7_follow w (nI (stepOf s)) (g0 20 b) gc = ((k7_push w x gc1).bind fun g => some g) → k11_reckon t (nI s) (nI a) (g0 65 j) gm = some (x, gm) → ∃ v gm1 gc' st', k7_follow w (nI (stepOf s)) (g0 20 b) gc = some gc' ∧ k11_reckon t (nI s) (g0 64 j) (g0 65 j) gm = some (v, gm1) ∧ RelW w t N J rw gc' (up gm1 78 j v) ∧ gc' w 4 = nI st'.length ∧ sv (gc' (w + 12)) (up gm1 78 j v 78) st' ∧ (∀ a, a ∈ st' → a < j + 1) ∧ st'.length ≤ (a :: st).length + 1 ∧ stkRun g0 d (j + 1) st' = some z ∧ fC w gc gc' ∧ fM t gm (up gm1 78 j v) ∧ gc' (w + 9) = gc (w + 9) := by
          intro x x1 x2
          obtain ⟨gc', p1, p2, p3, p4, p5, p9⟩ := fin_push (v := x) (j := j) hO q2 q3 (by omega) q4 (fun c hc => hlt c (List.mem_cons_of_mem a hc))
          refine ⟨x, gm, gc', j :: st, by rw [x1, p1]; rfl, by rw [e]; exact x2, p2, p3, p4, ?_, by simp only [List.length_cons]; omega, hrun, q5.trans p5, fM.val, p9.trans q9⟩
          intro c hc
          rcases List.mem_cons.mp hc with rfl | hc
          · omega
          · have := hlt c (List.mem_cons_of_mem a hc); omega
        rcases ari1 a0 with rfl | rfl
        · refine fin (-(gm 78 a)) ?_ ?_
          · show (k7_pop w gc).bind _ = _
            rw [q1]; rfl
          · show ld gm 78 800 (nI a) (fun x => some (-x, gm)) = _
            rw [ld_n (by omega) (by omega)]
        · refine fin (1 - gm 78 a) ?_ ?_
          · show (k7_pop w gc).bind _ = _
            rw [q1]; rfl
          · show ld gm 78 800 (nI a) (fun x => some (1 - x, gm)) = _
            rw [ld_n (by omega) (by omega)]
      · rw [if_neg e] at hrun; cases hrun
  · rw [a0, if_neg (by decide), if_neg (by decide)] at hrun
    cases st with
    | nil => cases hrun
    | cons y st =>
      cases st with
      | nil => cases hrun
      | cons a st =>
        dsimp only at hrun
        by_cases e : g0 64 j = nI a ∧ g0 65 j = nI y
        · rw [if_pos e] at hrun
          have hyj := hlt y List.mem_cons_self
          have haj := hlt a (List.mem_cons_of_mem y List.mem_cons_self)
          have hl0 : st.length + 1 + 1 < 400 := hlen
          obtain ⟨gc1, q1, q2, q3, q4, q5, q9⟩ := pop_1 h h4 (by omega) hv
          obtain ⟨gc2, r1, r2, r3, r4, r5, r9⟩ := pop_1 q2 q3 (by simp only [List.length_cons]; omega) q4
          obtain ⟨x, x1, x2⟩ := join_eq a0 (gm 78 a) (gm 78 y) gc2 gm
          obtain ⟨gc', p1, p2, p3, p4, p5, p9⟩ := fin_push (v := x) (j := j) hO r2 r3 (by omega) r4 (fun c hc => hlt c (List.mem_cons_of_mem y (List.mem_cons_of_mem a hc)))
          refine ⟨x, gm, gc', j :: st, ?_, ?_, p2, p3, p4, ?_, by simp only [List.length_cons]; omega, hrun, (q5.trans r5).trans p5, fM.val, (p9.trans r9).trans q9⟩
          · rw [fo_bin a0, q1, some_bind, bd_eq]
            dsimp only
            rw [r1, some_bind]
            dsimp only
            rw [x1, some_bind, p1]; rfl
          · rw [re_bin a0, e.1, e.2, ld_n (by omega) (by omega), ld_n (by omega) (by omega), x2]; rfl
          · intro c hc
            rcases List.mem_cons.mp hc with rfl | hc
            · omega
            · have := hlt c (List.mem_cons_of_mem y (List.mem_cons_of_mem a hc)); omega
        · rw [if_neg e] at hrun; cases hrun
