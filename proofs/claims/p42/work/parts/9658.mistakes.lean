/-! lines, word by word: no mistake -/
def DN (ws : List (List Int32)) : Prop := ∀ (i j : Nat) (w : List Int32), ws[i]? = some w → ws[j]? = some w → i = j
theorem DN.l {a b : List (List Int32)} (h : DN (a ++ b)) : DN a := fun i j w h1 h2 => h i j w (by rw [List.getElem?_append_left (List.getElem?_eq_some_iff.mp h1).1]; exact h1) (by rw [List.getElem?_append_left (List.getElem?_eq_some_iff.mp h2).1]; exact h2)
theorem DN.new {a b : List (List Int32)} {w : List Int32} (h : DN (a ++ w :: b)) : w ∉ a := fun hm => by
  obtain ⟨i, hi⟩ := List.mem_iff_getElem?.mp hm
  have hl := (List.getElem?_eq_some_iff.mp hi).1
  have := h i a.length w (by rw [List.getElem?_append_left hl]; exact hi) (by rw [List.getElem?_append_right (Nat.le_refl _), Nat.sub_self]; rfl)
  omega
theorem DN.take {a : List (List Int32)} {w : List Int32} {n : Nat} (h : DN a) (hn : a[n]? = some w) : w ∉ a.take n := fun hm => by
  obtain ⟨i, hi⟩ := List.mem_iff_getElem?.mp hm
  have hl := (List.getElem?_eq_some_iff.mp hi).1
  rw [List.length_take] at hl
  have : a[i]? = some w := by
    rw [List.getElem?_take_of_lt (by omega)] at hi
    exact hi
  have := h i n w this hn
  omega
theorem rn_order {N p : Nat} {W : List Int32} {J : List It} {g0 : G} {s : Ab} {o : OR4} {i : List It} (h : PO N o i) (hN : N ≤ 10) (hJ : AtJ J p i) (hp : p ≤ J.length) (hs : s.no < 16) (hw : ∀ n, n < N → s.ws[n]? = some (109 :: dc n)) (hd : DN s.ws) : Rn W J g0 p s (p + (ns i).length) (s.ws, s.cs, s.os, s.no + 1, s.wd, s.lm) := by
  obtain ⟨ho, hn, i1, i2, h1, h2, rfl⟩ := h
  have hle := hJ.le hp
  have hds : doStep o.1 = 133 ∨ doStep o.1 = 135 ∨ doStep o.1 = 136 ∨ doStep o.1 = 137 ∨ doStep o.1 = 138 := by
    unfold doStep
    rcases (show o.1 = 0 ∨ o.1 = 1 ∨ o.1 = 2 ∨ o.1 = 3 ∨ o.1 = 4 by omega) with e | e | e | e | e <;> (rw [e]; decide)
  obtain ⟨I', hI⟩ : ∃ I', I' = [bl, nmI o.2.1] ++ ((if o.1 < 3 then [] else [bl, tok 134, bl] ++ i1) ++ ((if o.2.2.2 = [] then [] else [bl, tok 139, bl] ++ i2) ++ [tok 59])) := ⟨_, rfl⟩
  have e0 : ordI o i1 i2 = tok (doStep o.1) :: I' := by rw [hI]; rfl
  have r : RI N I' := by
    rw [hI]
    refine RI.app ⟨rfl, okWd_nm hn, trivial⟩ (RI.app ?_ (RI.app ?_ ⟨rfl, okWd_tok (k := 59) rfl, trivial⟩))
    · rcases h1 with ⟨z, -⟩ | ⟨z, hP⟩
      · rw [if_pos z]; exact ⟨rfl, trivial⟩
      · rw [if_neg (by omega)]; exact RI.app ⟨rfl, okWd_tok (k := 134) rfl, trivial⟩ (hP.ri hN _ _ _ _)
    · rcases h2 with z | ⟨z, hP⟩
      · rw [if_pos z]; exact ⟨rfl, trivial⟩
      · rw [if_neg z]; exact RI.app ⟨rfl, okWd_tok (k := 139) rfl, trivial⟩ (hP.ri hN _ _ _ _)
  rw [e0] at hJ hle ⊢
  have hne : doStep o.1 ≠ 1000 := by omega
  rw [ns_tok hne, List.length_cons] at hle ⊢
  have q0 : J[p]? = some (tok (doStep o.1)) := hJ.hd (by rw [tok_1]; exact hne)
  have k0 : kdJ J p = doStep o.1 := by rw [kdJ_of q0, tok_1]
  have hT : ∀ i x, (tok (doStep o.1) :: ns I')[i]? = some x → J[p + i]? = some x := fun i x hx => hJ i x (by rw [ns_tok hne]; exact hx)
  have hA : okAb (tok (doStep o.1) :: ns I') = true := by
    show ((!(decide (128 ≤ (tok (doStep o.1)).1) && decide ((tok (doStep o.1)).1 ≤ 132)) || hd146 (ns I')) && okAb (ns I')) = true
    rw [r.1, tok_1]
    rcases hds with e | e | e | e | e <;> (rw [e]; rfl)
  have st := Rn.one (W := W) (g0 := g0) (es_order hp (by rw [k0]; exact hds) hs) hp
  rw [show p + ((ns I').length + 1) = p + 1 + (ns I').length by omega]
  refine st.trans (Rn.seg _ _ (by omega) (fun q hq1 hq2 => ?_))
  obtain ⟨j, rfl⟩ : ∃ j, q = p + j + 1 := ⟨q - p - 1, by omega⟩
  have hj : j < (ns I').length := by omega
  have hx : (ns I')[j]? = some (ns I')[j] := List.getElem?_eq_getElem hj
  obtain ⟨x, ex⟩ : ∃ x, x = (ns I')[j] := ⟨_, rfl⟩
  rw [← ex] at hx
  have hx2 : J[p + j + 1]? = some x := hT (j + 1) x hx
  have hk : kdJ J (p + j + 1) = x.1 := kdJ_of hx2
  obtain ⟨c2, c3, c4⟩ := okLs_at _ j x r.2 hx
  obtain ⟨y, ey⟩ : ∃ y, (tok (doStep o.1) :: ns I')[j]? = some y := ⟨_, List.getElem?_eq_getElem (by rw [List.length_cons]; omega)⟩
  have hy : kdJ J (p + j) = y.1 := kdJ_of (hT j y ey)
  -- the word before is none that numbers and names look at
  have hpre : x.1 ≠ 146 → ¬ (128 ≤ y.1 ∧ y.1 ≤ 132) := fun hx6 hr => by
    obtain ⟨z, z1, z2⟩ := okAb_at _ j y hA ey hr.1 hr.2
    have : (ns I')[j]? = some z := z1
    rw [hx] at this
    cases this
    exact hx6 z2
  by_cases d2 : x.1 = 2
  · obtain ⟨n, n1, n2⟩ := c2 d2
    have := hpre (by omega)
    rw [n2] at hx2
    exact es_name (by omega) (by omega) hx2 (hw n n1) (hd.take (hw n n1))
  · by_cases d3 : x.1 = 3
    · obtain ⟨n, n1, n2⟩ := c3 d3
      have := hpre (by omega)
      rw [n2] at hx2
      refine es_num (by omega) hx2 n1 (by omega) (fun h45 => ?_)
      cases j with
      | zero =>
        have : y = tok (doStep o.1) := by simpa using ey.symm
        rw [hy, this, tok_1] at h45
        exfalso
        rcases hds with e | e | e | e | e <;> (rw [e] at h45; cases h45)
      | succ j =>
        refine ⟨p + j, rfl, fun h130 => ?_⟩
        obtain ⟨u, eu⟩ : ∃ u, (tok (doStep o.1) :: ns I')[j]? = some u := ⟨_, List.getElem?_eq_getElem (by rw [List.length_cons]; omega)⟩
        have hu : kdJ J (p + j) = u.1 := kdJ_of (hT j u eu)
        obtain ⟨z, z1, z2⟩ := okAb_at _ j u hA eu (by omega) (by omega)
        rw [ey] at z1
        cases z1
        have : kdJ J (p + (j + 1)) = 45 := h45
        omega
    · refine es_plain (by omega) (by omega) (by omega) ?_
      rw [hk]
      unfold noOr at c4
      refine ⟨fun e => ?_, fun e => ?_, fun e => ?_, fun e => ?_, fun e => ?_⟩ <;> (rw [e] at c4; cases c4)
theorem rn_num {k n p : Nat} {b : It} {W : List Int32} {J : List It} {g0 : G} {s s' : Ab} (hk : k = 131 ∨ k = 132) (hb : b.1 = 1000) (hJ : AtJ J p (numL k n b)) (hp : p ≤ J.length) (he : J[p + 1]? = some (numI n) → kdJ J p = k → ES W J g0 (p + 1) s s') : Rn W J g0 p s (p + (ns (numL k n b)).length) s' := by
  have hk1 : (tok k).1 ≠ 1000 := by rw [tok_1]; omega
  have q0 : J[p]? = some (tok k) := AtJ.hd hJ hk1
  have j1 := AtJ.bl (AtJ.tl hJ hk1) rfl
  have q1 : J[p + 1]? = some (numI n) := j1.hd (show (3 : Nat) ≠ 1000 by decide)
  have j2 := j1.tl (show (3 : Nat) ≠ 1000 by decide)
  have q2 : J[p + 1 + 1]? = some (tok 59) := j2.hd (show (59 : Nat) ≠ 1000 by decide)
  have l2 := lt_of_at q2
  have k0 : kdJ J p = k := by rw [kdJ_of q0, tok_1]
  have k2 : kdJ J (p + 1 + 1) = 59 := kdJ_of q2
  have el : p + (ns (numL k n b)).length = p + 1 + 1 + 1 := by
    have : ns (numL k n b) = [tok k, numI n, tok 59] := by
      unfold numL
      rw [ns_tok (by omega)]
      have : ns [b] = [] := by
        unfold ns
        rw [List.filter_cons_of_neg (by simpa using hb)]
        rfl
      have e : ns (bl :: numI n :: tok 59 :: [b]) = numI n :: tok 59 :: ns [b] := rfl
      rw [e, this]
    rw [this]
    rfl
  rw [el]
  exact ((Rn.one (es_plain (by omega) (by omega) (by omega) (by omega)) (by omega)).trans (Rn.one (he q1 k0) (by omega))).trans (Rn.one (es_plain (by omega) (by omega) (by omega) (by omega)) (by omega))
theorem rn_mir {p : Nat} {w : List Int32} {x : Mi} {W : List Int32} {J : List It} {g0 : G} {s : Ab} (hJ : AtJ J p (mirN w x)) (hp : p ≤ J.length) (hx : miOK x) (hw : w ∉ s.ws) (h10 : s.ws.length < 10) (hc : s.cs.length = s.ws.length) (ho : s.os.length = s.ws.length) : Rn W J g0 p s (p + (ns (mirN w x)).length) (s.ws ++ [w], s.cs ++ [nI x.1], s.os ++ [ofV x], s.no, s.wd, s.lm) := by
  have j0 : AtJ J p (tok 128 :: bl :: (2, w) :: bl :: tok 129 :: bl :: numI x.1 :: bl :: tok 130 :: bl :: ((if x.2.1 = true then [tok 45] else []) ++ [numI x.2.2, tok 59])) := hJ
  have q0 : J[p]? = some (tok 128) := j0.hd (show (128 : Nat) ≠ 1000 by decide)
  have j1 := (j0.tl (show (128 : Nat) ≠ 1000 by decide)).bl rfl
  have q1 : J[p + 1]? = some (2, w) := j1.hd (show (2 : Nat) ≠ 1000 by decide)
  have j2 := (j1.tl (show (2 : Nat) ≠ 1000 by decide)).bl rfl
  have q2 : J[p + 1 + 1]? = some (tok 129) := j2.hd (show (129 : Nat) ≠ 1000 by decide)
  have j3 := (j2.tl (show (129 : Nat) ≠ 1000 by decide)).bl rfl
  have q3 : J[p + 1 + 1 + 1]? = some (numI x.1) := j3.hd (show (3 : Nat) ≠ 1000 by decide)
  have j4 := (j3.tl (show (3 : Nat) ≠ 1000 by decide)).bl rfl
  have q4 : J[p + 1 + 1 + 1 + 1]? = some (tok 130) := j4.hd (show (130 : Nat) ≠ 1000 by decide)
  have j5 := (j4.tl (show (130 : Nat) ≠ 1000 by decide)).bl rfl
  have l4 := lt_of_at q4
  have k0 : kdJ J p = 128 := kdJ_of q0
  have k2 : kdJ J (p + 1 + 1) = 129 := kdJ_of q2
  have k4 : kdJ J (p + 1 + 1 + 1 + 1) = 130 := kdJ_of q4
  have hlen : (s.ws ++ [w]).length = s.ws.length + 1 := by rw [List.length_append]; rfl
  obtain ⟨hx1, hx2⟩ := hx
  have a : Rn W J g0 p s (p + 1 + 1 + 1 + 1 + 1) (s.ws ++ [w], s.cs ++ [nI x.1], s.os, s.no, s.wd, s.lm) :=
    ((((Rn.one (es_plain (by omega) (by omega) (by omega) (by omega)) (by omega)).trans (Rn.one (es_new (by omega) k0 q1 hw h10) (by omega))).trans (Rn.one (es_plain (by omega) (by omega) (by omega) (by omega)) (by omega))).trans (Rn.one (es_clar (by omega) k2 q3 hx1 (show s.cs.length + 1 = (s.ws ++ [w]).length by omega)) (by omega))).trans (Rn.one (es_plain (by omega) (by omega) (by omega) (by omega)) (by omega))
  have hoff : s.os.length + 1 = (s.ws ++ [w]).length := by omega
  cases hb : x.2.1 with
  | true =>
    rw [hb] at j5
    have j5 : AtJ J (p + 1 + 1 + 1 + 1 + 1) [tok 45, numI x.2.2, tok 59] := j5
    have q5 : J[p + 1 + 1 + 1 + 1 + 1]? = some (tok 45) := j5.hd (show (45 : Nat) ≠ 1000 by decide)
    have j6 := j5.tl (show (45 : Nat) ≠ 1000 by decide)
    have q6 : J[p + 1 + 1 + 1 + 1 + 1 + 1]? = some (numI x.2.2) := j6.hd (show (3 : Nat) ≠ 1000 by decide)
    have j7 := j6.tl (show (3 : Nat) ≠ 1000 by decide)
    have q7 : J[p + 1 + 1 + 1 + 1 + 1 + 1 + 1]? = some (tok 59) := j7.hd (show (59 : Nat) ≠ 1000 by decide)
    have l7 := lt_of_at q7
    have k5 : kdJ J (p + 1 + 1 + 1 + 1 + 1) = 45 := kdJ_of q5
    have k7 : kdJ J (p + 1 + 1 + 1 + 1 + 1 + 1 + 1) = 59 := kdJ_of q7
    have el : p + (ns (mirN w x)).length = p + 1 + 1 + 1 + 1 + 1 + 1 + 1 + 1 := by
      unfold mirN
      rw [hb]
      rfl
    have ev : ofV x = -(nI x.2.2) := if_pos hb
    rw [el, ev]
    exact ((a.trans (Rn.one (es_plain (by omega) (by omega) (by omega) (by omega)) (by omega))).trans (Rn.one (es_neg (by omega) k4 k5 q6 hx2 hoff) (by omega))).trans (Rn.one (es_plain (by omega) (by omega) (by omega) (by omega)) (by omega))
  | false =>
    rw [hb] at j5
    have j6 : AtJ J (p + 1 + 1 + 1 + 1 + 1) [numI x.2.2, tok 59] := j5
    have q6 : J[p + 1 + 1 + 1 + 1 + 1]? = some (numI x.2.2) := j6.hd (show (3 : Nat) ≠ 1000 by decide)
    have j7 := j6.tl (show (3 : Nat) ≠ 1000 by decide)
    have q7 : J[p + 1 + 1 + 1 + 1 + 1 + 1]? = some (tok 59) := j7.hd (show (59 : Nat) ≠ 1000 by decide)
    have l7 := lt_of_at q7
    have k7 : kdJ J (p + 1 + 1 + 1 + 1 + 1 + 1) = 59 := kdJ_of q7
    have el : p + (ns (mirN w x)).length = p + 1 + 1 + 1 + 1 + 1 + 1 + 1 := by
      unfold mirN
      rw [hb]
      rfl
    have ev : ofV x = nI x.2.2 := if_neg (by rw [hb]; decide)
    rw [el, ev]
    exact (a.trans (Rn.one (es_off (by omega) k4 q6 hx2 hoff) (by omega))).trans (Rn.one (es_plain (by omega) (by omega) (by omega) (by omega)) (by omega))
