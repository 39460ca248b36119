/-! all lines of a text: read to the end -/
def numL (k W : Nat) (b : It) : List It := [tok k, bl, numI W, tok 59, b]
theorem gnum_ok {k W p : Nat} {b : It} {J : List It} {D : List DS} {g : G} (hk : k = 131 ∨ k = 132) (hb : b.1 = 1000) (hS : GS J p D g) (hJ : AtJ J p (numL k W b)) (hp : p ≤ J.length) : LN J p (p + (ns (numL k W b)).length) D [] g := by
  have hk1 : (tok k).1 ≠ 1000 := by rw [tok_1]; omega
  have q0 : J[p]? = some (tok k) := AtJ.hd hJ hk1
  have j1 := AtJ.bl (AtJ.tl hJ hk1) rfl
  have q1 : J[p + 1]? = some (numI W) := j1.hd (show (3 : Nat) ≠ 1000 by decide)
  have j2 := j1.tl (show (3 : Nat) ≠ 1000 by decide)
  have q2 : J[p + 1 + 1]? = some (tok 59) := j2.hd (show (59 : Nat) ≠ 1000 by decide)
  have l2 := lt_of_at q2
  have k0 : kdJ J p = k := by rw [kdJ_of q0, tok_1]
  have el : p + (ns (numL k W b)).length = p + 1 + 1 + 1 := by
    have : ns (numL k W b) = [tok k, numI W, tok 59] := by
      unfold numL
      rw [ns_tok (by omega)]
      have : ns [b] = [] := by
        unfold ns
        rw [List.filter_cons_of_neg (by simpa using hb)]
        rfl
      have e : ns (bl :: numI W :: tok 59 :: [b]) = numI W :: tok 59 :: ns [b] := rfl
      rw [e, this]
    rw [this]
    rfl
  obtain ⟨g1, a1, a2, a3⟩ := take_yes (k := k) hS hp k0
  obtain ⟨g2, b1, b2, b3⟩ := take_yes (k := 3) a2 (by omega) (kdJ_of q1)
  obtain ⟨g3, c1, c2, c3⟩ := take_yes (k := 59) b2 (by omega) (kdJ_of q2)
  have b1 : k0_take 3 g1 = some (1, g2) := b1
  have e128 : k0_take 128 g = some (0, g) := take_no (k := 128) hS hp (by rw [k0]; omega) (by decide)
  rw [el]
  refine ⟨g2, g3, [], ?_, c1, by rw [List.append_nil]; exact c2, rfl, (a3.trans b3).trans c3, by omega, by omega⟩
  unfold k0_line k0_line_35
  rw [e128, some_bind, if_pos rfl]
  dsimp only
  rcases hk with rfl | rfl
  · have a1 : k0_take 131 g = some (1, g1) := a1
    rw [a1, some_bind, if_neg (show ¬ (1 : Int32) = 0 by decide), b1, some_bind, zr_1]
  · have a1 : k0_take 132 g = some (1, g1) := a1
    have e131 : k0_take 131 g = some (0, g) := take_no (k := 131) hS hp (by rw [k0]; omega) (by decide)
    rw [e131, some_bind, if_pos rfl]
    dsimp only
    rw [a1, some_bind, if_neg (show ¬ (1 : Int32) = 0 by decide), b1, some_bind, zr_1]
/-- a line: its words, its steps -/
def LK (N : Nat) (y : List It × List SS) : Prop := (∃ o, PO N o y.1 ∧ y.2 = oSteps o) ∨ (y.2 = [] ∧ ((∃ w x, y.1 = mirN w x) ∨ ∃ k W b, (k = 131 ∨ k = 132) ∧ b.1 = 1000 ∧ y.1 = numL k W b))
theorem LK.ok {N p : Nat} {y : List It × List SS} {J : List It} {D : List DS} {g : G} (h : LK N y) (hN : N ≤ 10) (hS : GS J p D g) (hJ : AtJ J p y.1) (hp : p ≤ J.length) (hl : D.length + y.2.length ≤ 400) : LN J p (p + (ns y.1).length) D y.2 g := by
  obtain ⟨i, l⟩ := y
  rcases h with ⟨o, h1, h2⟩ | ⟨h2, ⟨w, x, h1⟩ | ⟨k, W, b, hk, hb, h1⟩⟩
  · have h2 : l = oSteps o := h2
    subst h2
    exact gorder_ok h1 hN hS hJ hp hl
  · have h2 : l = [] := h2
    have h1 : i = mirN w x := h1
    subst h1; subst h2
    exact gmir_ok hS hJ hp
  · have h2 : l = [] := h2
    have h1 : i = numL k W b := h1
    subst h1; subst h2
    exact gnum_ok hk hb hS hJ hp
theorem lines_ok {N : Nat} {J : List It} (hN : N ≤ 10) : ∀ (M : List (List It × List SS)) f v p D g, M.length < f → v + M.length < 400 → (∀ y, y ∈ M → LK N y) → GS J p D g → AtJ J p (M.flatMap Prod.fst) → p + (ns (M.flatMap Prod.fst)).length = J.length → D.length + (M.flatMap Prod.snd).length ≤ 400 → ∃ g' D', k0_firstMisfit_14 f (nI v) g = some (-1, g') ∧ GS J J.length (D ++ D') g' ∧ D'.map (stJ J) = M.flatMap Prod.snd ∧ fG g g' := by
  intro M
  induction M with
  | nil =>
    intro f v p D g hf hv hM hS hJ hp hl
    obtain ⟨f, rfl⟩ : ∃ z, f = z + 1 := ⟨f - 1, by omega⟩
    have hp : p = J.length := hp
    have hk : kdJ J p = 0 := by
      unfold kdJ
      rw [hp, List.getElem?_eq_none (Nat.le_refl _)]
    have e0 : k0_isNext 0 g = some 1 := next_yes (k := 0) hS (by omega) hk
    have hv : v + 0 < 400 := hv
    rw [hp] at hS
    refine ⟨g, [], ?_, by rw [List.append_nil]; exact hS, rfl, fG.refl⟩
    unfold k0_firstMisfit_14 k0_firstMisfit_56
    rw [if_neg (by rw [show (400 : Int32) = nI 400 from rfl, nI_leI (by omega) (by omega)]; omega), e0, some_bind, if_neg (by decide), some_bind, if_neg (by decide)]
  | cons y M ih =>
    intro f v p D g hf hv hM hS hJ hp hl
    obtain ⟨f, rfl⟩ : ∃ z, f = z + 1 := ⟨f - 1, by omega⟩
    have hv : v + (M.length + 1) < 400 := hv
    have hf : M.length + 1 < f + 1 := hf
    have hJ : AtJ J p (y.1 ++ M.flatMap Prod.fst) := hJ
    have hp : p + (ns (y.1 ++ M.flatMap Prod.fst)).length = J.length := hp
    rw [ns_app, List.length_append] at hp
    have hl : D.length + (y.2 ++ M.flatMap Prod.snd).length ≤ 400 := hl
    rw [List.length_append] at hl
    obtain ⟨g1, g2, l', e1, e2, e3, e4, e5, e6, e7⟩ := (hM y (List.mem_cons_self ..)).ok hN hS hJ.l (by omega) (by omega)
    have h4 : l'.length = y.2.length := by rw [← e4, List.length_map]
    obtain ⟨g3, D', r1, r2, r3, r4⟩ := ih f (v + 1) _ (D ++ l') g2 (by omega) (by omega) (fun z hz => hM z (List.mem_cons_of_mem _ hz)) e3 hJ.r (by omega) (by rw [List.length_append]; omega)
    refine ⟨g3, l' ++ D', ?_, by rw [← List.append_assoc]; exact r2, ?_, e5.trans r4⟩
    · have e0 : k0_isNext 0 g = some 0 := next_no (k := 0) hS (by omega) e7 (by decide)
      unfold k0_firstMisfit_14
      rw [if_neg (by rw [show (400 : Int32) = nI 400 from rfl, nI_leI (by omega) (by omega)]; omega), e0, some_bind, if_pos rfl, e1, some_bind, if_neg (show ¬ (1 : Int32) = 0 by decide)]
      rw [e2, some_bind, if_neg (show ¬ (1 : Int32) = 0 by decide), bd_eq, nI_1]
      exact r1
    · show _ = y.2 ++ M.flatMap Prod.snd
      rw [List.map_append, e4, r3]
/-! what the class holds of the words it has read -/
def BF (W : List Int32) (J : List It) (g : G) : Prop := TP W g ∧ g 3 5 = nI (J.length + 1) ∧ J.length ≤ 400 ∧ g 4 J.length = 0 ∧ ∀ i x, J[i]? = some x → x.1 < 1000 ∧ g 4 i = nI x.1 ∧ (∃ q, g 5 i = nI q ∧ q + x.2.length ≤ W.length ∧ AtW W q x.2) ∧ g 6 i = nI x.2.length
def V0 (J : List It) (k : Nat) (g : G) : Prop := (∀ i x, J[i]? = some x → (i < k → g 7 i = valJ J i) ∧ (k ≤ i → g 7 i = vI x)) ∧ g 7 J.length = 0
theorem BF.fr {W : List Int32} {J : List It} {g g' : G} (h : BF W J g) (hf : ∀ a, 1 ≤ a → a ≤ 6 → g' a = g a) : BF W J g' := by
  obtain ⟨⟨t1, t2, t3, t4⟩, h2, h3, h4, h5⟩ := h
  refine ⟨⟨by rw [hf 1 (by omega) (by omega)]; exact t1, t2, t3, fun j hj => by rw [hf 2 (by omega) (by omega)]; exact t4 j hj⟩, by rw [hf 3 (by omega) (by omega)]; exact h2, h3, by rw [hf 4 (by omega) (by omega)]; exact h4, fun i x hi => ?_⟩
  rw [hf 4 (by omega) (by omega), hf 5 (by omega) (by omega), hf 6 (by omega) (by omega)]
  exact h5 i x hi
theorem misfit_ok {N : Nat} {W : List Int32} {J : List It} {g : G} {M : List (List It × List SS)} (hN : N ≤ 10) (h : BF W J g) (hM : ∀ y, y ∈ M → LK N y) (hJ : J = ns (M.flatMap Prod.fst)) (hm : M.length < 400) (hl : (M.flatMap Prod.snd).length ≤ 400) : ∃ g' D, k0_firstMisfit g = some (-1, g') ∧ GS J J.length D g' ∧ D.map (stJ J) = M.flatMap Prod.snd ∧ (∀ a, a ≠ 8 → a ≠ 11 → a ≠ 12 → a ≠ 13 → g' a = g a) ∧ g' 8 4 = 0 ∧ g' 8 5 = 0 ∧ g' 8 6 = 60 ∧ g' 8 7 = 1000 := by
  obtain ⟨⟨t1, t2, t3, t4⟩, h2, h3, h4, h5⟩ := h
  obtain ⟨gc, hgc⟩ : ∃ z, z = up (up (up (up (up g 8 4 0) 8 5 0) 8 6 60) 8 7 1000) 8 8 0 := ⟨_, rfl⟩
  have hf : ∀ a, a ≠ 8 → gc a = g a := fun a ha => by rw [hgc, up_ne ha, up_ne ha, up_ne ha, up_ne ha, up_ne ha]
  have hf2 : ∀ a, a ≠ 8 → a ≠ 13 → (up gc 13 2 0) a = g a := fun a ha hb => by rw [up_ne hb, hf a ha]
  have c4 : (up gc 13 2 0) 8 4 = 0 := by
    rw [up_other (by decide), hgc, up_slot' (by decide), up_slot' (by decide), up_slot' (by decide), up_slot' (by decide)]
    exact up_self
  have c5 : (up gc 13 2 0) 8 5 = 0 := by
    rw [up_other (by decide), hgc, up_slot' (by decide), up_slot' (by decide), up_slot' (by decide)]
    exact up_self
  have c6 : (up gc 13 2 0) 8 6 = 60 := by
    rw [up_other (by decide), hgc, up_slot' (by decide), up_slot' (by decide)]
    exact up_self
  have c7 : (up gc 13 2 0) 8 7 = 1000 := by
    rw [up_other (by decide), hgc, up_slot' (by decide)]
    exact up_self
  have c8 : (up gc 13 2 0) 8 8 = nI 0 := by
    rw [up_other (by decide), hgc]
    exact up_self
  have hS : GS J 0 [] (up gc 13 2 0) := ⟨by rw [hf2 3 (by decide) (by decide)]; exact h2, h3, fun i x hi => by rw [hf2 4 (by decide) (by decide)]; exact ⟨(h5 i x hi).2.1, (h5 i x hi).1⟩, by rw [hf2 4 (by decide) (by decide)]; exact h4, up_self, c8, Nat.zero_le _, fun j q hq => by simp at hq⟩
  obtain ⟨g', D, r1, r2, r3, r4⟩ := lines_ok hN M FU 0 0 [] _ (show M.length < 100000 by omega) (by omega) hM hS (fun i x hi => by rw [hJ, Nat.zero_add]; exact hi) (by rw [hJ, Nat.zero_add]) (by show 0 + _ ≤ 400; omega)
  refine ⟨g', D, ?_, r2, r3, fun a h8 h11 h12 h13 => (r4.1 a h8 h11 h12 h13).trans (hf2 a h8 h13), (r4.2 4 (by decide)).trans c4, (r4.2 5 (by decide)).trans c5, (r4.2 6 (by decide)).trans c6, (r4.2 7 (by decide)).trans c7⟩
  unfold k0_firstMisfit k2_clear
  rw [bd_eq, bd_eq, bd_eq, bd_eq, bd_eq, some_bind, bd_eq, ← hgc]
  exact r1
