/-! a whole text is taught -/
def mrI (M : List (List Int32 × Mi)) : List It := M.flatMap fun y => mirN y.1 y.2
def nmM : List Mi → Nat → List (List Int32 × Mi)
  | [], _ => []
  | x :: l, m => (109 :: dc m, x) :: nmM l (m + 1)
theorem nmM_I : ∀ (ms : List Mi) m, mrI (nmM ms m) = msI ms m := by
  intro ms
  induction ms with
  | nil => intro m; rfl
  | cons x l ih =>
    intro m
    show mirN (109 :: dc m) x ++ mrI (nmM l (m + 1)) = mirI m x ++ msI l (m + 1)
    rw [ih]; rfl
theorem nmM_2 : ∀ (ms : List Mi) m, (nmM ms m).map Prod.snd = ms := by
  intro ms
  induction ms with
  | nil => intro m; rfl
  | cons x l ih =>
    intro m
    show x :: (nmM l (m + 1)).map Prod.snd = x :: l
    rw [ih]
theorem nmM_1 : ∀ (ms : List Mi) (m i : Nat) (w : List Int32), ((nmM ms m).map Prod.fst)[i]? = some w → i < ms.length ∧ w = 109 :: dc (m + i) := by
  intro ms
  induction ms with
  | nil => intro m i w h; simp [nmM] at h
  | cons x l ih =>
    intro m i w h
    have h : ((109 :: dc m) :: (nmM l (m + 1)).map Prod.fst)[i]? = some w := h
    cases i with
    | zero =>
      have : (109 :: dc m) = w := by simpa using h
      exact ⟨Nat.succ_pos _, by rw [← this]; rfl⟩
    | succ i =>
      obtain ⟨h1, h2⟩ := ih (m + 1) i w (by simpa using h)
      exact ⟨by rw [List.length_cons]; omega, by rw [h2, show m + (i + 1) = m + 1 + i by omega]⟩
theorem nmM_at : ∀ (ms : List Mi) (m i : Nat), i < ms.length → ((nmM ms m).map Prod.fst)[i]? = some (109 :: dc (m + i)) := by
  intro ms
  induction ms with
  | nil => intro m i h; exact absurd h (Nat.not_lt_zero _)
  | cons x l ih =>
    intro m i h
    show ((109 :: dc m) :: (nmM l (m + 1)).map Prod.fst)[i]? = _
    cases i with
    | zero => rfl
    | succ i =>
      have := ih (m + 1) i (by rw [List.length_cons] at h; omega)
      rw [show m + (i + 1) = m + 1 + i by omega]
      simpa using this
theorem nmM_dn {ms : List Mi} (h : ms.length ≤ 10) : DN ((nmM ms 0).map Prod.fst) := fun i j w h1 h2 => by
  obtain ⟨a1, a2⟩ := nmM_1 ms 0 i w h1
  obtain ⟨b1, b2⟩ := nmM_1 ms 0 j w h2
  rw [a2] at b2
  have e : dc (0 + i) = dc (0 + j) := (List.cons.inj b2).2
  have v1 := dc_val (n := 0 + i) (by omega)
  have v2 := dc_val (n := 0 + j) (by omega)
  rw [e, v2] at v1
  have := nI_inj (by omega) (by omega) v1
  omega
def allN (hw hl : Option Nat) (M : List (List Int32 × Mi)) (L : List (OR4 × List It)) : List It := widthI hw ++ (limitI hl ++ (mrI M ++ L.flatMap Prod.snd))
theorem allN_I {hw hl : Option Nat} {ms : List Mi} {L : List (OR4 × List It)} : allI hw hl ms L = allN hw hl (nmM ms 0) L := by
  unfold allI allN
  rw [nmM_I]
/-- the lines -/
def lnW (hw hl : Option Nat) (M : List (List Int32 × Mi)) (L : List (OR4 × List It)) : List (List It × List SS) := (match hw with | none => [] | some W => [(numL 131 W bl, [])]) ++ ((match hl with | none => [] | some W => [(numL 132 W nl, [])]) ++ (M.map (fun y => (mirN y.1 y.2, [])) ++ L.map fun y => (y.2, oSteps y.1)))
theorem mr_fst : ∀ (M : List (List Int32 × Mi)), (M.map (fun y => (mirN y.1 y.2, ([] : List SS)))).flatMap Prod.fst = mrI M := by
  intro M
  induction M with
  | nil => rfl
  | cons y M ih =>
    show mirN y.1 y.2 ++ (M.map (fun y => (mirN y.1 y.2, ([] : List SS)))).flatMap Prod.fst = mirN y.1 y.2 ++ mrI M
    rw [ih]
theorem mr_snd : ∀ (M : List (List Int32 × Mi)), (M.map (fun y => (mirN y.1 y.2, ([] : List SS)))).flatMap Prod.snd = [] := by
  intro M
  induction M with
  | nil => rfl
  | cons y M ih =>
    show [] ++ (M.map (fun y => (mirN y.1 y.2, ([] : List SS)))).flatMap Prod.snd = []
    rw [ih]; rfl
theorem or_fst : ∀ (L : List (OR4 × List It)), (L.map (fun y => (y.2, oSteps y.1))).flatMap Prod.fst = L.flatMap Prod.snd := by
  intro L
  induction L with
  | nil => rfl
  | cons y L ih =>
    show y.2 ++ (L.map (fun y => (y.2, oSteps y.1))).flatMap Prod.fst = y.2 ++ L.flatMap Prod.snd
    rw [ih]
theorem or_snd : ∀ (L : List (OR4 × List It)), (L.map (fun y => (y.2, oSteps y.1))).flatMap Prod.snd = pSteps (L.map Prod.fst) := by
  intro L
  induction L with
  | nil => rfl
  | cons y L ih =>
    show oSteps y.1 ++ (L.map (fun y => (y.2, oSteps y.1))).flatMap Prod.snd = oSteps y.1 ++ pSteps (L.map Prod.fst)
    rw [ih]
theorem ln_fst {hw hl : Option Nat} {M : List (List Int32 × Mi)} {L : List (OR4 × List It)} : (lnW hw hl M L).flatMap Prod.fst = allN hw hl M L := by
  unfold lnW allN
  rw [List.flatMap_append, List.flatMap_append, List.flatMap_append, mr_fst, or_fst]
  cases hw <;> cases hl <;> rfl
theorem ln_snd {hw hl : Option Nat} {M : List (List Int32 × Mi)} {L : List (OR4 × List It)} : (lnW hw hl M L).flatMap Prod.snd = pSteps (L.map Prod.fst) := by
  unfold lnW
  rw [List.flatMap_append, List.flatMap_append, List.flatMap_append, mr_snd, or_snd]
  cases hw <;> cases hl <;> rfl
theorem ln_len {hw hl : Option Nat} {M : List (List Int32 × Mi)} {L : List (OR4 × List It)} : (lnW hw hl M L).length ≤ 2 + M.length + L.length := by
  unfold lnW
  rw [List.length_append, List.length_append, List.length_append, List.length_map, List.length_map]
  cases hw <;> cases hl <;> (simp only [List.length_cons, List.length_nil]; omega)
theorem ln_ok {N : Nat} {hw hl : Option Nat} {M : List (List Int32 × Mi)} {L : List (OR4 × List It)} (hP : ∀ y, y ∈ L → PO N y.1 y.2) : ∀ y, y ∈ lnW hw hl M L → LK N y := by
  intro y hy
  unfold lnW at hy
  rw [List.mem_append, List.mem_append, List.mem_append] at hy
  rcases hy with h | h | h | h
  · cases hw with
    | none => cases h
    | some W =>
      have : y = (numL 131 W bl, []) := by simpa using h
      rw [this]
      exact Or.inr ⟨rfl, Or.inr ⟨131, W, bl, Or.inl rfl, rfl, rfl⟩⟩
  · cases hl with
    | none => cases h
    | some W =>
      have : y = (numL 132 W nl, []) := by simpa using h
      rw [this]
      exact Or.inr ⟨rfl, Or.inr ⟨132, W, nl, Or.inr rfl, rfl, rfl⟩⟩
  · obtain ⟨x, -, e⟩ := List.mem_map.mp h
    rw [← e]
    exact Or.inr ⟨rfl, Or.inl ⟨x.1, x.2, rfl⟩⟩
  · obtain ⟨x, hx, e⟩ := List.mem_map.mp h
    rw [← e]
    exact Or.inl ⟨x.1, hP x hx, rfl⟩
theorem rn_ms {W : List Int32} {J : List It} {g0 : G} {no : Nat} {wd lm : Int32} : ∀ (M : List (List Int32 × Mi)) p ws cs os, AtJ J p (mrI M) → p ≤ J.length → cs.length = ws.length → os.length = ws.length → ws.length + M.length ≤ 10 → DN (ws ++ M.map Prod.fst) → (∀ y, y ∈ M → miOK y.2) → Rn W J g0 p (ws, cs, os, no, wd, lm) (p + (ns (mrI M)).length) (ws ++ M.map Prod.fst, cs ++ M.map (fun y => nI y.2.1), os ++ M.map (fun y => ofV y.2), no, wd, lm) := by
  intro M
  induction M with
  | nil =>
    intro p ws cs os hJ hp hc ho hl hd hm
    rw [List.map_nil, List.map_nil, List.map_nil, List.append_nil, List.append_nil, List.append_nil]
    exact Rn.refl
  | cons y M ih =>
    intro p ws cs os hJ hp hc ho hl hd hm
    have hJ : AtJ J p (mirN y.1 y.2 ++ mrI M) := hJ
    have hl : ws.length + (M.length + 1) ≤ 10 := hl
    have hle := hJ.l.le hp
    have a := rn_mir (W := W) (g0 := g0) (s := (ws, cs, os, no, wd, lm)) hJ.l hp (hm y (List.mem_cons_self ..)) (DN.new hd) (show ws.length < 10 by omega) hc ho
    have e1 : (ws ++ [y.1]).length = ws.length + 1 := by rw [List.length_append]; rfl
    have e2 : (cs ++ [nI y.2.1]).length = cs.length + 1 := by rw [List.length_append]; rfl
    have e3 : (os ++ [ofV y.2]).length = os.length + 1 := by rw [List.length_append]; rfl
    have b := ih (p + (ns (mirN y.1 y.2)).length) (ws ++ [y.1]) (cs ++ [nI y.2.1]) (os ++ [ofV y.2]) hJ.r hle (by omega) (by omega) (by omega) (by rw [List.append_assoc]; exact hd) (fun z hz => hm z (List.mem_cons_of_mem _ hz))
    have e4 : p + (ns (mrI (y :: M))).length = p + (ns (mirN y.1 y.2)).length + (ns (mrI M)).length := by
      show p + (ns (mirN y.1 y.2 ++ mrI M)).length = _
      rw [ns_app, List.length_append]; omega
    rw [e4]
    rw [List.append_assoc, List.append_assoc, List.append_assoc] at b
    exact a.trans b
theorem rn_os {N : Nat} {W : List Int32} {J : List It} {g0 : G} {ws : List (List Int32)} {cs os : List Int32} {wd lm : Int32} (hN : N ≤ 10) (hw : ∀ n, n < N → ws[n]? = some (109 :: dc n)) (hd : DN ws) : ∀ (L : List (OR4 × List It)) p no, AtJ J p (L.flatMap Prod.snd) → p ≤ J.length → no + L.length ≤ 16 → (∀ y, y ∈ L → PO N y.1 y.2) → Rn W J g0 p (ws, cs, os, no, wd, lm) (p + (ns (L.flatMap Prod.snd)).length) (ws, cs, os, no + L.length, wd, lm) := by
  intro L
  induction L with
  | nil => intro p no hJ hp hl hP; exact Rn.refl
  | cons y L ih =>
    intro p no hJ hp hl hP
    have hJ : AtJ J p (y.2 ++ L.flatMap Prod.snd) := hJ
    have hl : no + (L.length + 1) ≤ 16 := hl
    have hle := hJ.l.le hp
    have a := rn_order (W := W) (g0 := g0) (s := (ws, cs, os, no, wd, lm)) (hP y (List.mem_cons_self ..)) hN hJ.l hp (show no < 16 by omega) hw hd
    have b := ih (p + (ns y.2).length) (no + 1) hJ.r hle (by omega) (fun z hz => hP z (List.mem_cons_of_mem _ hz))
    have e4 : p + (ns ((y :: L).flatMap Prod.snd)).length = p + (ns y.2).length + (ns (L.flatMap Prod.snd)).length := by
      show p + (ns (y.2 ++ L.flatMap Prod.snd)).length = _
      rw [ns_app, List.length_append]; omega
    rw [e4, show no + (y :: L).length = no + 1 + L.length by rw [List.length_cons]; omega]
    exact a.trans b
theorem mist_ok {N : Nat} {W : List Int32} {hw hl : Option Nat} {M : List (List Int32 × Mi)} {L : List (OR4 × List It)} {g : G} (hN : N ≤ 10) (hB : BF W (ns (allN hw hl M L)) g) (hv : V0 (ns (allN hw hl M L)) 0 g) (h4 : g 8 4 = 0) (h5 : g 8 5 = 0) (h6 : g 8 6 = 60) (h7 : g 8 7 = 1000) (hM : M.length ≤ 10) (hd : DN (M.map Prod.fst)) (hm : ∀ y, y ∈ M → miOK y.2) (hL : L.length ≤ 16) (hP : ∀ y, y ∈ L → PO N y.1 y.2) (hn : ∀ n, n < N → (M.map Prod.fst)[n]? = some (109 :: dc n)) (hW : ∀ V, hw = some V → V ≤ 180) (hl2 : ∀ V, hl = some V → big V 10000) : ∃ g', k1_firstMistake g = some (-1, g') ∧ MT W (ns (allN hw hl M L)) g ((ns (allN hw hl M L)).length + 1) (M.map Prod.fst, M.map (fun y => nI y.2.1), M.map (fun y => ofV y.2), L.length, Wv hw, lv hl) g' := by
  obtain ⟨J, hJ⟩ : ∃ J, J = ns (allN hw hl M L) := ⟨_, rfl⟩
  rw [← hJ] at hB hv ⊢
  have hJ4 := hB.2.2.1
  have hA : AtJ J 0 (widthI hw ++ (limitI hl ++ (mrI M ++ L.flatMap Prod.snd))) := fun i x hx => by rw [Nat.zero_add, hJ]; exact hx
  have eJ : J.length = (ns (widthI hw)).length + ((ns (limitI hl)).length + ((ns (mrI M)).length + (ns (L.flatMap Prod.snd)).length)) := by
    rw [hJ]
    unfold allN
    rw [ns_app, ns_app, ns_app, List.length_append, List.length_append, List.length_append]
  have m0 : MT W J g 0 ([], [], [], 0, 60, 1000) g := ⟨hB, hv, ⟨fun _ _ _ _ _ _ _ => rfl, rfl⟩, ⟨Nat.zero_le _, h4, fun i w h => by (have h : ([] : List (List Int32))[i]? = some w := h); simp at h⟩, (fun i v h => by (have h : ([] : List Int32)[i]? = some v := h); simp at h), (fun i v h => by (have h : ([] : List Int32)[i]? = some v := h); simp at h), h5, h6, h7⟩
  have a1 : Rn W J g 0 ([], [], [], 0, 60, 1000) (0 + (ns (widthI hw)).length) ([], [], [], 0, Wv hw, 1000) := by
    cases hw with
    | none => exact Rn.refl
    | some V => exact rn_num (Or.inl rfl) rfl hA.l (Nat.zero_le _) (fun q1 k0 => by
        have := lt_of_at q1
        exact es_wid (by omega) k0 q1 (hW V rfl))
  have a2 : Rn W J g (0 + (ns (widthI hw)).length) ([], [], [], 0, Wv hw, 1000) (0 + (ns (widthI hw)).length + (ns (limitI hl)).length) ([], [], [], 0, Wv hw, lv hl) := by
    cases hl with
    | none => exact Rn.refl
    | some V => exact rn_num (b := nl) (Or.inr rfl) rfl hA.r.l (by omega) (fun q1 k0 => by
        have := lt_of_at q1
        exact es_lim (by omega) k0 q1 (hl2 V rfl))
  have a3 := rn_ms (W := W) (J := J) (g0 := g) (no := 0) (wd := Wv hw) (lm := lv hl) M _ [] [] [] hA.r.r.l (by omega) rfl rfl (by show 0 + M.length ≤ 10; omega) hd hm
  have a4 := rn_os (W := W) (J := J) (g0 := g) (cs := M.map (fun y => nI y.2.1)) (os := M.map (fun y => ofV y.2)) (wd := Wv hw) (lm := lv hl) hN hn hd L _ 0 hA.r.r.r (by omega) (by omega) hP
  rw [Nat.zero_add L.length] at a4
  have a5 := ((a1.trans a2).trans a3).trans a4
  rw [show 0 + (ns (widthI hw)).length + (ns (limitI hl)).length + (ns (mrI M)).length + (ns (L.flatMap Prod.snd)).length = J.length by omega] at a5
  have k0 : kdJ J J.length = 0 := by
    unfold kdJ
    rw [List.getElem?_eq_none (Nat.le_refl _)]
  have a6 := a5.trans (Rn.one (es_plain (Nat.le_refl _) (by omega) (by omega) (by omega)) (Nat.le_refl _))
  obtain ⟨g', r1, r2⟩ := a6.2 g m0
  refine ⟨g', ?_, r1⟩
  obtain ⟨f, hf⟩ : ∃ f, FU = (f + 1) + (J.length + 1 - 0) := ⟨100000 - J.length - 2, by show 100000 = _; omega⟩
  have e := r2 (f + 1)
  unfold k1_firstMistake
  rw [hf]
  show k1_firstMistake_2 _ (nI 0) g = _
  rw [e]
  conv => lhs; unfold k1_firstMistake_2
  rw [r1.1.2.1, if_pos ((nI_leI (by omega) (by omega)).mpr (Nat.le_refl _))]
