/-! the whole tape is read -/
theorem bAt_app {A R : List Int32} {i : Nat} : bAt (A ++ R) (A.length + i) = R.getD i (-1) := by
  unfold bAt
  rw [List.length_append]
  by_cases e : i < R.length
  · rw [if_pos (by omega), getD_r, List.getD_eq_getElem?_getD, List.getD_eq_getElem?_getD, List.getElem?_eq_getElem e]
    rfl
  · rw [if_neg (by omega), List.getD_eq_getElem?_getD, List.getElem?_eq_none (by omega)]
    rfl
theorem getD_in {R : List Int32} {i : Nat} {a b : Int32} (h : i < R.length) : R.getD i a = R.getD i b := by
  rw [List.getD_eq_getElem?_getD, List.getD_eq_getElem?_getD, List.getElem?_eq_getElem h]
  rfl
theorem getD_app {R Q : List Int32} {i : Nat} {a : Int32} (h : i < R.length) : (R ++ Q).getD i a = R.getD i a := by
  rw [List.getD_eq_getElem?_getD, List.getD_eq_getElem?_getD, List.getElem?_append_left h]
theorem GK_first {x : It} (h : GK x) : 1 ≤ x.2.length ∧ x.1 ≠ 1000 ∧ blaV (x.2.getD 0 0) = 0 := by
  rcases h with ⟨s, hs, rfl⟩ | ⟨n, hn1, rfl⟩ | rfl | rfl | ⟨n, hn1, rfl⟩ | ⟨b, hb, rfl⟩ | rfl | rfl
  · have all : ((List.range 26).all fun s => decide (1 ≤ (sB s).length ∧ blaV ((sB s).getD 0 0) = 0)) = true := by decide +kernel
    obtain ⟨h1, h2⟩ := of_decide_eq_true (List.all_eq_true.mp all s (List.mem_range.mpr hs))
    exact ⟨h1, by show 128 + s ≠ 1000; omega, h2⟩
  · exact ⟨by show 1 ≤ (dc n).length + 1; omega, (show (2 : Nat) ≠ 1000 by decide), (show blaV 109 = 0 by decide)⟩
  · exact ⟨by decide, by decide, by decide⟩
  · exact ⟨by decide, by decide, by decide⟩
  · have hl := dc_len hn1
    refine ⟨hl.1, (show (3 : Nat) ≠ 1000 by decide), ?_⟩
    obtain ⟨h1, h2⟩ := (decF_dg 7 n).at' (i := 0) (by show 0 < (dc n).length; omega)
    show blaV ((dc n).getD 0 0) = 0
    have h1 : digV ((dc n).getD 0 0) = 1 := h1
    unfold blaV
    by_cases e : (dc n).getD 0 0 = 32
    · rw [e] at h1
      exact absurd h1 (by decide)
    · rw [if_neg e]
      by_cases e2 : (dc n).getD 0 0 = 10
      · rw [e2] at h1
        exact absurd h1 (by decide)
      · rw [if_neg e2]
  · have all : (symL.all fun b => decide (b ≠ 1000 ∧ blaV (nI b) = 0)) = true := by decide +kernel
    obtain ⟨h1, h2⟩ := of_decide_eq_true (List.all_eq_true.mp all b hb)
    exact ⟨by show 1 ≤ 1; omega, h1, h2⟩
  · exact ⟨by decide, by decide, by decide⟩
  · exact ⟨by decide, by decide, by decide⟩
theorem okI.gk {x : It} {l : List It} (h : okI (x :: l)) (hn : x.1 ≠ 1000) : GK x ∧ nextOK x.1 ((spl l).getD 0 (-1)) := by
  rcases h.1 with z | z
  · exact absurd z.1 hn
  · exact z
theorem fst_noBl {l : List It} (h : okI l) (hn : noBl l) : blaV ((spl l).getD 0 (-1)) = 0 := by
  cases l with
  | nil => exact m1_V.2.2
  | cons y l =>
    obtain ⟨h1, -⟩ := h.gk hn
    obtain ⟨k1, -, k3⟩ := GK_first h1
    rw [spl_cons, getD_app (by omega), getD_in (b := 0) (by omega)]
    exact k3
theorem skip_bl {W A : List Int32} {g : G} {l l' : List It} {s : Nat} (h : TP W g) (hW : W = A ++ spl l) (h3 : spl l = List.append ((spl l).take s) (spl l')) (h4 : s + (spl l').length = (spl l).length) (h5 : ∀ i, i < s → blaV ((spl l).getD i 0) = 1) (ho : okI l') (hn : noBl l') : k5_skipBlanks (nI A.length) g = some (nI (A.length + s)) := by
  have h2 := h.2.1
  have hl : A.length + s ≤ W.length := by rw [hW, List.length_append]; omega
  have := skipB h hl (fun i hi => by
    rw [hW, bAt_app, getD_in (b := 0) (by omega)]
    exact h5 i hi) (by
    rw [hW, bAt_app]
    have e : (spl l).getD s (-1) = (spl l').getD 0 (-1) := by
      have hlen : ((spl l).take s).length = s := by rw [List.length_take]; omega
      have h3 : spl l = (spl l).take s ++ spl l' := h3
      have e1 : ((spl l).take s ++ spl l').getD (((spl l).take s).length + 0) (-1) = (spl l').getD 0 (-1) := by
        rw [List.getD_eq_getElem?_getD, List.getD_eq_getElem?_getD, List.getElem?_append_right (Nat.le_add_right _ _), Nat.add_sub_cancel_left]
      rw [hlen, ← h3] at e1
      exact e1
    rw [e]
    exact fst_noBl ho hn) s 0 FU (by omega) (by unfold FU; omega)
  exact this
theorem readEnd {W : List Int32} {T : List Tk} {g : G} (h : TP W g) (hT : TL T g) (hl : T.length ≤ 400) : ∃ g', k6_readTape_68 (nI W.length) g = some g' ∧ TL (T ++ [(0, W.length, 0, 0)]) g' ∧ ∀ a, a < 3 ∨ 7 < a → g' a = g a := by
  have h2 := h.2.1
  have e : tokE g (addT T.length (nI 0) (nI W.length) (nI 0) g) T.length 0 W.length 0 0 := addT_E
  refine ⟨_, ?_, hT.add e, e.1⟩
  unfold k6_readTape_68 k6_readTape_85
  have e0 : nI W.length - nI W.length = nI 0 := by rw [nI_sub' (Nat.le_refl _), Nat.sub_self]
  rw [h.1, if_pos (Int32.le_refl _), show (0 : Int32) = nI 0 from rfl, k6_add_n hl hT.1, e0, some_bind]
theorem read16 {W : List Int32} : ∀ (n : Nat) (I : List It) (A : List Int32) (T : List Tk) (g : G) (f : Nat), I.length ≤ n → W = A ++ spl I → noBl I → okI I → TP W g → TL T g → T.length + (tkL I A.length).length ≤ 400 → n < f → ∃ g', k6_readTape_16 f (nI A.length) (nI T.length) g = some g' ∧ TL (T ++ (tkL I A.length ++ [(0, W.length, 0, 0)])) g' ∧ ∀ a, a < 3 ∨ 7 < a → g' a = g a := by
  intro n
  induction n with
  | zero =>
    intro I A T g f hI hW hn ho h hT hl hf
    obtain ⟨f, rfl⟩ : ∃ z, f = z + 1 := ⟨f - 1, by omega⟩
    have h2 := h.2.1
    cases I with
    | cons x l => simp at hI
    | nil =>
      have hA : W = A := by rw [hW]; exact List.append_nil _
      subst hA
      have hl : T.length ≤ 400 := hl
      obtain ⟨g', k1, k2, k3⟩ := readEnd h hT hl
      refine ⟨g', ?_, k2, k3⟩
      unfold k6_readTape_16
      rw [h.1]
      by_cases e : (400 : Int32) ≤ nI T.length
      · rw [if_pos e]
        exact k1
      · rw [if_neg e, if_pos (Int32.le_refl _)]
        exact k1
  | succ n ih =>
    intro I A T g f hI hW hn ho h hT hl hf
    cases I with
    | nil => exact (fun (q : ∃ g', k6_readTape_16 f (nI A.length) (nI T.length) g = some g' ∧ TL (T ++ (tkL [] A.length ++ [(0, W.length, 0, 0)])) g' ∧ ∀ a, a < 3 ∨ 7 < a → g' a = g a) => q) (ih [] A T g f (Nat.zero_le _) hW hn ho h hT hl (by omega))
    | cons x l =>
      obtain ⟨f, rfl⟩ : ∃ z, f = z + 1 := ⟨f - 1, by omega⟩
      have h2 := h.2.1
      obtain ⟨hg, hx⟩ := ho.gk hn
      obtain ⟨k1, k2, k3⟩ := GK_first hg
      have htk : tkL (x :: l) A.length = (x.1, A.length, x.2.length, vI x) :: tkL l (A.length + x.2.length) := if_neg k2
      rw [htk] at hl
      simp only [List.length_cons] at hl hI
      have hW2 : W = (A ++ x.2) ++ spl l := by rw [hW, spl_cons, List.append_assoc]
      have hlen : W.length = A.length + (x.2.length + (spl l).length) := by rw [hW, spl_cons, List.length_append, List.length_append]
      have hat : AtW W A.length x.2 := ⟨by omega, fun i hi => by
        rw [hW, bAt_app, spl_cons, getD_app hi]
        exact getD_in hi⟩
      have hnx : nextOK x.1 (bAt W (A.length + x.2.length)) := by
        have e : bAt W (A.length + x.2.length) = (spl l).getD 0 (-1) := by
          have := bAt_app (A := A ++ x.2) (R := spl l) (i := 0)
          rw [← hW2, List.length_append] at this
          exact this
        rw [e]
        exact hx
      obtain ⟨g1, e1, t1⟩ := tok_any h hg hat hnx hT.1 (by omega)
      have hT1 := hT.add t1
      have h1 := t1.tp h
      obtain ⟨s, l', b1, b2, b3, b4, b5, b6, b7⟩ := blanks l ho.2
      have hsk := skip_bl (A := A ++ x.2) h1 hW2 b3 b4 b5 b2 b1
      rw [List.length_append] at hsk
      obtain ⟨A', hA'⟩ : ∃ A', A' = (A ++ x.2) ++ (spl l).take s := ⟨_, rfl⟩
      have hAl : A'.length = A.length + x.2.length + s := by
        rw [hA', List.length_append, List.length_append, List.length_take]
        omega
      have hW3 : W = A' ++ spl l' := by
        rw [hA', List.append_assoc]
        have b3 : spl l = (spl l).take s ++ spl l' := b3
        rw [← b3]
        exact hW2
      have hTl : (T ++ [(x.1, A.length, x.2.length, vI x)]).length = T.length + 1 := by rw [List.length_append]; rfl
      have htk2 : tkL l (A.length + x.2.length) = tkL l' A'.length := by rw [b6, hAl]
      obtain ⟨g', q1, q2, q3⟩ := ih l' A' (T ++ [(x.1, A.length, x.2.length, vI x)]) g1 f (by omega) hW3 b1 b2 h1 hT1 (by rw [hTl, ← htk2]; omega) (by omega)
      refine ⟨g', ?_, ?_, fun a ha => (q3 a ha).trans (t1.1 a ha)⟩
      · unfold k6_readTape_16
        rw [if_neg (by rw [show (400 : Int32) = nI 400 from rfl, nI_leI (by omega) (by omega)]; omega), h.1, if_neg (by rw [nI_leI (by omega) (by omega)]; omega), e1, some_bind, bd_eq, if_pos ((nI_ltI (by omega) (by omega)).mpr (by omega)), hsk, some_bind, bd_eq, nI_1, ← hAl, ← hTl]
        exact q1
      · rw [htk, htk2]
        rw [List.append_assoc] at q2
        exact q2
theorem okI_len : ∀ I : List It, okI I → I.length ≤ (spl I).length := by
  intro I
  induction I with
  | nil => intro _; exact Nat.zero_le _
  | cons x l ih =>
    intro h
    have := ih h.2
    have h1 : 1 ≤ x.2.length := by
      rcases h.1 with z | z
      · rcases z.2 with y | y <;> rw [y] <;> decide
      · exact (GK_first z.1).1
    rw [spl_cons, List.length_append, List.length_cons]
    omega
theorem readTape_ok {W : List Int32} {I : List It} {g : G} (h : TP W g) (hW : W = spl I) (ho : okI I) (hl : (tkL I 0).length ≤ 400) : ∃ g', k6_readTape g = some g' ∧ TL (tkL I 0 ++ [(0, W.length, 0, 0)]) g' ∧ ∀ a, a < 3 ∨ 7 < a → g' a = g a := by
  have h2 := h.2.1
  obtain ⟨g0, e0⟩ : ∃ z, z = up g 3 5 0 := ⟨_, rfl⟩
  have h0 : TP W g0 := ⟨by rw [e0, up_other (by decide)]; exact h.1, h.2.1, h.2.2.1, fun j hj => by rw [e0, up_other (by decide)]; exact h.2.2.2 j hj⟩
  have hT0 : TL [] g0 := ⟨by rw [e0, up_self]; rfl, fun i t hi => by simp at hi⟩
  obtain ⟨s, l', b1, b2, b3, b4, b5, b6, b7⟩ := blanks I ho
  have hsk := skip_bl (A := []) h0 (by rw [hW]; rfl) b3 b4 b5 b2 b1
  have hAl : ((spl I).take s).length = 0 + s := by rw [List.length_take]; omega
  have hI := okI_len I ho
  rw [← hW] at hI
  obtain ⟨g', q1, q2, q3⟩ := read16 l'.length l' ((spl I).take s) [] g0 FU (Nat.le_refl _) (by rw [hW]; exact b3) b1 b2 h0 hT0 (by rw [hAl, ← b6]; show 0 + _ ≤ 400; omega) (by unfold FU; omega)
  refine ⟨g', ?_, ?_, fun a ha => (q3 a ha).trans (by rw [e0]; exact up_ne (by omega))⟩
  · unfold k6_readTape
    rw [bd_eq, ← e0]
    have hsk : k5_skipBlanks 0 g0 = some (nI (0 + s)) := hsk
    rw [hsk, some_bind, ← hAl]
    exact q1
  · rw [hAl, ← b6] at q2
    exact q2
