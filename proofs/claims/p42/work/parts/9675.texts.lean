/-! whole texts -/
theorem e32 : endB 32 := by unfold endB; decide
theorem e59 : endB 59 := by unfold endB; decide
theorem PO.oe {N : Nat} {o : OR4} {i : List It} (hN : N ≤ 10) (h : PO N o i) (b : Int32) : oSe i b := by
  obtain ⟨ho, hn, i1, i2, h1, h2, rfl⟩ := h
  have b59 : oSe [tok 59] b := ⟨oe_s (by decide), trivial⟩
  have f59 : fb [tok 59] b = 59 := rfl
  obtain ⟨R1, hR1⟩ : ∃ R, R = (if o.1 < 3 then [] else bl :: tok 134 :: bl :: i1) := ⟨_, rfl⟩
  obtain ⟨R2, hR2⟩ : ∃ R, R = (if o.2.2.2 = [] then [] else bl :: tok 139 :: bl :: i2) := ⟨_, rfl⟩
  have e0 : ordI o i1 i2 = tok (doStep o.1) :: bl :: nmI o.2.1 :: (R1 ++ (R2 ++ [tok 59])) := by rw [hR1, hR2]; rfl
  have g2 : oSe R2 59 ∧ (R2 = [] ∨ ∃ l, R2 = bl :: l) := by
    rcases h2 with z | ⟨z, hP⟩
    · rw [hR2, if_pos z]; exact ⟨trivial, Or.inl rfl⟩
    · rw [hR2, if_neg z]
      exact ⟨⟨Or.inl oe_bl, oe_kw (s := 11) (by decide) e32, Or.inl oe_bl, (hP.oe hN _ _ _ _).1 _ e59⟩, Or.inr ⟨_, rfl⟩⟩
  have f2 : endB (fb (R2 ++ [tok 59]) b) := by
    rcases g2.2 with e | ⟨l, e⟩
    · rw [e]; exact e59
    · rw [e]; exact e32
  have g1 : oSe R1 (fb (R2 ++ [tok 59]) b) ∧ (R1 = [] ∨ ∃ l, R1 = bl :: l) := by
    rcases h1 with ⟨z, -⟩ | ⟨z, hP⟩
    · rw [hR1, if_pos z]; exact ⟨trivial, Or.inl rfl⟩
    · rw [hR1, if_neg (by omega)]
      exact ⟨⟨Or.inl oe_bl, oe_kw (s := 6) (by decide) e32, Or.inl oe_bl, (hP.oe hN _ _ _ _).1 _ f2⟩, Or.inr ⟨_, rfl⟩⟩
  have f1 : endB (fb (R1 ++ (R2 ++ [tok 59])) b) := by
    rcases g1.2 with e | ⟨l, e⟩
    · rw [e]; exact f2
    · rw [e]; exact e32
  have hds : ∃ s, s < 26 ∧ doStep o.1 = 128 + s := by
    unfold doStep
    rcases (show o.1 = 0 ∨ o.1 = 1 ∨ o.1 = 2 ∨ o.1 = 3 ∨ o.1 = 4 by omega) with e | e | e | e | e <;> rw [e]
    · exact ⟨8, by decide, rfl⟩
    · exact ⟨9, by decide, rfl⟩
    · exact ⟨10, by decide, rfl⟩
    · exact ⟨5, by decide, rfl⟩
    · exact ⟨7, by decide, rfl⟩
  obtain ⟨s, hs, es⟩ := hds
  rw [e0, es]
  refine ⟨oe_kw hs e32, Or.inl oe_bl, oe_nm (by omega) f1, oSe.app _ _ _ g1.1 (oSe.app _ _ _ ?_ b59)⟩
  rw [f59]; exact g2.1
def okNw (w : List Int32) : Prop := ∀ b, endB b → isBl (2, w) ∨ (GK (2, w) ∧ nextOK 2 b)
theorem okNw_m {n : Nat} (h : n < 10) : okNw (109 :: dc n) := fun b hb => oe_nm h hb
theorem mir_oe {w : List Int32} {x : Mi} (hw : okNw w) (hx : miOK x) (b : Int32) : oSe (mirN w x) b := by
  obtain ⟨h1, h2⟩ := hx
  have b2 : oSe [numI x.2.2, tok 59] b := ⟨oe_num (by omega) e59, oe_s (by decide), trivial⟩
  refine ⟨oe_kw (s := 0) (by decide) e32, Or.inl oe_bl, hw _ e32, Or.inl oe_bl, oe_kw (s := 1) (by decide) e32, Or.inl oe_bl, oe_num (by omega) e32, Or.inl oe_bl, oe_kw (s := 2) (by decide) e32, Or.inl oe_bl, ?_⟩
  cases x.2.1 with
  | true => exact ⟨oe_s (by decide), b2⟩
  | false => exact b2
theorem all_oe {N : Nat} {hw hl : Option Nat} {M : List (List Int32 × Mi)} {L : List (OR4 × List It)} (hN : N ≤ 10) (hP : ∀ y, y ∈ L → PO N y.1 y.2) (hM : ∀ y, y ∈ M → okNw y.1 ∧ miOK y.2) (hW : ∀ V, hw = some V → V ≤ 180) (hl2 : ∀ V, hl = some V → big V 10000) : okI (allN hw hl M L) := by
  have a : ∀ (L : List (OR4 × List It)), (∀ y, y ∈ L → PO N y.1 y.2) → ∀ b, oSe (L.flatMap Prod.snd) b := by
    intro L
    induction L with
    | nil => intro _ b; trivial
    | cons y L ih => intro h b; exact oSe.app y.2 _ b ((h y (List.mem_cons_self ..)).oe hN _) (ih (fun z hz => h z (List.mem_cons_of_mem _ hz)) b)
  have c : ∀ (M : List (List Int32 × Mi)), (∀ y, y ∈ M → okNw y.1 ∧ miOK y.2) → ∀ b, oSe (mrI M) b := by
    intro M
    induction M with
    | nil => intro _ b; trivial
    | cons y M ih => intro h b; exact oSe.app (mirN y.1 y.2) _ b (mir_oe (h y (List.mem_cons_self ..)).1 (h y (List.mem_cons_self ..)).2 _) (ih (fun z hz => h z (List.mem_cons_of_mem _ hz)) b)
  apply oSe_I
  unfold allN
  refine oSe.app _ _ _ ?_ (oSe.app _ _ _ ?_ (oSe.app _ _ _ (c M hM _) (a L hP _)))
  · cases hw with
    | none => trivial
    | some V =>
      have := hW V rfl
      exact ⟨oe_kw (s := 3) (by decide) e32, Or.inl oe_bl, oe_num (by omega) e59, oe_s (by decide), Or.inl oe_bl, trivial⟩
  · cases hl with
    | none => trivial
    | some V =>
      have h : V ≤ 10000 := hl2 V rfl
      exact ⟨oe_kw (s := 4) (by decide) e32, Or.inl oe_bl, oe_num (Nat.lt_of_le_of_lt h (Nat.le_of_ble_eq_true rfl)) e59, oe_s (by decide), Or.inl oe_nl, trivial⟩
/-- the drawn train's text keeps what a text must -/
theorem drawn_txt {N : Nat} {hw hl : Option Nat} {ms : List Mi} {L : List (OR4 × List It)} (hN : N = ms.length) (h7 : ms.length ≤ 7) (hP : ∀ y, y ∈ L → PO N y.1 y.2) (hL : L.length ≤ 4) (hm : ∀ x, x ∈ ms → miOK x) (hW : ∀ V, hw = some V → V ≤ 180) (hl2 : ∀ V, hl = some V → big V 10000) : TXT N hw hl (nmM ms 0) L := by
  have e2 := nmM_2 ms 0
  have el : (nmM ms 0).length = ms.length := by
    have := congrArg List.length e2
    rwa [List.length_map] at this
  have hmi : ∀ y, y ∈ nmM ms 0 → miOK y.2 := fun y hy => hm _ (by rw [← e2]; exact List.mem_map.mpr ⟨y, hy, rfl⟩)
  have hnw : ∀ y, y ∈ nmM ms 0 → okNw y.1 := fun y hy => by
    obtain ⟨i, hi⟩ := List.mem_iff_getElem?.mp hy
    obtain ⟨a1, a2⟩ := nmM_1 ms 0 i y.1 (by rw [List.getElem?_map, hi]; rfl)
    rw [a2]
    exact okNw_m (by omega)
  obtain ⟨c1, c2⟩ := all_cnt (hw := hw) (hl := hl) (M := nmM ms 0) hP hL (by omega)
  exact ⟨by omega, nmM_dn (by omega), hmi, by omega, hP, fun n hn => by have := nmM_at ms 0 n (by omega); rwa [Nat.zero_add] at this, hW, hl2, all_oe (by omega) hP (fun y hy => ⟨hnw y hy, hmi y hy⟩) hW hl2, c1, c2⟩
