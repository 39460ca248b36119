/-! tokens: what is read at a place -/
theorem length_n {i : Nat} {g : G} (hi : i < 26) : kJ0_length_8abf5 i g = some (nI (sL i)) := by
  have hN : i < NS := by show i < 94; omega
  unfold kJ0_length_8abf5 kJ0_coder_7d493 ckS
  rw [if_pos hN, if_pos hN, if_pos hN, if_pos hN, some_bind, sh_r0]
theorem drop_getD {w : List Int32} {i : Nat} (h : i < w.length) : w.drop i = w.getD i 0 :: w.drop (i + 1) := by
  rw [List.drop_eq_getElem_cons h, List.getD_eq_getElem?_getD, List.getElem?_eq_getElem h]
  rfl
theorem holds13 {W w : List Int32} {g : G} {p j : Nat} (h : TP W g) (ha : AtW W p w) (hj : j < 26) (hl : (sB j).length = w.length) : ∀ d i f, w.length = i + d → d < f → k5_holdsText_13 g f j (nI p) (nI w.length) (nI i) = some (if (sB j).drop i = w.drop i then 1 else 0) := by
  have h2 := h.2.1
  have ha1 := ha.1
  have hN : j < NS := by show j < 94; omega
  intro d
  induction d with
  | zero =>
    intro i f hd hf
    obtain ⟨f, rfl⟩ : ∃ z, f = z + 1 := ⟨f - 1, by omega⟩
    obtain rfl : w.length = i := by omega
    unfold k5_holdsText_13
    rw [if_pos (Int32.le_refl _), if_pos]
    rw [List.drop_of_length_le (Nat.le_refl _), List.drop_of_length_le (by omega)]
  | succ d ih =>
    intro i f hd hf
    obtain ⟨f, rfl⟩ : ∃ z, f = z + 1 := ⟨f - 1, by omega⟩
    have hi : i < w.length := by omega
    have hs : sL j = (sB j).length := rfl
    unfold k5_holdsText_13
    rw [if_neg (by rw [nI_leI (by omega) (by omega)]; omega), nI_plus, byteAt_n h (by omega), some_bind, ha.2 i hi]
    refine Eq.trans (if_pos hN) ?_
    rw [charAt_n hj (by omega) (by omega), some_bind, drop_getD (w := sB j) (by omega), drop_getD (w := w) hi]
    by_cases e : w.getD i 0 = (sB j).getD i 0
    · rw [if_pos e, bd_eq, nI_1, ih (i + 1) f (by omega) (by omega)]
      by_cases e2 : (sB j).drop (i + 1) = w.drop (i + 1)
      · rw [if_pos e2, if_pos (by rw [e, e2])]
      · rw [if_neg e2, if_neg (fun z => e2 (List.cons.inj z).2)]
    · rw [if_neg e, if_neg (fun z => e (List.cons.inj z).1.symm)]
theorem holds_n {W w : List Int32} {g : G} {p j : Nat} (h : TP W g) (ha : AtW W p w) (hj : j < 26) : k5_holdsText j (nI p) (nI w.length) g = some (if sB j = w then 1 else 0) := by
  have h2 := h.2.1
  have ha1 := ha.1
  have hN : j < NS := by show j < 94; omega
  have hsm : sL j ≤ 10 := by
    have all : ((List.range 26).all fun i => decide (sL i ≤ 10)) = true := by decide +kernel
    exact of_decide_eq_true (List.all_eq_true.mp all j (List.mem_range.mpr hj))
  unfold k5_holdsText
  refine Eq.trans (if_pos hN) ?_
  rw [length_n hj, some_bind]
  by_cases e : sL j = w.length
  · rw [if_pos (by rw [e])]
    have := holds13 h ha hj e w.length 0 FU (by omega) (by unfold FU; omega)
    rw [List.drop_zero, List.drop_zero] at this
    exact this
  · rw [if_neg (fun z => e (nI_inj (by omega) (by omega) z)), if_neg (fun z => e (by rw [← z]; rfl))]
theorem up_slot' {g : G} {o k o' k' : Nat} {v : Int32} (h : k' ≠ k) : up g o k v o' k' = g o' k' := if_neg (fun q => h q.2)
/-- what stays, what is new, when a token is added as the k-th -/
def tokE (g g' : G) (k c p z : Nat) (v : Int32) : Prop := (∀ a, a < 3 ∨ 7 < a → g' a = g a) ∧ (∀ a i, 4 ≤ a → a ≤ 7 → i ≠ k → g' a i = g a i) ∧ g' 3 5 = nI (k + 1) ∧ g' 4 k = nI c ∧ g' 5 k = nI p ∧ g' 6 k = nI z ∧ g' 7 k = v
def addT (k : Nat) (c a z : Int32) (g : G) : G := up (up (up (up (up g 4 k c) 5 k a) 6 k z) 7 k 0) 3 5 (nI (k + 1))
theorem k6_add_n {k : Nat} {c a b : Int32} {g : G} (hk : k ≤ 400) (h : g 3 5 = nI k) : k6_add c a b g = some (addT k c a (b - a) g) := by
  unfold k6_add
  have e1 : (up g 4 k c) 3 5 = nI k := (up_other (by decide)).trans h
  have e2 : (up (up g 4 k c) 5 k a) 3 5 = nI k := (up_other (by decide)).trans e1
  have e3 : (up (up (up g 4 k c) 5 k a) 6 k (b - a)) 3 5 = nI k := (up_other (by decide)).trans e2
  have e4 : (up (up (up (up g 4 k c) 5 k a) 6 k (b - a)) 7 k 0) 3 5 = nI k := (up_other (by decide)).trans e3
  rw [h, if_pos (show nI k ≤ 400 from (nI_leI (b := 400) (by omega) (by omega)).mpr hk), sto_n (by omega) (by omega), e1, sto_n (by omega) (by omega), e2, sto_n (by omega) (by omega), e3, sto_n (by omega) (by omega), e4, bd_eq, nI_1]
  rfl
theorem setT_E {k c p z : Nat} {v : Int32} {g : G} : tokE g (up (addT k (nI c) (nI p) (nI z) g) 7 k v) k c p z v := by
  have h : tokE g (addT k (nI c) (nI p) (nI z) g) k c p z 0 := by
    unfold addT
    refine ⟨fun a ha => ?_, fun a i h1 h2 hi => ?_, up_self, ?_, ?_, ?_, ?_⟩
    · rw [up_ne (by omega), up_ne (by omega), up_ne (by omega), up_ne (by omega), up_ne (by omega)]
    · rw [up_other (by omega), up_slot' hi, up_slot' hi, up_slot' hi, up_slot' hi]
    · rw [up_other (by decide), up_other (by decide), up_other (by decide), up_other (by decide), up_self]
    · rw [up_other (by decide), up_other (by decide), up_other (by decide), up_self]
    · rw [up_other (by decide), up_other (by decide), up_self]
    · rw [up_other (by decide), up_self]
  obtain ⟨h1, h2, h3, h4, h5, h6, h7⟩ := h
  exact ⟨fun a ha => (up_ne (by omega)).trans (h1 a ha), fun a i q1 q2 hi => (up_slot' hi).trans (h2 a i q1 q2 hi), (up_other (by decide)).trans h3, (up_other (by decide)).trans h4, (up_other (by decide)).trans h5, (up_other (by decide)).trans h6, up_self⟩
theorem addT_E {k c p z : Nat} {g : G} : tokE g (addT k (nI c) (nI p) (nI z) g) k c p z 0 := by
  unfold addT
  refine ⟨fun a ha => ?_, fun a i h1 h2 hi => ?_, up_self, ?_, ?_, ?_, ?_⟩
  · rw [up_ne (by omega), up_ne (by omega), up_ne (by omega), up_ne (by omega), up_ne (by omega)]
  · rw [up_other (by omega), up_slot' hi, up_slot' hi, up_slot' hi, up_slot' hi]
  · rw [up_other (by decide), up_other (by decide), up_other (by decide), up_other (by decide), up_self]
  · rw [up_other (by decide), up_other (by decide), up_other (by decide), up_self]
  · rw [up_other (by decide), up_other (by decide), up_self]
  · rw [up_other (by decide), up_self]
