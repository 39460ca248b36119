/-! how many words and steps a text has -/
def tkN : Nat → Nat
  | 0 => 3
  | d + 1 => 2 * tkN d + 4
theorem tkN_3 : ∀ d, 3 ≤ tkN d := by
  intro d
  induction d with
  | zero => exact Nat.le_refl _
  | succ d ih => show 3 ≤ 2 * tkN d + 4; omega
def stN2 : Nat → Nat
  | 0 => 1
  | d + 1 => 2 * stN2 d + 1
theorem stN2_1 : ∀ d, 1 ≤ stN2 d := by
  intro d
  induction d with
  | zero => exact Nat.le_refl _
  | succ d ih => show 1 ≤ 2 * stN2 d + 1; omega
theorem PX.cnt {N : Nat} : ∀ d c l i, PX N (d + 1) c l i → (ns i).length ≤ tkN d ∧ l.length ≤ stN2 d := by
  intro d
  induction d with
  | zero =>
    intro c l i h
    obtain ⟨s, ⟨hf, n, h1, rfl, h3, rfl⟩ | ⟨hf, l1, i1, ht, -, rfl⟩ | ⟨hf, l1, l2, i1, i2, ht, hu, -, rfl⟩⟩ := h
    · have hsv : s = 0 ∨ s = 1 ∨ s = 2 ∨ s = 3 ∨ s = 4 ∨ s = 5 ∨ s = 6 ∨ s = 7 ∨ s = 8 ∨ s = 21 ∨ s = 22 := by
        have hf2 := hf
        unfold isLf at hf2
        rcases hf2 with ⟨-, z⟩ | ⟨-, z⟩ <;> omega
      refine ⟨?_, Nat.le_refl _⟩
      rcases hsv with rfl | rfl | rfl | rfl | rfl | rfl | rfl | rfl | rfl | rfl | rfl <;> exact Nat.le_of_ble_eq_true rfl
    · exact ht.elim
    · exact ht.elim
  | succ d ih =>
    intro c l i h
    have k3 := tkN_3 d
    have k1 := stN2_1 d
    obtain ⟨s, ⟨hf, n, h1, rfl, h3, rfl⟩ | ⟨hf, l1, i1, ht, rfl, rfl⟩ | ⟨hf, l1, l2, i1, i2, ht, hu, rfl, rfl⟩⟩ := h
    · have hsv : s = 0 ∨ s = 1 ∨ s = 2 ∨ s = 3 ∨ s = 4 ∨ s = 5 ∨ s = 6 ∨ s = 7 ∨ s = 8 ∨ s = 21 ∨ s = 22 := by
        have hf2 := hf
        unfold isLf at hf2
        rcases hf2 with ⟨-, z⟩ | ⟨-, z⟩ <;> omega
      have e : (ns (leafI s n)).length ≤ 3 := by
        rcases hsv with rfl | rfl | rfl | rfl | rfl | rfl | rfl | rfl | rfl | rfl | rfl <;> exact Nat.le_of_ble_eq_true rfl
      exact ⟨by show _ ≤ 2 * tkN d + 4; omega, by show 1 ≤ 2 * stN2 d + 1; omega⟩
    · obtain ⟨a1, a2⟩ := ih _ _ _ ht
      have e : (ns (unI s)).length ≤ 1 := by
        have hs : s = 9 ∨ s = 23 := by unfold isUn at hf; omega
        rcases hs with rfl | rfl <;> exact Nat.le_of_ble_eq_true rfl
      refine ⟨?_, ?_⟩
      · rw [ns_app, List.length_append]; show _ ≤ 2 * tkN d + 4; omega
      · rw [List.length_append, List.length_singleton]; show _ ≤ 2 * stN2 d + 1; omega
    · obtain ⟨a1, a2⟩ := ih _ _ _ ht
      obtain ⟨b1, b2⟩ := ih _ _ _ hu
      have e : (ns (biL s)).length + (ns (biM s)).length + (ns (biR s)).length ≤ 4 := by
        have hs : s = 10 ∨ s = 11 ∨ s = 12 ∨ s = 13 ∨ s = 14 ∨ s = 15 ∨ s = 16 ∨ s = 17 ∨ s = 18 ∨ s = 19 ∨ s = 20 ∨ s = 24 ∨ s = 25 := by
          unfold isBi at hf
          rcases hf with ⟨-, z⟩ | ⟨-, z⟩ <;> omega
        rcases hs with rfl | rfl | rfl | rfl | rfl | rfl | rfl | rfl | rfl | rfl | rfl | rfl | rfl <;> exact Nat.le_of_ble_eq_true rfl
      refine ⟨?_, ?_⟩
      · rw [ns_app, ns_app, ns_app, ns_app, List.length_append, List.length_append, List.length_append, List.length_append]; show _ ≤ 2 * tkN d + 4; omega
      · rw [List.length_append, List.length_append, List.length_singleton]; show _ ≤ 2 * stN2 d + 1; omega
theorem PO.cnt {N : Nat} {o : OR4} {i : List It} (h : PO N o i) : (ns i).length ≤ 81 ∧ (oSteps o).length ≤ 23 := by
  obtain ⟨ho, hn, i1, i2, h1, h2, rfl⟩ := h
  have e1 : (ns (if o.1 < 3 then [] else bl :: tok 134 :: bl :: i1)).length ≤ 25 ∧ o.2.2.1.length ≤ 7 := by
    rcases h1 with ⟨z, y⟩ | ⟨z, hP⟩
    · rw [if_pos z, y]; exact ⟨Nat.zero_le _, Nat.zero_le _⟩
    · obtain ⟨a1, a2⟩ := PX.cnt 2 _ _ _ hP
      have a1 : (ns i1).length ≤ 24 := a1
      rw [if_neg (by omega)]
      refine ⟨?_, a2⟩
      rw [ns_bl, ns_tok (by decide), ns_bl, List.length_cons]; omega
  have e2 : (ns (if o.2.2.2 = [] then [] else bl :: tok 139 :: bl :: i2)).length ≤ 53 ∧ (if o.2.2.2 = [] then [((7 : Nat), (0 : Int32))] else o.2.2.2).length ≤ 15 := by
    rcases h2 with z | ⟨z, hP⟩
    · rw [if_pos z, if_pos z]; exact ⟨Nat.zero_le _, by show 1 ≤ 15; omega⟩
    · obtain ⟨a1, a2⟩ := PX.cnt 3 _ _ _ hP
      have a1 : (ns i2).length ≤ 52 := a1
      rw [if_neg z, if_neg z]
      refine ⟨?_, a2⟩
      rw [ns_bl, ns_tok (by decide), ns_bl, List.length_cons]; omega
  have hds : doStep o.1 ≠ 1000 := by
    unfold doStep
    rcases (show o.1 = 0 ∨ o.1 = 1 ∨ o.1 = 2 ∨ o.1 = 3 ∨ o.1 = 4 by omega) with e | e | e | e | e <;> (rw [e]; decide)
  refine ⟨?_, ?_⟩
  · unfold ordI
    rw [ns_tok hds, ns_bl]
    have e : ns (nmI o.2.1 :: ((if o.1 < 3 then [] else bl :: tok 134 :: bl :: i1) ++ ((if o.2.2.2 = [] then [] else bl :: tok 139 :: bl :: i2) ++ [tok 59]))) = nmI o.2.1 :: (ns (if o.1 < 3 then [] else bl :: tok 134 :: bl :: i1) ++ (ns (if o.2.2.2 = [] then [] else bl :: tok 139 :: bl :: i2) ++ [tok 59])) := by
      have e0 : ns [tok 59] = [tok 59] := rfl
      rw [← e0, ← ns_app, ← ns_app, e0]
      rfl
    rw [e, List.length_cons, List.length_cons, List.length_append, List.length_append, List.length_singleton]
    omega
  · unfold oSteps
    rw [List.length_append, List.length_append, List.length_singleton]
    omega
theorem fm_cnt {N : Nat} : ∀ (L : List (OR4 × List It)), (∀ y, y ∈ L → PO N y.1 y.2) → (ns (L.flatMap Prod.snd)).length ≤ 81 * L.length ∧ (pSteps (L.map Prod.fst)).length ≤ 23 * L.length := by
  intro L
  induction L with
  | nil => intro _; exact ⟨Nat.zero_le _, Nat.zero_le _⟩
  | cons y L ih =>
    intro h
    obtain ⟨a1, a2⟩ := (h y (List.mem_cons_self ..)).cnt
    obtain ⟨b1, b2⟩ := ih (fun z hz => h z (List.mem_cons_of_mem _ hz))
    refine ⟨?_, ?_⟩
    · show (ns (y.2 ++ L.flatMap Prod.snd)).length ≤ 81 * (L.length + 1)
      rw [ns_app, List.length_append]; omega
    · show (oSteps y.1 ++ pSteps (L.map Prod.fst)).length ≤ 23 * (L.length + 1)
      rw [List.length_append]; omega
theorem mr_cnt : ∀ (M : List (List Int32 × Mi)), (ns (mrI M)).length ≤ 8 * M.length := by
  intro M
  induction M with
  | nil => exact Nat.zero_le _
  | cons y M ih =>
    have e : (ns (mirN y.1 y.2)).length ≤ 8 := by
      unfold mirN
      cases y.2.2.1 <;> exact Nat.le_of_ble_eq_true rfl
    show (ns (mirN y.1 y.2 ++ mrI M)).length ≤ 8 * (M.length + 1)
    rw [ns_app, List.length_append]; omega
theorem all_cnt {N : Nat} {hw hl : Option Nat} {M : List (List Int32 × Mi)} {L : List (OR4 × List It)} (hP : ∀ y, y ∈ L → PO N y.1 y.2) (hL : L.length ≤ 4) (hM : M.length ≤ 7) : (ns (allN hw hl M L)).length ≤ 400 ∧ (pSteps (L.map Prod.fst)).length ≤ 400 := by
  obtain ⟨a1, a2⟩ := fm_cnt L hP
  have a3 := mr_cnt M
  have e1 : (ns (widthI hw)).length ≤ 3 := by cases hw <;> exact Nat.le_of_ble_eq_true rfl
  have e2 : (ns (limitI hl)).length ≤ 3 := by cases hl <;> exact Nat.le_of_ble_eq_true rfl
  refine ⟨?_, by omega⟩
  unfold allN
  rw [ns_app, ns_app, ns_app, List.length_append, List.length_append, List.length_append]
  omega
