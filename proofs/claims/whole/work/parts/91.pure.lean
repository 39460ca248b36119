/-! the place of a mirror -/
theorem k4_find_loop {o N q : Nat} {g : G} {rw : Nat → Nat} (hN : g o 7 = nI N) (hR : isRow g (o + 4) N rw) (hq : q < N) : ∀ (d p f : Nat), q = p + d → d < f → k4_findPlace_2 o g f (nI (rw q)) (nI p) = some (nI q) := by
  obtain ⟨hN9, hr, hinj⟩ := hR
  have hb : ∀ p, p < N → rw p < 2 ^ 31 := fun p hp => by have := (hr p hp).2; omega
  intro d
  induction d with
  | zero =>
    intro p f hd hf
    obtain ⟨f, rfl⟩ : ∃ z, f = z + 1 := ⟨f - 1, by omega⟩
    obtain rfl : q = p := by omega
    unfold k4_findPlace_2
    rw [hN, if_neg (by rw [nI_leI (by omega) (by omega)]; omega), ld_n (by omega) (by omega), (hr q hq).1, if_pos rfl]
  | succ d ih =>
    intro p f hd hf
    obtain ⟨f, rfl⟩ : ∃ z, f = z + 1 := ⟨f - 1, by omega⟩
    have hp : p < N := by omega
    unfold k4_findPlace_2
    rw [hN, if_neg (by rw [nI_leI (by omega) (by omega)]; omega), ld_n (by omega) (by omega), (hr p hp).1, if_neg (fun e => by
      have := hinj p q hp hq ((nI_eq (hb p hp) (hb q hq)).mp e)
      omega), bd_eq, nI_1]
    exact ih (p + 1) f (by omega) (by omega)
theorem k11_place_loop {N q : Nat} {g : G} {rw : Nat → Nat} (hR : isRow g 83 N rw) (hq : q < N) : ∀ (d p f : Nat), q = p + d → d < f → k11_place_2 g f (nI (rw q)) (nI p) = some (nI q) := by
  obtain ⟨hN9, hr, hinj⟩ := hR
  have hb : ∀ p, p < N → rw p < 2 ^ 31 := fun p hp => by have := (hr p hp).2; omega
  intro d
  induction d with
  | zero =>
    intro p f hd hf
    obtain ⟨f, rfl⟩ : ∃ z, f = z + 1 := ⟨f - 1, by omega⟩
    obtain rfl : q = p := by omega
    unfold k11_place_2
    rw [ld_n (by omega) (by omega), (hr q hq).1, if_pos rfl]
  | succ d ih =>
    intro p f hd hf
    obtain ⟨f, rfl⟩ : ∃ z, f = z + 1 := ⟨f - 1, by omega⟩
    have hp : p < N := by omega
    unfold k11_place_2
    rw [ld_n (by omega) (by omega), (hr p hp).1, if_neg (fun e => by
      have := hinj p q hp hq ((nI_eq (hb p hp) (hb q hq)).mp e)
      omega), bd_eq, nI_1]
    exact ih (p + 1) f (by omega) (by omega)
theorem k4_find_ok {o N q : Nat} {g : G} {rw : Nat → Nat} (hN : g o 7 = nI N) (hR : isRow g (o + 4) N rw) (hq : q < N) : k4_findPlace o (nI (rw q)) g = some (nI q) := k4_find_loop hN hR hq q 0 FU (by omega) (by have := hR.1; unfold FU; omega)
theorem k11_place_ok {N q : Nat} {g : G} {rw : Nat → Nat} (hR : isRow g 83 N rw) (hq : q < N) : k11_place (nI (rw q)) g = some (nI q) := k11_place_loop hR hq q 0 FU (by omega) (by have := hR.1; unfold FU; omega)
theorem p_placeOf : S_placeOf Inv := by
  intro n g f a h
  obtain ⟨N, J, rw, h⟩ := h
  have hN9 := h.R.N9
  by_cases hm : ¬ a < 0 ∧ a < nI N
  · obtain ⟨m, hm1, rfl⟩ := (in_c (by omega)).mp hm
    obtain ⟨q, hq, rfl⟩ := h.R.row.at hm1
    refine ⟨(0, g, vp_updL f 0 (nI q).toInt64), (nI q, up g 47 0 0), ?_, ?_, (show up g 47 0 0 47 0 = 0 from up_self), fun _ => rfl, h.thrown.next⟩
    · unfold w_placeOf k8_placeOf
      rw [chk_in h.R.1 hN9 hm1, xb_0, k4_find_ok h.R.1 h.R.row hq]
      exact wr1_0
    · unfold k11_placeOf
      show (k11_isMirror (nI (rw q)) g).bind _ = _
      rw [isM_in h.R.2.1 hN9 hm1, some_bind]
      dsimp only
      rw [if_neg (by decide), k11_place_ok (isRow_same (up_ne (by decide)) h.R.mrow) hq]
      rfl
  · refine ⟨(1, g, f), (0, up g 47 0 1), ?_, ?_, by show up g 47 0 1 47 0 = 1; exact up_self, fun h => absurd h (by show ¬ (1 : Int32) = 0; decide), h.thrown.next⟩
    · unfold w_placeOf k8_placeOf
      rw [chk_out h.R.1 hm, xb_e (by decide)]
      exact wr1_e (by decide)
    · unfold k11_placeOf
      show (k11_isMirror a g).bind _ = _
      rw [isM_out h.R.2.1 hN9 hm, some_bind, if_pos rfl]
