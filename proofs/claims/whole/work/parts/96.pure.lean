/-! a mirror moved in the row -/
theorem nI_dec (n : Nat) : nI (n + 1) + (-1) = nI n := by
  rw [show ((-1 : Int32)) = -(1 : Int32) from rfl, ← Int32.sub_eq_add_neg]
  exact nI_pred n
def shd (a p : Nat) (x y : Nat → Int32) : Prop := (∀ k, a < k → y k = x k) ∧ (∀ k, k ≤ a → p < k → y k = x (k - 1)) ∧ ∀ k, k ≤ p → y k = x k
theorem shd_0 {a : Nat} {x : Nat → Int32} : shd a a x x := ⟨fun _ _ => rfl, fun k h1 h2 => by omega, fun _ _ => rfl⟩
theorem shd_up {a p c : Nat} {x : Nat → Int32} {g : G} (hp : p + 1 ≤ a) (h : shd a (p + 1) x (g c)) : shd a p x (up g c (p + 1) (x p) c) := by
  obtain ⟨h1, h2, h3⟩ := h
  refine ⟨fun k hk => ?_, fun k k1 k2 => ?_, fun k hk => ?_⟩
  · rw [up_slot (by omega)]; exact h1 k hk
  · by_cases e : k = p + 1
    · subst e; exact up_self
    · rw [up_slot e]; exact h2 k k1 (by omega)
  · rw [up_slot (by omega)]; exact h3 k (by omega)
/-- the row as it is then -/
def mvR (rw : Nat → Nat) (q b p : Nat) : Nat := if p = b then rw q else if q ≤ p ∧ p < b then rw (p + 1) else if b < p ∧ p ≤ q then rw (p - 1) else rw p
theorem mvR_row {g g' : G} {c c' N q b : Nat} {rw : Nat → Nat} (h : isRow g c N rw) (hq : q < N) (hb : b < N) (hg : ∀ p, p < N → g' c' p = nI (mvR rw q b p)) : isRow g' c' N (mvR rw q b) := by
  obtain ⟨h1, h2, h3⟩ := h
  refine ⟨h1, fun p hp => ⟨hg p hp, ?_⟩, fun p p' hp hp' e => ?_⟩
  · unfold mvR
    split
    · exact (h2 q hq).2
    · split
      · exact (h2 (p + 1) (by omega)).2
      · split
        · exact (h2 (p - 1) (by omega)).2
        · exact (h2 p hp).2
  · have key : ∀ p, p < N → ∃ z, z < N ∧ mvR rw q b p = rw z ∧ (p = b → z = q) ∧ (p ≠ b → (q ≤ p ∧ p < b → z = p + 1) ∧ (b < p ∧ p ≤ q → z = p - 1) ∧ (¬ (q ≤ p ∧ p < b) → ¬ (b < p ∧ p ≤ q) → z = p)) := by
      intro p hp
      unfold mvR
      by_cases e1 : p = b
      · rw [if_pos e1]; exact ⟨q, hq, rfl, fun _ => rfl, fun z => absurd e1 z⟩
      · rw [if_neg e1]
        by_cases e2 : q ≤ p ∧ p < b
        · rw [if_pos e2]; exact ⟨p + 1, by omega, rfl, fun z => absurd z e1, fun _ => ⟨fun _ => rfl, fun z => by omega, fun z => absurd e2 z⟩⟩
        · rw [if_neg e2]
          by_cases e3 : b < p ∧ p ≤ q
          · rw [if_pos e3]; exact ⟨p - 1, by omega, rfl, fun z => absurd z e1, fun _ => ⟨fun z => absurd z e2, fun _ => rfl, fun _ z => absurd e3 z⟩⟩
          · rw [if_neg e3]; exact ⟨p, hp, rfl, fun z => absurd z e1, fun _ => ⟨fun z => absurd z e2, fun z => absurd z e3, fun _ _ => rfl⟩⟩
    obtain ⟨z, z1, z2, z3, z4⟩ := key p hp
    obtain ⟨y, y1, y2, y3, y4⟩ := key p' hp'
    have := h3 z y z1 y1 (by rw [← z2, ← y2]; exact e)
    subst this
    by_cases e1 : p = b <;> by_cases e2 : p' = b
    · omega
    · have := z3 e1; have := y4 e2
      by_cases f1 : q ≤ p' ∧ p' < b <;> by_cases f2 : b < p' ∧ p' ≤ q <;> simp only [f1, f2, true_implies, not_true_eq_false, false_implies, not_false_eq_true, implies_true, and_true, true_and] at this <;> omega
    · have := y3 e2; have := z4 e1
      by_cases f1 : q ≤ p ∧ p < b <;> by_cases f2 : b < p ∧ p ≤ q <;> simp only [f1, f2, true_implies, not_true_eq_false, false_implies, not_false_eq_true, implies_true, and_true, true_and] at this <;> omega
    · have h5 := y4 e2; have h6 := z4 e1
      by_cases f1 : q ≤ p ∧ p < b <;> by_cases f2 : b < p ∧ p ≤ q <;> by_cases f3 : q ≤ p' ∧ p' < b <;> by_cases f4 : b < p' ∧ p' ≤ q <;> simp only [f1, f2, f3, f4, true_implies, not_true_eq_false, false_implies, not_false_eq_true, implies_true, and_true, true_and] at h5 h6 <;> omega
theorem shq_mvR {rw : Nat → Nat} {x y : Nat → Int32} {N q b : Nat} (hx : ∀ p, p < N → x p = nI (rw p)) (hb : b < N) (hqb : q ≤ b) (h : shq q b x y) {g : G} {c : Nat} (hg : g c = y) : ∀ p, p < N → up g c b (nI (rw q)) c p = nI (mvR rw q b p) := by
  intro p hp
  unfold mvR
  by_cases e1 : p = b
  · subst e1; rw [up_self, if_pos rfl]
  · rw [up_slot e1, if_neg e1, hg]
    by_cases e2 : q ≤ p ∧ p < b
    · rw [if_pos e2, h.2.1 p e2.1 e2.2, hx _ (by omega)]
    · rw [if_neg e2, if_neg (by omega)]
      by_cases e3 : p < q
      · rw [h.1 p e3, hx p hp]
      · rw [h.2.2 p (by omega), hx p hp]
theorem shd_mvR {rw : Nat → Nat} {x y : Nat → Int32} {N q b : Nat} (hx : ∀ p, p < N → x p = nI (rw p)) (hb : b < N) (hqb : b ≤ q) (h : shd q b x y) {g : G} {c : Nat} (hg : g c = y) : ∀ p, p < N → up g c b (nI (rw q)) c p = nI (mvR rw q b p) := by
  intro p hp
  unfold mvR
  by_cases e1 : p = b
  · subst e1; rw [up_self, if_pos rfl]
  · rw [up_slot e1, if_neg e1, hg, if_neg (by omega)]
    by_cases e2 : b < p ∧ p ≤ q
    · rw [if_pos e2, h.2.1 p e2.2 e2.1, hx _ (by omega)]
    · rw [if_neg e2]
      by_cases e3 : q < p
      · rw [h.1 p e3, hx p hp]
      · rw [h.2.2 p (by omega), hx p hp]
theorem move57 {o q b : Nat} {m : Int32} {g0 : G} (hb : b < 10) : ∀ (d f : Nat) (g : G), b + d ≤ q → q < 10 → d < f → (∀ a, a ≠ o + 4 → g a = g0 a) → shd q (b + d) (g0 (o + 4)) (g (o + 4)) → ∃ g', (∀ a, a ≠ o + 4 → g' a = g0 a) ∧ shd q b (g0 (o + 4)) (g' (o + 4)) ∧ k4_move_57 o f m (nI b) (nI (b + d)) g = some (up (up g' (o + 4) b m) o 13 0) := by
  intro d
  induction d with
  | zero =>
    intro f g hq hq2 hf hg hs
    obtain ⟨f, rfl⟩ : ∃ z, f = z + 1 := ⟨f - 1, by omega⟩
    refine ⟨g, hg, hs, ?_⟩
    unfold k4_move_57
    rw [if_pos (by rw [nI_leI (by omega) (by omega)]; omega), sto_n (by omega) (by omega), bd_eq]
  | succ d ih =>
    intro f g hq hq2 hf hg hs
    obtain ⟨f, rfl⟩ : ∃ z, f = z + 1 := ⟨f - 1, by omega⟩
    obtain ⟨g', k1, k2, k3⟩ := ih f (up g (o + 4) (b + d + 1) (g0 (o + 4) (b + d))) (by omega) hq2 (by omega) (fun a ha => by rw [up_ne ha, hg a ha]) (shd_up (by omega) hs)
    refine ⟨g', k1, k2, ?_⟩
    rw [← k3]
    conv => lhs; unfold k4_move_57
    rw [if_neg (by rw [nI_leI (by omega) (by omega)]; omega), show b + (d + 1) = b + d + 1 from rfl, nI_pred, ld_n (by omega) (by omega), sto_n (by omega) (by omega), bd_eq, nI_dec, hs.2.2 (b + d) (by omega)]
theorem move26 {o q b : Nat} {m v3 : Int32} {g0 : G} (hb : b < 10) : ∀ (d p f : Nat) (g : G), b = p + d → q ≤ p → d < f → (∀ a, a ≠ o + 4 → g a = g0 a) → shq q p (g0 (o + 4)) (g (o + 4)) → ∃ g', (∀ a, a ≠ o + 4 → g' a = g0 a) ∧ shq q b (g0 (o + 4)) (g' (o + 4)) ∧ k4_move_26 o f m (nI b) v3 (nI p) g = k4_move_57 o FU m (nI b) v3 g' := by
  intro d
  induction d with
  | zero =>
    intro p f g hd hq hf hg hs
    obtain ⟨f, rfl⟩ : ∃ z, f = z + 1 := ⟨f - 1, by omega⟩
    obtain rfl : b = p := by omega
    refine ⟨g, hg, hs, ?_⟩
    conv => lhs; unfold k4_move_26
    rw [if_pos (by rw [nI_leI (by omega) (by omega)]; omega)]
  | succ d ih =>
    intro p f g hd hq hf hg hs
    obtain ⟨f, rfl⟩ : ∃ z, f = z + 1 := ⟨f - 1, by omega⟩
    obtain ⟨g', k1, k2, k3⟩ := ih (p + 1) f (up g (o + 4) p (g0 (o + 4) (p + 1))) (by omega) (by omega) (by omega) (fun a ha => by rw [up_ne ha, hg a ha]) (shq_up hq hs)
    refine ⟨g', k1, k2, ?_⟩
    rw [← k3]
    conv => lhs; unfold k4_move_26
    rw [if_neg (by rw [nI_leI (by omega) (by omega)]; omega), nI_1, ld_n (by omega) (by omega), sto_n (by omega) (by omega), bd_eq, hs.2.2 (p + 1) (by omega)]
theorem k4_move_ok {o N q b : Nat} {rw : Nat → Nat} {g : G} (hN : g o 7 = nI N) (hR : isRow g (o + 4) N rw) (hq : q < N) (hb : b < N) : ∃ g', k4_move o (nI (rw q)) (nI b) g = some g' ∧ (∀ a, a ≠ o → a ≠ o + 4 → g' a = g a) ∧ (∀ k, k ≠ 13 → g' o k = g o k) ∧ g' o 13 = 0 ∧ ∀ p, p < N → g' (o + 4) p = nI (mvR rw q b p) := by
  have hN9 := hR.1
  have hstart : k4_move o (nI (rw q)) (nI b) g = k4_move_26 o FU (nI (rw q)) (nI b) (nI q) (nI q) g := by
    unfold k4_move
    rw [k4_find_ok hN hR hq, some_bind, if_neg (nI_pos (by omega)), if_neg (nI_pos (by omega)), hN, if_pos ((nI_ltI (by omega) (by omega)).mpr hb)]
  by_cases e : q ≤ b
  · obtain ⟨g1, f1, f2, f3⟩ := move26 (o := o) (q := q) (b := b) (m := nI (rw q)) (v3 := nI q) (g0 := g) (by omega) (b - q) q FU g (by omega) (by omega) (by unfold FU; omega) (fun _ _ => rfl) shq_0
    have e57 : k4_move_57 o FU (nI (rw q)) (nI b) (nI q) g1 = some (up (up g1 (o + 4) b (nI (rw q))) o 13 0) := by
      show k4_move_57 o (99999 + 1) (nI (rw q)) (nI b) (nI q) g1 = _
      unfold k4_move_57
      rw [if_pos (by rw [nI_leI (by omega) (by omega)]; omega), sto_n (by omega) (by omega), bd_eq]
    refine ⟨_, by rw [hstart, f3, e57], fun a a1 a2 => ?_, fun k hk => ?_, up_self, fun p hp => ?_⟩
    · rw [up_ne a1, up_ne a2, f1 a a2]
    · rw [up_slot hk, up_other (by omega), f1 o (by omega)]
    · rw [up_other (by omega)]
      exact shq_mvR (fun p hp => (hR.2.1 p hp).1) hb e f2 rfl p hp
  · obtain ⟨g1, f1, f2, f3⟩ := move57 (o := o) (q := q) (b := b) (m := nI (rw q)) (g0 := g) (by omega) (q - b) FU g (by omega) (by omega) (by unfold FU; omega) (fun _ _ => rfl) (by rw [show b + (q - b) = q by omega]; exact shd_0)
    rw [show b + (q - b) = q by omega] at f3
    have e26 : k4_move_26 o FU (nI (rw q)) (nI b) (nI q) (nI q) g = k4_move_57 o FU (nI (rw q)) (nI b) (nI q) g := by
      show k4_move_26 o (99999 + 1) (nI (rw q)) (nI b) (nI q) (nI q) g = _
      conv => lhs; unfold k4_move_26
      rw [if_pos (by rw [nI_leI (by omega) (by omega)]; omega)]
    refine ⟨_, by rw [hstart, e26, f3], fun a a1 a2 => ?_, fun k hk => ?_, up_self, fun p hp => ?_⟩
    · rw [up_ne a1, up_ne a2, f1 a a2]
    · rw [up_slot hk, up_other (by omega), f1 o (by omega)]
    · rw [up_other (by omega)]
      exact shd_mvR (fun p hp => (hR.2.1 p hp).1) hb (by omega) f2 rfl p hp
theorem mmove_dn {q b : Nat} {m v3 : Int32} {g0 : G} (hb : b < 10) : ∀ (d f : Nat) (g : G), b + d ≤ q → q < 10 → d < f → (∀ a, a ≠ 83 → g a = g0 a) → shd q (b + d) (g0 83) (g 83) → ∃ g', (∀ a, a ≠ 83 → g' a = g0 a) ∧ shd q b (g0 83) (g' 83) ∧ k11_moveMirror_39 f m (nI b) v3 (-1) (nI (b + d)) g = some (v3, up g' 83 b m) := by
  intro d
  induction d with
  | zero =>
    intro f g hq hq2 hf hg hs
    obtain ⟨f, rfl⟩ : ∃ z, f = z + 1 := ⟨f - 1, by omega⟩
    refine ⟨g, hg, hs, ?_⟩
    unfold k11_moveMirror_39
    rw [if_pos (show nI (b + 0) = nI b from rfl), sto_n (by omega) (by omega)]
  | succ d ih =>
    intro f g hq hq2 hf hg hs
    obtain ⟨f, rfl⟩ : ∃ z, f = z + 1 := ⟨f - 1, by omega⟩
    obtain ⟨g', k1, k2, k3⟩ := ih f (up g 83 (b + d + 1) (g0 83 (b + d))) (by omega) hq2 (by omega) (fun a ha => by rw [up_ne ha, hg a ha]) (shd_up (by omega) hs)
    refine ⟨g', k1, k2, ?_⟩
    rw [← k3]
    conv => lhs; unfold k11_moveMirror_39
    rw [if_neg (by rw [nI_eq (by omega) (by omega)]; omega), show b + (d + 1) = b + d + 1 from rfl, nI_dec, ld_n (by omega) (by omega), sto_n (by omega) (by omega), bd_eq, hs.2.2 (b + d) (by omega)]
theorem mmove_up {q b : Nat} {m v3 : Int32} {g0 : G} (hb : b < 10) : ∀ (d p f : Nat) (g : G), b = p + d → q ≤ p → d < f → (∀ a, a ≠ 83 → g a = g0 a) → shq q p (g0 83) (g 83) → ∃ g', (∀ a, a ≠ 83 → g' a = g0 a) ∧ shq q b (g0 83) (g' 83) ∧ k11_moveMirror_39 f m (nI b) v3 1 (nI p) g = some (v3, up g' 83 b m) := by
  intro d
  induction d with
  | zero =>
    intro p f g hd hq hf hg hs
    obtain ⟨f, rfl⟩ : ∃ z, f = z + 1 := ⟨f - 1, by omega⟩
    obtain rfl : b = p := by omega
    refine ⟨g, hg, hs, ?_⟩
    unfold k11_moveMirror_39
    rw [if_pos rfl, sto_n (by omega) (by omega)]
  | succ d ih =>
    intro p f g hd hq hf hg hs
    obtain ⟨f, rfl⟩ : ∃ z, f = z + 1 := ⟨f - 1, by omega⟩
    obtain ⟨g', k1, k2, k3⟩ := ih (p + 1) f (up g 83 p (g0 83 (p + 1))) (by omega) (by omega) (by omega) (fun a ha => by rw [up_ne ha, hg a ha]) (shq_up hq hs)
    refine ⟨g', k1, k2, ?_⟩
    rw [← k3]
    conv => lhs; unfold k11_moveMirror_39
    rw [if_neg (by rw [nI_eq (by omega) (by omega)]; omega), nI_1, ld_n (by omega) (by omega), sto_n (by omega) (by omega), bd_eq, hs.2.2 (p + 1) (by omega)]
theorem mmove_ok {N q b : Nat} {rw : Nat → Nat} {g : G} (hR : isRow g 83 N rw) (hq : q < N) (hb : b < N) : ∃ g', (if nI b ≤ nI q then k11_moveMirror_34 (nI (rw q)) (nI b) (nI q) (-1) g else k11_moveMirror_34 (nI (rw q)) (nI b) (nI q) 1 g) = some (nI q, g') ∧ (∀ a, a ≠ 83 → g' a = g a) ∧ ∀ p, p < N → g' 83 p = nI (mvR rw q b p) := by
  have hN9 := hR.1
  by_cases e : b ≤ q
  · obtain ⟨g1, f1, f2, f3⟩ := mmove_dn (q := q) (b := b) (m := nI (rw q)) (v3 := nI q) (g0 := g) (by omega) (q - b) FU g (by omega) (by omega) (by unfold FU; omega) (fun _ _ => rfl) (by rw [show b + (q - b) = q by omega]; exact shd_0)
    rw [show b + (q - b) = q by omega] at f3
    refine ⟨_, by rw [if_pos ((nI_leI (by omega) (by omega)).mpr e)]; exact f3, fun a ha => by rw [up_ne ha, f1 a ha], fun p hp => ?_⟩
    exact shd_mvR (fun p hp => (hR.2.1 p hp).1) hb e f2 rfl p hp
  · obtain ⟨g1, f1, f2, f3⟩ := mmove_up (q := q) (b := b) (m := nI (rw q)) (v3 := nI q) (g0 := g) (by omega) (b - q) q FU g (by omega) (by omega) (by unfold FU; omega) (fun _ _ => rfl) shq_0
    refine ⟨_, by rw [if_neg (by rw [nI_leI (by omega) (by omega)]; exact e)]; exact f3, fun a ha => by rw [up_ne ha, f1 a ha], fun p hp => ?_⟩
    exact shq_mvR (fun p hp => (hR.2.1 p hp).1) hb (by omega) f2 rfl p hp
theorem p_moveMirror : S_moveMirror Inv := by
  intro n g f a b h
  obtain ⟨N, J, rw, h⟩ := h
  have hN9 := h.R.N9
  by_cases hm : ¬ a < 0 ∧ a < nI N
  · obtain ⟨m, hm1, rfl⟩ := (in_c (by omega)).mp hm
    by_cases hv : ¬ b < 0 ∧ b < nI N
    · obtain ⟨b, hb1, rfl⟩ := (in_c (by omega)).mp hv
      obtain ⟨q, hq, rfl⟩ := h.R.row.at hm1
      obtain ⟨g1, c0, c1, c2, c3, c4⟩ := k4_move_ok h.R.1 h.R.row hq hb1
      have h1R : isRow (up (up g1 47 0 0) 47 0 0) 83 N rw := isRow_same (by rw [up_ne (by decide), up_ne (by decide), c1 83 (by decide) (by decide)]) h.R.mrow
      obtain ⟨g2, m0, m1, m2⟩ := mmove_ok h1R hq hb1
      have h54 : g1 54 0 = nI N := by rw [c1 54 (by decide) (by decide)]; exact h.R.2.1
      refine ⟨(0, g1, vp_updL f 0 (nI q).toInt64), (nI q, g2), ?_, ?_, ?_, fun _ => rfl, InvC.next (N := N) (J := J) (rw := mvR rw q b) ?_⟩
      · unfold w_moveMirror k8_moveMirror
        rw [chk_in h.R.1 hN9 hm1, xb_0, if_neg hv.1, h.R.1, if_pos hv.2, k4_find_ok h.R.1 h.R.row hq, some_bind, c0]
        exact wr1_0
      · unfold k11_moveMirror
        show (k11_isMirror (nI (rw q)) g1).bind _ = _
        rw [isM_in h54 hN9 hm1, some_bind]
        dsimp only
        rw [if_neg (by decide), isM_in (by rw [up_other (by decide)]; exact h54) hN9 hb1, some_bind]
        dsimp only
        rw [if_neg (by decide), k11_place_ok h1R hq, some_bind, m0]
      · show g2 47 0 = 0
        rw [m1 47 (by decide), up_self]
      · show InvC n N J (mvR rw q b) g2
        obtain ⟨a1, a2, a3, a4, a5, a6, ⟨d, d1, d2⟩, a7⟩ := h
        have hf : ∀ x, x ≠ 22 → x ≠ 26 → x ≠ 83 → x ≠ 47 → g2 x = g x := fun x x1 x2 x3 x4 => by rw [m1 x x3, up_ne x4, up_ne x4, c1 x x1 x2]
        have h22 : ∀ k, k ≠ 13 → g2 22 k = g 22 k := fun k hk => by rw [m1 22 (by decide), up_other (by decide), up_other (by decide), c2 k hk]
        have h47 : ∀ k, k ≠ 0 → g2 47 k = g 47 k := fun k hk => by rw [m1 47 (by decide), up_slot hk, up_slot hk, c1 47 (by decide) (by decide)]
        obtain ⟨r1, r2, r3, r4, r5, r6, r7, r8, r9⟩ := a3
        refine ⟨a1.frame (hf 1 (by decide) (by decide) (by decide) (by decide)) (hf 2 (by decide) (by decide) (by decide) (by decide)) (hf 48 (by decide) (by decide) (by decide) (by decide)) (h47 2 (by decide)), ?_, ⟨?_, ?_, ?_, ?_, ?_, ?_, fun j hj => ?_, Or.inl ?_, ?_⟩, a4.frame (hf 80 (by decide) (by decide) (by decide) (by decide)) (hf 81 (by decide) (by decide) (by decide) (by decide)) (hf 82 (by decide) (by decide) (by decide) (by decide)), a5.frame (fun x hx => hf x (by omega) (by omega) (by omega) (by omega)), ?_, ⟨d, d1, ?_⟩, a7.frame (fun x hx => hf x (by omega) (by omega) (by omega) (by omega))⟩
        · rw [hf 0 (by decide) (by decide) (by decide) (by decide), h47 3 (by decide)]; exact a2
        · rw [h22 7 (by decide)]; exact r1
        · rw [hf 54 (by decide) (by decide) (by decide) (by decide)]; exact r2
        · rw [h22 8 (by decide), hf 54 (by decide) (by decide) (by decide) (by decide)]; exact r3
        · rw [h22 9 (by decide), hf 54 (by decide) (by decide) (by decide) (by decide)]; exact r4
        · refine mvR_row r5 hq hb1 (fun p hp => ?_)
          rw [m1 _ (by decide), up_other (by decide), up_other (by decide)]
          exact c4 p hp
        · exact mvR_row r6 hq hb1 m2
        · rw [hf (22 + 1) (by decide) (by decide) (by decide) (by decide), hf (22 + 2) (by decide) (by decide) (by decide) (by decide), hf (22 + 3) (by decide) (by decide) (by decide) (by decide), hf (79 + 1) (by decide) (by decide) (by decide) (by decide), hf (79 + 2) (by decide) (by decide) (by decide) (by decide), hf (79 + 3) (by decide) (by decide) (by decide) (by decide)]
          exact r7 j hj
        · rw [m1 22 (by decide), up_other (by decide), up_other (by decide)]; exact c3
        · rw [h22 10 (by decide), covOf_same (hf 79 (by decide) (by decide) (by decide) (by decide)) (hf (79 + 6) (by decide) (by decide) (by decide) (by decide))]; exact r9
        · rw [hf 21 (by decide) (by decide) (by decide) (by decide), hf 79 (by decide) (by decide) (by decide) (by decide)]; exact a6
        · rw [hf 30 (by decide) (by decide) (by decide) (by decide)]; exact d2
    · refine ⟨(1, g, f), (0, up (up g 47 0 0) 47 0 1), ?_, ?_, by show up (up g 47 0 0) 47 0 1 47 0 = 1; exact up_self, fun h => absurd h (by show ¬ (1 : Int32) = 0; decide), h.thrown.thrown.next⟩
      · unfold w_moveMirror k8_moveMirror k8_moveMirror_23
        rw [chk_in h.R.1 hN9 hm1, xb_0]
        by_cases h1 : b < 0
        · rw [if_pos h1]; exact wr1_e (by decide)
        · rw [if_neg h1, h.R.1, if_neg (fun h2 => hv ⟨h1, h2⟩)]; exact wr1_e (by decide)
      · unfold k11_moveMirror
        show (k11_isMirror (nI m) g).bind _ = _
        rw [isM_in h.R.2.1 hN9 hm1, some_bind]
        dsimp only
        rw [if_neg (by decide), isM_out (by rw [up_other (by decide)]; exact h.R.2.1) hN9 hv, some_bind, if_pos rfl]
  · refine ⟨(1, g, f), (0, up g 47 0 1), ?_, ?_, by show up g 47 0 1 47 0 = 1; exact up_self, fun h => absurd h (by show ¬ (1 : Int32) = 0; decide), h.thrown.next⟩
    · unfold w_moveMirror k8_moveMirror
      rw [chk_out h.R.1 hm, xb_e (by decide)]
      exact wr1_e (by decide)
    · unfold k11_moveMirror
      show (k11_isMirror a g).bind _ = _
      rw [isM_out h.R.2.1 hN9 hm, some_bind, if_pos rfl]
