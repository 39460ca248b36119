theorem inj_surj : ∀ (N : Nat) (rw : Nat → Nat), (∀ p, p < N → rw p < N) → (∀ p q, p < N → q < N → rw p = rw q → p = q) → ∀ m, m < N → ∃ p, p < N ∧ rw p = m := by
  intro N
  induction N with
  | zero => intro rw _ _ m hm; omega
  | succ N ih =>
    intro rw h1 h2 m hm
    have hlt : ∀ p, p < N → (if rw p = N then rw N else rw p) < N := by
      intro p hp
      by_cases e : rw p = N
      · rw [if_pos e]
        have := h1 N (by omega)
        rcases Nat.lt_or_ge (rw N) N with q | q
        · exact q
        · have e2 : rw p = rw N := by omega
          have := h2 p N (by omega) (by omega) e2
          omega
      · rw [if_neg e]
        have := h1 p (by omega)
        omega
    have hin : ∀ p q, p < N → q < N → (if rw p = N then rw N else rw p) = (if rw q = N then rw N else rw q) → p = q := by
      intro p q hp hq e
      by_cases ep : rw p = N <;> by_cases eq : rw q = N
      · exact h2 p q (by omega) (by omega) (by omega)
      · rw [if_pos ep, if_neg eq] at e
        have := h2 N q (by omega) (by omega) e
        omega
      · rw [if_neg ep, if_pos eq] at e
        have := h2 p N (by omega) (by omega) e
        omega
      · rw [if_neg ep, if_neg eq] at e
        exact h2 p q (by omega) (by omega) e
    have key := ih (fun p => if rw p = N then rw N else rw p) hlt hin
    by_cases hk : m = rw N
    · exact ⟨N, by omega, hk.symm⟩
    · by_cases hmN : m = N
      · have hkN : rw N < N := by
          have := h1 N (by omega)
          omega
        obtain ⟨p, hp, he⟩ := key (rw N) hkN
        by_cases ep : rw p = N
        · exact ⟨p, by omega, by omega⟩
        · have he : (if rw p = N then rw N else rw p) = rw N := he
          rw [if_neg ep] at he
          have := h2 p N (by omega) (by omega) he
          omega
      · obtain ⟨p, hp, he⟩ := key m (by omega)
        have he : (if rw p = N then rw N else rw p) = m := he
        by_cases ep : rw p = N
        · rw [if_pos ep] at he
          omega
        · rw [if_neg ep] at he
          exact ⟨p, by omega, he⟩
theorem isRow.at {g : G} {c N m : Nat} {rw : Nat → Nat} (h : isRow g c N rw) (hm : m < N) : ∃ p, p < N ∧ rw p = m := inj_surj N rw (fun p hp => (h.2.1 p hp).2) h.2.2 m hm
theorem chkJ_in {k J : Nat} {g : G} (hJ : g 30 2 = nI J) (hJ9 : J ≤ 12) (h : k < J) : k8_checkJob (nI k) g = some (0, 0, g) := by
  unfold k8_checkJob
  rw [if_neg (nI_pos (by omega)), hJ, if_pos ((nI_ltI (by omega) (by omega)).mpr h)]
theorem k4_find_loop {o N q : Nat} {g : G} {rw : Nat → Nat} (hN : g o 7 = nI N) (hR : isRow g (o + 4) N rw) (hq : q < N) : ∀ (d p f : Nat), q = p + d → d < f → k4_findPlace_2 o g f (nI (rw q)) (nI p) = some (nI q) := by
  obtain ⟨hN9, hr, hinj⟩ := hR
  have hb : ∀ p, p < N → rw p < 2 ^ 31 := fun p hp => by have := (hr p hp).2; omega
  intro d
  induction d with
  | zero =>
    intro p f hd hf
    obtain ⟨f, rfl⟩ : ∃ z, f = z + 1 := ⟨f - 1, by omega⟩
    obtain rfl : q = p := by omega
    unfold k4_findPlace_2
    rw [hN, if_neg (by rw [nI_leI (by omega) (by omega)]; omega), ld_n (by omega) (by omega), (hr q hq).1, if_pos rfl]
  | succ d ih =>
    intro p f hd hf
    obtain ⟨f, rfl⟩ : ∃ z, f = z + 1 := ⟨f - 1, by omega⟩
    have hp : p < N := by omega
    unfold k4_findPlace_2
    rw [hN, if_neg (by rw [nI_leI (by omega) (by omega)]; omega), ld_n (by omega) (by omega), (hr p hp).1, if_neg (fun e => by
      have := hinj p q hp hq ((nI_eq (hb p hp) (hb q hq)).mp e)
      omega), bd_eq, nI_1]
    exact ih (p + 1) f (by omega) (by omega)
theorem k4_find_ok {o N q : Nat} {g : G} {rw : Nat → Nat} (hN : g o 7 = nI N) (hR : isRow g (o + 4) N rw) (hq : q < N) : k4_findPlace o (nI (rw q)) g = some (nI q) := k4_find_loop hN hR hq q 0 FU (by omega) (by have := hR.1; unfold FU; omega)
theorem lit_le {M : Int32} {k T : Nat} (hM : M = nI k) (hk : k < 2 ^ 31) (hT : T < 2 ^ 31) : M ≤ nI T ↔ k ≤ T := by
  rw [hM, nI_leI hk hT]
def shq (a p : Nat) (x y : Nat → Int32) : Prop := (∀ k, k < a → y k = x k) ∧ (∀ k, a ≤ k → k < p → y k = x (k + 1)) ∧ ∀ k, p ≤ k → y k = x k
theorem shq_0 {a : Nat} {x : Nat → Int32} : shq a a x x := ⟨fun _ _ => rfl, fun k h1 h2 => by omega, fun _ _ => rfl⟩
theorem shq_up {a p c : Nat} {x : Nat → Int32} {g : G} (hp : a ≤ p) (h : shq a p x (g c)) : shq a (p + 1) x (up g c p (x (p + 1)) c) := by
  obtain ⟨h1, h2, h3⟩ := h
  refine ⟨fun k hk => ?_, fun k k1 k2 => ?_, fun k hk => ?_⟩
  · rw [up_slot (by omega)]; exact h1 k hk
  · by_cases e : k = p
    · subst e; exact up_self
    · rw [up_slot e]; exact h2 k k1 (by omega)
  · rw [up_slot (by omega)]; exact h3 k (by omega)
theorem shq_ne {a p c o j : Nat} {x : Nat → Int32} {g : G} {v : Int32} (hc : c ≠ o) (h : shq a p x (g c)) : shq a p x (up g o j v c) := by
  rw [up_ne hc]; exact h
theorem remove_loop {o a J : Nat} {g0 : G} (hJ : J ≤ 11) (ha : a ≤ J) (hN : g0 o 2 = nI J) : ∀ (d p f : Nat) (g : G), J = p + d → d < f → a ≤ p → (∀ b, b ≠ o + 1 → b ≠ o + 2 → g b = g0 b) → shq a p (g0 (o + 1)) (g (o + 1)) → shq a p (g0 (o + 2)) (g (o + 2)) → ∃ g', (∀ b, b ≠ o + 1 → b ≠ o + 2 → g' b = g0 b) ∧ shq a J (g0 (o + 1)) (g' (o + 1)) ∧ shq a J (g0 (o + 2)) (g' (o + 2)) ∧ k3_remove_25 o f (nI a) (nI p) g = some (if a = 0 then up g' o 3 0 else g') := by
  intro d
  induction d with
  | zero =>
    intro p f g hd hf hap hg h1 h2
    obtain ⟨f, rfl⟩ : ∃ z, f = z + 1 := ⟨f - 1, by omega⟩
    obtain rfl : J = p := by omega
    refine ⟨g, hg, h1, h2, ?_⟩
    unfold k3_remove_25
    rw [hg o (by omega) (by omega), hN, if_pos (by rw [nI_leI (by omega) (by omega)]; omega)]
    by_cases e : a = 0
    · rw [if_pos (by rw [e]; rfl), if_pos e, bd_eq]
    · rw [if_neg (by rw [show (0 : Int32) = nI 0 from rfl, nI_eq (by omega) (by omega)]; exact e), if_neg e]
  | succ d ih =>
    intro p f g hd hf hap hg h1 h2
    obtain ⟨f, rfl⟩ : ∃ z, f = z + 1 := ⟨f - 1, by omega⟩
    obtain ⟨g', k1, k2, k3, k4⟩ := ih (p + 1) f (up (up g (o + 1) p (g0 (o + 1) (p + 1))) (o + 2) p (g0 (o + 2) (p + 1))) (by omega) (by omega) (by omega) (fun b b1 b2 => by rw [up_ne b2, up_ne b1, hg b b1 b2]) (shq_ne (by omega) (shq_up hap h1)) (by
      have := shq_up hap (shq_ne (o := o + 1) (j := p) (v := g0 (o + 1) (p + 1)) (show o + 2 ≠ o + 1 by omega) h2)
      exact this)
    refine ⟨g', k1, k2, k3, ?_⟩
    rw [← k4]
    conv => lhs; unfold k3_remove_25
    rw [hg o (by omega) (by omega), hN, if_neg (by rw [nI_leI (by omega) (by omega)]; omega), nI_1, ld_n (by omega) (by omega), sto_n (by omega) (by omega), ld_n (by omega) (by omega), sto_n (by omega) (by omega), bd_eq, up_other (by omega), h1.2.2 (p + 1) (by omega), h2.2.2 (p + 1) (by omega)]
theorem drop_c {o a J : Nat} {g : G} (hJ : J ≤ 11) (ha : a ≤ J) (hN : g (o + 9) 2 = nI (J + 1)) : ∃ g', k7_dropJob o (nI a) g = some g' ∧ (∀ b, b ≠ o + 1 → b ≠ o + 9 → b ≠ o + 9 + 1 → b ≠ o + 9 + 2 → g' b = g b) ∧ (∀ k, k ≠ 10 → k ≠ 13 → g' (o + 1) k = g (o + 1) k) ∧ (a = 0 → g' (o + 1) 10 = -1 ∧ g' (o + 1) 13 = 0) ∧ (a ≠ 0 → g' (o + 1) = g (o + 1)) ∧ g' (o + 9) 2 = nI J ∧ g' (o + 9) 3 = (if a = 0 then 0 else g (o + 9) 3) ∧ g' (o + 9) 4 = g (o + 9) 4 ∧ shq a J (g (o + 9 + 1)) (g' (o + 9 + 1)) ∧ shq a J (g (o + 9 + 2)) (g' (o + 9 + 2)) := by
  obtain ⟨g1, f1, f2, f3, f4⟩ := remove_loop (o := o + 9) (a := a) (J := J) (g0 := up g (o + 9) 2 (nI J)) hJ ha up_self (J - a) a FU (up g (o + 9) 2 (nI J)) (by omega) (by unfold FU; omega) (by omega) (fun _ _ _ => rfl) shq_0 shq_0
  rw [up_ne (by omega)] at f2 f3
  have hrem : k3_remove (o + 9) (nI a) g = some (if a = 0 then up g1 (o + 9) 3 0 else g1) := by
    unfold k3_remove
    rw [if_neg (nI_pos (by omega)), hN, if_pos ((nI_ltI (by omega) (by omega)).mpr (by omega)), bd_eq, nI_pred, f4]
  have e9 : g1 (o + 9) = up g (o + 9) 2 (nI J) (o + 9) := f1 (o + 9) (by omega) (by omega)
  by_cases e : a = 0
  · subst e
    rw [if_pos rfl] at hrem
    refine ⟨up (up (up g1 (o + 9) 3 0) (o + 1) 10 (-1)) (o + 1) 13 0, ?_, fun b b1 b2 b3 b4 => ?_, fun k k1 k2 => ?_, fun _ => ⟨?_, ?_⟩, fun q => absurd rfl q, ?_, ?_, ?_, ?_, ?_⟩
    · unfold k7_dropJob
      rw [hrem, some_bind, if_pos (show nI 0 = 0 from rfl)]
      rfl
    · rw [up_ne b1, up_ne b1, up_ne b2, f1 b b3 b4, up_ne b2]
    · rw [up_slot k2, up_slot k1, up_other (by omega), f1 _ (by omega) (by omega), up_other (by omega)]
    · rw [up_slot (by decide), up_self]
    · rw [up_self]
    · rw [up_other (by omega), up_other (by omega), up_slot (by decide), e9, up_self]
    · rw [up_other (by omega), up_other (by omega), up_self, if_pos rfl]
    · rw [up_other (by omega), up_other (by omega), up_slot (by decide), e9, up_slot (by decide)]
    · rw [up_ne (by omega), up_ne (by omega), up_ne (by omega)]
      exact f2
    · rw [up_ne (by omega), up_ne (by omega), up_ne (by omega)]
      exact f3
  · rw [if_neg e] at hrem
    refine ⟨g1, ?_, fun b b1 b2 b3 b4 => ?_, fun k k1 k2 => ?_, fun q => absurd q e, fun _ => ?_, ?_, ?_, ?_, f2, f3⟩
    · unfold k7_dropJob
      rw [hrem, some_bind, if_neg (by rw [show (0 : Int32) = nI 0 from rfl, nI_eq (by omega) (by omega)]; exact e)]
    · rw [f1 b b3 b4, up_ne b2]
    · rw [f1 _ (by omega) (by omega), up_other (by omega)]
    · rw [f1 _ (by omega) (by omega), up_ne (by omega)]
    · rw [e9, up_self]
    · rw [e9, up_slot (by decide), if_neg e]
    · rw [e9, up_slot (by decide)]
theorem nI_dec (n : Nat) : nI (n + 1) + (-1) = nI n := by
  rw [show ((-1 : Int32)) = -(1 : Int32) from rfl, ← Int32.sub_eq_add_neg]
  exact nI_pred n
def shd (a p : Nat) (x y : Nat → Int32) : Prop := (∀ k, a < k → y k = x k) ∧ (∀ k, k ≤ a → p < k → y k = x (k - 1)) ∧ ∀ k, k ≤ p → y k = x k
theorem shd_0 {a : Nat} {x : Nat → Int32} : shd a a x x := ⟨fun _ _ => rfl, fun k h1 h2 => by omega, fun _ _ => rfl⟩
theorem shd_up {a p c : Nat} {x : Nat → Int32} {g : G} (hp : p + 1 ≤ a) (h : shd a (p + 1) x (g c)) : shd a p x (up g c (p + 1) (x p) c) := by
  obtain ⟨h1, h2, h3⟩ := h
  refine ⟨fun k hk => ?_, fun k k1 k2 => ?_, fun k hk => ?_⟩
  · rw [up_slot (by omega)]; exact h1 k hk
  · by_cases e : k = p + 1
    · subst e; exact up_self
    · rw [up_slot e]; exact h2 k k1 (by omega)
  · rw [up_slot (by omega)]; exact h3 k (by omega)
def mvR (rw : Nat → Nat) (q b p : Nat) : Nat := if p = b then rw q else if q ≤ p ∧ p < b then rw (p + 1) else if b < p ∧ p ≤ q then rw (p - 1) else rw p
theorem mvR_row {g g' : G} {c c' N q b : Nat} {rw : Nat → Nat} (h : isRow g c N rw) (hq : q < N) (hb : b < N) (hg : ∀ p, p < N → g' c' p = nI (mvR rw q b p)) : isRow g' c' N (mvR rw q b) := by
  obtain ⟨h1, h2, h3⟩ := h
  refine ⟨h1, fun p hp => ⟨hg p hp, ?_⟩, fun p p' hp hp' e => ?_⟩
  · unfold mvR
    split
    · exact (h2 q hq).2
    · split
      · exact (h2 (p + 1) (by omega)).2
      · split
        · exact (h2 (p - 1) (by omega)).2
        · exact (h2 p hp).2
  · have key : ∀ p, p < N → ∃ z, z < N ∧ mvR rw q b p = rw z ∧ (p = b → z = q) ∧ (p ≠ b → (q ≤ p ∧ p < b → z = p + 1) ∧ (b < p ∧ p ≤ q → z = p - 1) ∧ (¬ (q ≤ p ∧ p < b) → ¬ (b < p ∧ p ≤ q) → z = p)) := by
      intro p hp
      unfold mvR
      by_cases e1 : p = b
      · rw [if_pos e1]; exact ⟨q, hq, rfl, fun _ => rfl, fun z => absurd e1 z⟩
      · rw [if_neg e1]
        by_cases e2 : q ≤ p ∧ p < b
        · rw [if_pos e2]; exact ⟨p + 1, by omega, rfl, fun z => absurd z e1, fun _ => ⟨fun _ => rfl, fun z => by omega, fun z => absurd e2 z⟩⟩
        · rw [if_neg e2]
          by_cases e3 : b < p ∧ p ≤ q
          · rw [if_pos e3]; exact ⟨p - 1, by omega, rfl, fun z => absurd z e1, fun _ => ⟨fun z => absurd z e2, fun _ => rfl, fun _ z => absurd e3 z⟩⟩
          · rw [if_neg e3]; exact ⟨p, hp, rfl, fun z => absurd z e1, fun _ => ⟨fun z => absurd z e2, fun z => absurd z e3, fun _ _ => rfl⟩⟩
    obtain ⟨z, z1, z2, z3, z4⟩ := key p hp
    obtain ⟨y, y1, y2, y3, y4⟩ := key p' hp'
    have := h3 z y z1 y1 (by rw [← z2, ← y2]; exact e)
    subst this
    by_cases e1 : p = b <;> by_cases e2 : p' = b
    · omega
    · have := z3 e1; have := y4 e2
      by_cases f1 : q ≤ p' ∧ p' < b <;> by_cases f2 : b < p' ∧ p' ≤ q <;> simp only [f1, f2, true_implies, not_true_eq_false, false_implies, not_false_eq_true, implies_true, and_true, true_and] at this <;> omega
    · have := y3 e2; have := z4 e1
      by_cases f1 : q ≤ p ∧ p < b <;> by_cases f2 : b < p ∧ p ≤ q <;> simp only [f1, f2, true_implies, not_true_eq_false, false_implies, not_false_eq_true, implies_true, and_true, true_and] at this <;> omega
    · have h5 := y4 e2; have h6 := z4 e1
      by_cases f1 : q ≤ p ∧ p < b <;> by_cases f2 : b < p ∧ p ≤ q <;> by_cases f3 : q ≤ p' ∧ p' < b <;> by_cases f4 : b < p' ∧ p' ≤ q <;> simp only [f1, f2, f3, f4, true_implies, not_true_eq_false, false_implies, not_false_eq_true, implies_true, and_true, true_and] at h5 h6 <;> omega
theorem shq_mvR {rw : Nat → Nat} {x y : Nat → Int32} {N q b : Nat} (hx : ∀ p, p < N → x p = nI (rw p)) (hb : b < N) (hqb : q ≤ b) (h : shq q b x y) {g : G} {c : Nat} (hg : g c = y) : ∀ p, p < N → up g c b (nI (rw q)) c p = nI (mvR rw q b p) := by
  intro p hp
  unfold mvR
  by_cases e1 : p = b
  · subst e1; rw [up_self, if_pos rfl]
  · rw [up_slot e1, if_neg e1, hg]
    by_cases e2 : q ≤ p ∧ p < b
    · rw [if_pos e2, h.2.1 p e2.1 e2.2, hx _ (by omega)]
    · rw [if_neg e2, if_neg (by omega)]
      by_cases e3 : p < q
      · rw [h.1 p e3, hx p hp]
      · rw [h.2.2 p (by omega), hx p hp]
theorem shd_mvR {rw : Nat → Nat} {x y : Nat → Int32} {N q b : Nat} (hx : ∀ p, p < N → x p = nI (rw p)) (hb : b < N) (hqb : b ≤ q) (h : shd q b x y) {g : G} {c : Nat} (hg : g c = y) : ∀ p, p < N → up g c b (nI (rw q)) c p = nI (mvR rw q b p) := by
  intro p hp
  unfold mvR
  by_cases e1 : p = b
  · subst e1; rw [up_self, if_pos rfl]
  · rw [up_slot e1, if_neg e1, hg, if_neg (by omega)]
    by_cases e2 : b < p ∧ p ≤ q
    · rw [if_pos e2, h.2.1 p e2.2 e2.1, hx _ (by omega)]
    · rw [if_neg e2]
      by_cases e3 : q < p
      · rw [h.1 p e3, hx p hp]
      · rw [h.2.2 p (by omega), hx p hp]
theorem move57 {o q b : Nat} {m : Int32} {g0 : G} (hb : b < 10) : ∀ (d f : Nat) (g : G), b + d ≤ q → q < 10 → d < f → (∀ a, a ≠ o + 4 → g a = g0 a) → shd q (b + d) (g0 (o + 4)) (g (o + 4)) → ∃ g', (∀ a, a ≠ o + 4 → g' a = g0 a) ∧ shd q b (g0 (o + 4)) (g' (o + 4)) ∧ k4_move_57 o f m (nI b) (nI (b + d)) g = some (up (up g' (o + 4) b m) o 13 0) := by
  intro d
  induction d with
  | zero =>
    intro f g hq hq2 hf hg hs
    obtain ⟨f, rfl⟩ : ∃ z, f = z + 1 := ⟨f - 1, by omega⟩
    refine ⟨g, hg, hs, ?_⟩
    unfold k4_move_57
    rw [if_pos (by rw [nI_leI (by omega) (by omega)]; omega), sto_n (by omega) (by omega), bd_eq]
  | succ d ih =>
    intro f g hq hq2 hf hg hs
    obtain ⟨f, rfl⟩ : ∃ z, f = z + 1 := ⟨f - 1, by omega⟩
    obtain ⟨g', k1, k2, k3⟩ := ih f (up g (o + 4) (b + d + 1) (g0 (o + 4) (b + d))) (by omega) hq2 (by omega) (fun a ha => by rw [up_ne ha, hg a ha]) (shd_up (by omega) hs)
    refine ⟨g', k1, k2, ?_⟩
    rw [← k3]
    conv => lhs; unfold k4_move_57
    rw [if_neg (by rw [nI_leI (by omega) (by omega)]; omega), show b + (d + 1) = b + d + 1 from rfl, nI_pred, ld_n (by omega) (by omega), sto_n (by omega) (by omega), bd_eq, nI_dec, hs.2.2 (b + d) (by omega)]
theorem move26 {o q b : Nat} {m v3 : Int32} {g0 : G} (hb : b < 10) : ∀ (d p f : Nat) (g : G), b = p + d → q ≤ p → d < f → (∀ a, a ≠ o + 4 → g a = g0 a) → shq q p (g0 (o + 4)) (g (o + 4)) → ∃ g', (∀ a, a ≠ o + 4 → g' a = g0 a) ∧ shq q b (g0 (o + 4)) (g' (o + 4)) ∧ k4_move_26 o f m (nI b) v3 (nI p) g = k4_move_57 o FU m (nI b) v3 g' := by
  intro d
  induction d with
  | zero =>
    intro p f g hd hq hf hg hs
    obtain ⟨f, rfl⟩ : ∃ z, f = z + 1 := ⟨f - 1, by omega⟩
    obtain rfl : b = p := by omega
    refine ⟨g, hg, hs, ?_⟩
    conv => lhs; unfold k4_move_26
    rw [if_pos (by rw [nI_leI (by omega) (by omega)]; omega)]
  | succ d ih =>
    intro p f g hd hq hf hg hs
    obtain ⟨f, rfl⟩ : ∃ z, f = z + 1 := ⟨f - 1, by omega⟩
    obtain ⟨g', k1, k2, k3⟩ := ih (p + 1) f (up g (o + 4) p (g0 (o + 4) (p + 1))) (by omega) (by omega) (by omega) (fun a ha => by rw [up_ne ha, hg a ha]) (shq_up hq hs)
    refine ⟨g', k1, k2, ?_⟩
    rw [← k3]
    conv => lhs; unfold k4_move_26
    rw [if_neg (by rw [nI_leI (by omega) (by omega)]; omega), nI_1, ld_n (by omega) (by omega), sto_n (by omega) (by omega), bd_eq, hs.2.2 (p + 1) (by omega)]
theorem k4_move_ok {o N q b : Nat} {rw : Nat → Nat} {g : G} (hN : g o 7 = nI N) (hR : isRow g (o + 4) N rw) (hq : q < N) (hb : b < N) : ∃ g', k4_move o (nI (rw q)) (nI b) g = some g' ∧ (∀ a, a ≠ o → a ≠ o + 4 → g' a = g a) ∧ (∀ k, k ≠ 13 → g' o k = g o k) ∧ g' o 13 = 0 ∧ ∀ p, p < N → g' (o + 4) p = nI (mvR rw q b p) := by
  have hN9 := hR.1
  have hstart : k4_move o (nI (rw q)) (nI b) g = k4_move_26 o FU (nI (rw q)) (nI b) (nI q) (nI q) g := by
    unfold k4_move
    rw [k4_find_ok hN hR hq, some_bind, if_neg (nI_pos (by omega)), if_neg (nI_pos (by omega)), hN, if_pos ((nI_ltI (by omega) (by omega)).mpr hb)]
  by_cases e : q ≤ b
  · obtain ⟨g1, f1, f2, f3⟩ := move26 (o := o) (q := q) (b := b) (m := nI (rw q)) (v3 := nI q) (g0 := g) (by omega) (b - q) q FU g (by omega) (by omega) (by unfold FU; omega) (fun _ _ => rfl) shq_0
    have e57 : k4_move_57 o FU (nI (rw q)) (nI b) (nI q) g1 = some (up (up g1 (o + 4) b (nI (rw q))) o 13 0) := by
      show k4_move_57 o (99999 + 1) (nI (rw q)) (nI b) (nI q) g1 = _
      unfold k4_move_57
      rw [if_pos (by rw [nI_leI (by omega) (by omega)]; omega), sto_n (by omega) (by omega), bd_eq]
    refine ⟨_, by rw [hstart, f3, e57], fun a a1 a2 => ?_, fun k hk => ?_, up_self, fun p hp => ?_⟩
    · rw [up_ne a1, up_ne a2, f1 a a2]
    · rw [up_slot hk, up_other (by omega), f1 o (by omega)]
    · rw [up_other (by omega)]
      exact shq_mvR (fun p hp => (hR.2.1 p hp).1) hb e f2 rfl p hp
  · obtain ⟨g1, f1, f2, f3⟩ := move57 (o := o) (q := q) (b := b) (m := nI (rw q)) (g0 := g) (by omega) (q - b) FU g (by omega) (by omega) (by unfold FU; omega) (fun _ _ => rfl) (by rw [show b + (q - b) = q by omega]; exact shd_0)
    rw [show b + (q - b) = q by omega] at f3
    have e26 : k4_move_26 o FU (nI (rw q)) (nI b) (nI q) (nI q) g = k4_move_57 o FU (nI (rw q)) (nI b) (nI q) g := by
      show k4_move_26 o (99999 + 1) (nI (rw q)) (nI b) (nI q) (nI q) g = _
      conv => lhs; unfold k4_move_26
      rw [if_pos (by rw [nI_leI (by omega) (by omega)]; omega)]
    refine ⟨_, by rw [hstart, e26, f3], fun a a1 a2 => ?_, fun k hk => ?_, up_self, fun p hp => ?_⟩
    · rw [up_ne a1, up_ne a2, f1 a a2]
    · rw [up_slot hk, up_other (by omega), f1 o (by omega)]
    · rw [up_other (by omega)]
      exact shd_mvR (fun p hp => (hR.2.1 p hp).1) hb (by omega) f2 rfl p hp
theorem litOf.ok {o N : Nat} {rw : Nat → Nat} {g g' : G} (h : litOf o rw N g g') : litOK o g' rw N := by
  obtain ⟨h1, h2, h3, h4, h5, h6⟩ := h
  have e1 : g' (o + 1) = g (o + 1) := h1 _ (by omega) (by omega) (by omega) (by omega)
  have e3 : g' (o + 3) = g (o + 3) := h1 _ (by omega) (by omega) (by omega) (by omega)
  refine Or.inr ⟨h3, ?_, ?_, ?_⟩
  · rw [e1, e3, h2 8 (by decide) (by decide) (by decide), h2 10 (by decide) (by decide) (by decide)]; exact h4
  · rw [e1, e3, h2 8 (by decide) (by decide) (by decide), h2 10 (by decide) (by decide) (by decide)]; exact h5
  · rw [e3]; exact h6
theorem cpy_ne {g : G} {a b n o : Nat} (h : o ≠ b) : cpy g a b n o = g o := by
  funext j
  exact if_neg (fun q => h q.1)
theorem cpy_at {g : G} {a b n j : Nat} (h : j < n) : cpy g a b n b j = g a j := if_pos ⟨rfl, h⟩
theorem copyR (gc : G) : ∃ gc', k4_copy 35 22 gc = some gc' ∧ (∀ a, a < 35 ∨ 39 < a → gc' a = gc a) ∧ gc' 35 13 = 0 ∧ (∀ k, 7 ≤ k → k ≤ 10 → gc' 35 k = gc 22 k) ∧ ∀ i j, 1 ≤ i → i ≤ 4 → j < 10 → gc' (35 + i) j = gc (22 + i) j := by
  refine ⟨up (up (up (up (up (cpy (cpy (cpy (cpy gc 23 36 10) 24 37 10) 25 38 10) 26 39 10) 35 7 (gc 22 7)) 35 8 (gc 22 8)) 35 9 (gc 22 9)) 35 10 (gc 22 10)) 35 13 0, ?_, fun a ha => ?_, up_self, fun k k1 k2 => ?_, fun i j i1 i2 hj => ?_⟩
  · unfold k4_copy
    simp only [bd_eq]
    rw [up_other (by decide), up_other (by decide), up_other (by decide), up_other (by decide), up_other (by decide), up_other (by decide), cpy_ne (by decide), cpy_ne (by decide), cpy_ne (by decide), cpy_ne (by decide)]
  · rw [up_ne (by omega), up_ne (by omega), up_ne (by omega), up_ne (by omega), up_ne (by omega), cpy_ne (by omega), cpy_ne (by omega), cpy_ne (by omega), cpy_ne (by omega)]
  · rcases (show k = 7 ∨ k = 8 ∨ k = 9 ∨ k = 10 by omega) with rfl | rfl | rfl | rfl
    · rw [up_slot (by decide), up_slot (by decide), up_slot (by decide), up_slot (by decide), up_self]
    · rw [up_slot (by decide), up_slot (by decide), up_slot (by decide), up_self]
    · rw [up_slot (by decide), up_slot (by decide), up_self]
    · rw [up_slot (by decide), up_self]
  · rw [up_ne (by omega), up_ne (by omega), up_ne (by omega), up_ne (by omega), up_ne (by omega)]
    rcases (show i = 1 ∨ i = 2 ∨ i = 3 ∨ i = 4 by omega) with rfl | rfl | rfl | rfl
    · rw [cpy_ne (by decide), cpy_ne (by decide), cpy_ne (by decide)]
      exact cpy_at hj
    · rw [cpy_ne (by decide), cpy_ne (by decide)]
      exact (cpy_at hj).trans (by rw [cpy_ne (by decide)])
    · rw [cpy_ne (by decide)]
      exact (cpy_at hj).trans (by rw [cpy_ne (by decide), cpy_ne (by decide)])
    · exact (cpy_at hj).trans (by rw [cpy_ne (by decide), cpy_ne (by decide), cpy_ne (by decide)])
