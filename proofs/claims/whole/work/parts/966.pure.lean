/-! a minute: two states -/
def RelQ2 (q t N J : Nat) (gc gm : G) : Prop := J ≤ 12 ∧ gc q 2 = nI J ∧ gm t 6 = nI J ∧ gc q 3 = gm t 7 ∧ gc q 4 = gm t 9 ∧ (∀ k, k < J → gc (q + 1) k = gm (t + 5) k ∧ gc (q + 2) k = gm (t + 6) k ∧ (∃ m, m < N ∧ gm (t + 6) k = nI m) ∧ (gm (t + 5) k = 0 ∨ gm (t + 5) k = 1 ∨ gm (t + 5) k = 2)) ∧ ¬ gm t 7 < 0 ∧ (J = 0 → gm t 7 = 0)
def RelW (w t N J : Nat) (rw : Nat → Nat) (gc gm : G) : Prop := RelL (w + 1) t N rw gc gm ∧ gc (w + 1) 9 = gm 54 2 ∧ (∀ m, m < N → gc (w + 1 + 2) m = gm (t + 2) m) ∧ Rng t N gm ∧ RelQ2 (w + 9) t N J gc gm ∧ gc w 5 = gm t 8
def wOK (w t : Nat) : Prop := (w = 21 ∧ t = 79) ∨ (w = 34 ∧ t = 86)
theorem wOK.o {w t : Nat} (h : wOK w t) : okO (w + 1) t := by
  unfold okO
  rcases h with ⟨rfl, rfl⟩ | ⟨rfl, rfl⟩ <;> omega
theorem RelQ2.fr {q t N J : Nat} {gc gm gc' gm' : G} (h : RelQ2 q t N J gc gm) (c : ∀ i, i ≤ 2 → gc' (q + i) = gc (q + i)) (m0 : gm' t = gm t) (m5 : gm' (t + 5) = gm (t + 5)) (m6 : gm' (t + 6) = gm (t + 6)) : RelQ2 q t N J gc' gm' := by
  obtain ⟨h1, h2, h3, h4, h5, h6, h7, h8⟩ := h
  have c0 : gc' q = gc q := c 0 (by omega)
  exact ⟨h1, by rw [c0]; exact h2, by rw [m0]; exact h3, by rw [c0, m0]; exact h4, by rw [c0, m0]; exact h5, fun k hk => by rw [c 1 (by omega), c 2 (by omega), m5, m6]; exact h6 k hk, by rw [m0]; exact h7, by rw [m0]; exact h8⟩
theorem RelW.fr {w t N J : Nat} {rw : Nat → Nat} {gc gm gc' gm' : G} (h : RelW w t N J rw gc gm) (c : ∀ i, 1 ≤ i → i ≤ 4 → gc' (w + 1 + i) = gc (w + 1 + i)) (cq : ∀ i, i ≤ 2 → gc' (w + 9 + i) = gc (w + 9 + i)) (k : ∀ i, 7 ≤ i → i ≤ 10 → gc' (w + 1) i = gc (w + 1) i) (k5 : gc' w 5 = gc w 5) (hl : litOK (w + 1) gc' rw N) (m54 : gm' 54 = gm 54) (m : ∀ i, i ≤ 6 → gm' (t + i) = gm (t + i)) : RelW w t N J rw gc' gm' := by
  obtain ⟨h1, h2, h3, h4, h5, h6⟩ := h
  have m0 : gm' t = gm t := m 0 (by omega)
  refine ⟨h1.fr (c 1 (by omega) (by omega)) (c 3 (by omega) (by omega)) (c 4 (by omega) (by omega)) (k 7 (by omega) (by omega)) (k 8 (by omega) (by omega)) (k 10 (by omega) (by omega)) hl m54 (m 1 (by omega)) (m 3 (by omega)) (m 4 (by omega)) (covOf_same m0 (m 6 (by omega))), by rw [k 9 (by omega) (by omega), m54]; exact h2, fun j hj => by rw [c 2 (by omega) (by omega), m 2 (by omega)]; exact h3 j hj, h4.frame (m 1 (by omega)) (m 2 (by omega)) (m 3 (by omega)), h5.fr cq m0 (m 5 (by omega)) (m 6 (by omega)), by rw [k5, m0]; exact h6⟩
theorem RelW.lok {w t N J : Nat} {rw : Nat → Nat} {gc gm : G} (h : RelW w t N J rw gc gm) : litOK (w + 1) gc rw N := h.1.2.2.2.2.2.2.1
theorem RelW.N9 {w t N J : Nat} {rw : Nat → Nat} {gc gm : G} (h : RelW w t N J rw gc gm) : N ≤ 10 := h.1.2.2.2.1.1
theorem RelW.lit {w t N J : Nat} {rw : Nat → Nat} {gc gm gc' : G} (h : RelW w t N J rw gc gm) (hl : litOf (w + 1) rw N gc gc') : RelW w t N J rw gc' gm := by
  obtain ⟨a1, a2, -⟩ := id hl
  exact h.fr (fun i i1 i2 => a1 _ (by omega) (by omega) (by omega) (by omega)) (fun i hi => a1 _ (by omega) (by omega) (by omega) (by omega)) (fun i i1 i2 => a2 i (by omega) (by omega) (by omega)) (by rw [a1 w (by omega) (by omega) (by omega) (by omega)]) hl.ok rfl (fun _ _ => rfl)
theorem RelW.mlit {w t N J N1 : Nat} {rw rw1 : Nat → Nat} {gc gm gm' : G} (hO : wOK w t) (h : RelW w t N J rw gc gm) (hl : mlitOf t rw1 N1 gm gm') : RelW w t N J rw gc gm' := by
  have hO' := hO.o
  unfold okO at hO'
  exact h.fr (fun _ _ _ => rfl) (fun _ _ => rfl) (fun _ _ _ => rfl) rfl h.lok (hl.1 54 (by omega) (by omega) (by omega) (by omega)) (fun i hi => hl.1 _ (by omega) (by omega) (by omega) (by omega))
/-- the stack of answers is another -/
theorem RelW.stk {w t N J : Nat} {rw : Nat → Nat} {gc gm gc' : G} (h : RelW w t N J rw gc gm) (hc : ∀ a, a ≠ w → a ≠ w + 12 → gc' a = gc a) (h5 : gc' w 5 = gc w 5) : RelW w t N J rw gc' gm := by
  refine h.fr (fun i i1 i2 => hc _ (by omega) (by omega)) (fun i hi => hc _ (by omega) (by omega)) (fun i i1 i2 => by rw [hc _ (by omega) (by omega)]) h5 (litOK_same (fun i hi => hc _ (by omega) (by omega)) h.lok) rfl (fun _ _ => rfl)
theorem RelW.val {w t N J j : Nat} {rw : Nat → Nat} {gc gm : G} {v : Int32} (hO : wOK w t) (h : RelW w t N J rw gc gm) : RelW w t N J rw gc (up gm 78 j v) := by
  have hO' := hO.o
  unfold okO at hO'
  have : t ≠ 78 ∧ 78 < t := by rcases hO with ⟨-, rfl⟩ | ⟨-, rfl⟩ <;> omega
  exact h.fr (fun _ _ _ => rfl) (fun _ _ => rfl) (fun _ _ _ => rfl) rfl h.lok (up_ne (by omega)) (fun i hi => up_ne (by omega))
/-- what a minute leaves alone -/
def fC (w : Nat) (gc gc' : G) : Prop := ∀ a, a < w ∨ w + 12 < a → gc' a = gc a
def fM (t : Nat) (gm gm' : G) : Prop := (∀ a, a ≠ 47 → a ≠ 78 → a ≠ 93 → a ≠ 94 → a ≠ 95 → a < t ∨ t + 6 < a → gm' a = gm a) ∧ ∀ k, k ≠ 22 → k ≠ 23 → gm' 47 k = gm 47 k
theorem fC.refl {w : Nat} {g : G} : fC w g g := fun _ _ => rfl
theorem fM.refl {t : Nat} {g : G} : fM t g g := ⟨fun _ _ _ _ _ _ _ => rfl, fun _ _ _ => rfl⟩
theorem fC.trans {w : Nat} {a b c : G} (h : fC w a b) (h' : fC w b c) : fC w a c := fun x hx => (h' x hx).trans (h x hx)
theorem fM.trans {t : Nat} {a b c : G} (h : fM t a b) (h' : fM t b c) : fM t a c := ⟨fun x x1 x2 x3 x4 x5 x6 => (h'.1 x x1 x2 x3 x4 x5 x6).trans (h.1 x x1 x2 x3 x4 x5 x6), fun k k1 k2 => (h'.2 k k1 k2).trans (h.2 k k1 k2)⟩
theorem litOf.fC {w N : Nat} {rw : Nat → Nat} {g g' : G} (h : litOf (w + 1) rw N g g') : fC w g g' := fun a ha => h.1 a (by omega) (by omega) (by omega) (by omega)
theorem mlitOf.fM {t N t1 : Nat} {rw : Nat → Nat} {g g' : G} (h : mlitOf t rw N g g') : fM t1 g g' := ⟨fun a a1 _ a3 a4 a5 _ => h.1 a a1 a3 a4 a5, h.2.1⟩
theorem fM.val {t j : Nat} {g : G} {v : Int32} : fM t g (up g 78 j v) := ⟨fun a _ a2 _ _ _ _ => up_ne a2, fun k _ _ => up_other (by decide)⟩
/-- both reckon the light of their worlds -/
theorem w_light {w t N J : Nat} {rw : Nat → Nat} {gc gm : G} (hO : wOK w t) (h : RelW w t N J rw gc gm) : ∃ gc' gm', k4_shine (w + 1) gc = some gc' ∧ k11_shine t gm = some gm' ∧ RelW w t N J rw gc' gm' ∧ fC w gc gc' ∧ gc' w = gc w ∧ gc' (w + 12) = gc (w + 12) ∧ fM t gm gm' ∧ gm' 78 = gm 78 ∧ gm' 47 22 = gc' (w + 1) 11 ∧ gm' 47 23 = gc' (w + 1) 12 ∧ (∀ m, m < N → gm' 94 m = gc' (w + 1 + 5) m ∧ gm' 93 m - gm' 94 m = gc' (w + 1 + 6) m ∧ gm' 95 m = gc' (w + 1 + 7) m) ∧ gc' (w + 9) = gc (w + 9) := by
  obtain ⟨gc', gm', c1, m1, l1, ml1, h1, e1, e2, e3⟩ := light2 hO.o h.1
  refine ⟨gc', gm', c1, m1, (h.lit l1).mlit hO ml1, l1.fC, l1.1 w (by omega) (by omega) (by omega) (by omega), l1.1 _ (by omega) (by omega) (by omega) (by omega), ml1.fM, ml1.1 78 (by decide) (by decide) (by decide) (by decide), e1, e2, fun m hm => ?_, l1.1 _ (by omega) (by omega) (by omega) (by omega)⟩
  obtain ⟨q, hq, rfl⟩ := h.1.2.2.2.1.at hm
  exact e3 q hq
theorem w_lit {w t N J : Nat} {rw : Nat → Nat} {gc gm : G} (h : RelW w t N J rw gc gm) : ∃ gc', k4_shine (w + 1) gc = some gc' ∧ RelW w t N J rw gc' gm ∧ fC w gc gc' ∧ gc' w = gc w ∧ gc' (w + 12) = gc (w + 12) ∧ (∀ i, 1 ≤ i → i ≤ 3 → gc' (w + 1 + i) = gc (w + 1 + i)) ∧ gc' (w + 9) = gc (w + 9) := by
  obtain ⟨gc', c1, l1⟩ := k4_shine_ok h.1.1 h.1.2.2.2.1 h.lok
  exact ⟨gc', c1, h.lit l1, l1.fC, l1.1 w (by omega) (by omega) (by omega) (by omega), l1.1 _ (by omega) (by omega) (by omega) (by omega), fun i i1 i2 => l1.1 _ (by omega) (by omega) (by omega) (by omega), l1.1 _ (by omega) (by omega) (by omega) (by omega)⟩
/-! the stack of answers -/
theorem k7_push_n {w p : Nat} {g : G} {v : Int32} (hp : g w 4 = nI p) (h : p < 400) : k7_push w v g = some (up (up g (w + 12) p v) w 4 (nI (p + 1))) := by
  unfold k7_push
  rw [hp, if_neg (fun z => absurd ((lit_le (M := 400) (k := 400) rfl (by omega) (by omega)).mp z) (by omega)), sto_n h (by omega), bd_eq, up_other (by omega), hp, nI_1]
theorem k7_pop_n {w p : Nat} {g : G} (hp : g w 4 = nI (p + 1)) (h : p < 400) : k7_pop w g = some (g (w + 12) p, up g w 4 (nI p)) := by
  unfold k7_pop
  rw [hp, if_pos (Int32.not_le.mp (nI_nle (by omega) (by omega))), bd_eq, nI_pred, up_self, ld_n h (by omega), up_other (by omega)]
def sv (x y : Nat → Int32) : List Nat → Prop
  | [] => True
  | j :: st => x st.length = y j ∧ sv x y st
theorem sv_same {x y x' y' : Nat → Int32} : ∀ st : List Nat, sv x y st → (∀ i, i < st.length → x' i = x i) → (∀ a, a ∈ st → y' a = y a) → sv x' y' st := by
  intro st
  induction st with
  | nil => intro _ _ _; exact trivial
  | cons j st ih =>
    intro h hx hy
    obtain ⟨h1, h2⟩ := h
    refine ⟨?_, ih h2 (fun i hi => hx i (by simp only [List.length_cons]; omega)) (fun a ha => hy a (List.mem_cons_of_mem j ha))⟩
    rw [hx _ (by simp only [List.length_cons]; omega), hy j List.mem_cons_self]
    exact h1
/-- the sorts -/
theorem ari0 {s : Nat} (h : ariOf s = 0) : s = 31 ∨ s = 12 ∨ s = 13 ∨ s = 14 ∨ s = 2 ∨ s = 1 ∨ s = 17 ∨ s = 15 ∨ s = 16 ∨ s = 19 ∨ s = 20 := by
  unfold ariOf at h
  split at h
  · assumption
  · split at h
    · omega
    · split at h <;> omega
theorem ari1 {s : Nat} (h : ariOf s = 1) : s = 60 ∨ s = 21 := by
  unfold ariOf at h
  split at h
  · omega
  · split at h
    · assumption
    · split at h <;> omega
theorem ari2 {s : Nat} (h : ariOf s = 2) : s = 40 ∨ s = 41 ∨ s = 42 ∨ s = 43 ∨ s = 44 ∨ s = 45 ∨ s = 46 ∨ s = 47 ∨ s = 48 ∨ s = 22 ∨ s = 23 ∨ s = 24 ∨ s = 25 := by
  unfold ariOf at h
  split at h
  · omega
  · split at h
    · omega
    · split at h
      · assumption
      · omega
theorem join_eq {s : Nat} (h : ariOf s = 2) (a b : Int32) (g g' : G) : ∃ v, k7_join (nI (stepOf s)) a b g = some v ∧ k11_joined (nI s) a b g' = some v := by
  rcases ari2 h with rfl | rfl | rfl | rfl | rfl | rfl | rfl | rfl | rfl | rfl | rfl | rfl | rfl
  · exact ⟨a + b, rfl, rfl⟩
  · exact ⟨a - b, rfl, rfl⟩
  · exact ⟨a * b, rfl, rfl⟩
  · by_cases e : b = 0
    · exact ⟨0, (if_pos e : _), (if_pos e : _)⟩
    · exact ⟨a / b, (if_neg e : _).trans (if_neg e), (if_neg e : _).trans (if_neg e)⟩
  · by_cases e : b ≤ a
    · exact ⟨0, (if_pos e : _), (if_pos e : _)⟩
    · exact ⟨1, (if_neg e : _), (if_neg e : _)⟩
  · by_cases e : a ≤ b
    · exact ⟨0, (if_pos e : _), (if_pos e : _)⟩
    · exact ⟨1, (if_neg e : _), (if_neg e : _)⟩
  · by_cases e : a = b
    · exact ⟨1, (if_pos e : _), (if_pos e : _)⟩
    · exact ⟨0, (if_neg e : _), (if_neg e : _)⟩
  · by_cases e : b < a
    · exact ⟨0, (if_pos e : _), (if_pos e : _)⟩
    · exact ⟨1, (if_neg e : _), (if_neg e : _)⟩
  · by_cases e : a < b
    · exact ⟨0, (if_pos e : _), (if_pos e : _)⟩
    · exact ⟨1, (if_neg e : _), (if_neg e : _)⟩
  · exact ⟨a &&& b, rfl, rfl⟩
  · exact ⟨a ||| b, rfl, rfl⟩
  · exact ⟨if b < a then b else a, rfl, rfl⟩
  · exact ⟨if a < b then b else a, rfl, rfl⟩
