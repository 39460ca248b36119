/-! sums and tests as trees of the law, as steps of a plan -/
def leafS (s : Nat) (n : Int32) : SS := if s = 0 then (3, n) else if s = 1 then (140, 0) else if s = 2 then (141, 0) else if s = 3 then (142, 0) else if s = 4 then (130, n) else if s = 5 then (129, n) else if s = 6 then (145, n) else if s = 7 then (143, n) else if s = 8 then (144, n) else if s = 21 then (147, 0) else (148, n)
def binS (s : Nat) : Nat := if s = 10 then 152 else if s = 11 then 153 else if s = 12 then 43 else if s = 13 then 45 else if s = 14 then 42 else if s = 15 then 47 else if s = 16 then 60 else if s = 17 then 62 else if s = 18 then 61 else if s = 19 then 4 else if s = 20 then 5 else if s = 24 then 150 else 151
def unS (s : Nat) : Nat := if s = 9 then 6 else 149
def isLf (b : Bool) (s : Nat) : Prop := (b = false ∧ s ≤ 8) ∨ (b = true ∧ (s = 21 ∨ s = 22))
def isUn (b : Bool) (s : Nat) : Prop := (b = false ∧ s = 9) ∨ (b = true ∧ s = 23)
def isBi (b : Bool) (s : Nat) : Prop := (b = false ∧ 10 ≤ s ∧ s ≤ 15) ∨ (b = true ∧ ((16 ≤ s ∧ s ≤ 20) ∨ s = 24 ∨ s = 25))
def subB (s : Nat) : Bool := decide (24 ≤ s)
/-- the node c is the steps l; b: a test -/
def TS (N : Nat) : Nat → Bool → ZS → Nat → List SS → Prop
  | 0, _, _, _, _ => False
  | d + 1, b, S, c, l => OB S c 12 ∧ ∃ s, S.i (c / 2) 0 = nI s ∧ ((isLf b s ∧ l = [leafS s (S.i (c / 2) 1)] ∧ leafOK N (leafS s (S.i (c / 2) 1)).1 (leafS s (S.i (c / 2) 1)).2) ∨ (isUn b s ∧ ∃ l1, TS N d b S (S.r (c / 2) 2) l1 ∧ l = l1 ++ [(unS s, 0)]) ∨ (isBi b s ∧ ∃ l1 l2, TS N d (subB s) S (S.r (c / 2) 2) l1 ∧ TS N d (subB s) S (S.r (c / 2) 3) l2 ∧ l = l1 ++ (l2 ++ [(binS s, 0)])))
theorem TS.o {N d : Nat} {b : Bool} {S : ZS} {c : Nat} {l : List SS} (h : TS N d b S c l) : OB S c 12 := by
  cases d with
  | zero => exact h.elim
  | succ d => exact h.1
theorem TS.ste {N : Nat} {Q : Nat → Prop} {x y : Nat} {S S' : ZS} (s : Ste Q x y S S') (hq : ¬ Q 12) : ∀ d b c l, TS N d b S c l → TS N d b S' c l := by
  intro d
  induction d with
  | zero => intro b c l h; exact h.elim
  | succ d ih =>
    intro b c l h
    obtain ⟨h1, n, h2, h3⟩ := h
    obtain ⟨e1, e2⟩ := (s.2.2.1 _ h1.2.1).2 (by rw [h1.2.2]; exact hq)
    refine ⟨h1.ste s, n, by rw [e1]; exact h2, ?_⟩
    rw [e1, e2]
    rcases h3 with h3 | ⟨h3, l1, h4, h5⟩ | ⟨h3, l1, l2, h4, h5, h6⟩
    · exact Or.inl h3
    · exact Or.inr (Or.inl ⟨h3, l1, ih _ _ _ h4, h5⟩)
    · exact Or.inr (Or.inr ⟨h3, l1, l2, ih _ _ _ h4, ih _ _ _ h5, h6⟩)
theorem TS.up {N : Nat} {S : ZS} : ∀ d d' b c l, d ≤ d' → TS N d b S c l → TS N d' b S c l := by
  intro d
  induction d with
  | zero => intro d' b c l _ h; exact h.elim
  | succ d ih =>
    intro d' b c l hd h
    obtain ⟨d', rfl⟩ : ∃ z, d' = z + 1 := ⟨d' - 1, by omega⟩
    obtain ⟨h1, n, h2, h3⟩ := h
    refine ⟨h1, n, h2, ?_⟩
    rcases h3 with h3 | ⟨h3, l1, h4, h5⟩ | ⟨h3, l1, l2, h4, h5, h6⟩
    · exact Or.inl h3
    · exact Or.inr (Or.inl ⟨h3, l1, ih _ _ _ _ (by omega) h4, h5⟩)
    · exact Or.inr (Or.inr ⟨h3, l1, l2, ih _ _ _ _ (by omega) h4, ih _ _ _ _ (by omega) h5, h6⟩)
theorem isBi.j {b : Bool} {s : Nat} (h : isBi b s) : isJ (binS s) := by
  rcases h with ⟨-, h1, h2⟩ | ⟨-, h⟩
  · rcases (show s = 10 ∨ s = 11 ∨ s = 12 ∨ s = 13 ∨ s = 14 ∨ s = 15 by omega) with rfl | rfl | rfl | rfl | rfl | rfl <;> (unfold isJ; decide)
  · rcases (show s = 16 ∨ s = 17 ∨ s = 18 ∨ s = 19 ∨ s = 20 ∨ s = 24 ∨ s = 25 by omega) with rfl | rfl | rfl | rfl | rfl | rfl | rfl <;> (unfold isJ; decide)
theorem valS_of {A : TA} {l : List SS} {x : Int32} (h : runS A l [] = some [x]) : valS A l = x := by
  unfold valS
  rw [h]
theorem runS_one {A : TA} {c : Nat} {v : Int32} {st : List Int32} : runS A [(c, v)] st = stepA A c v st := by
  show (stepA A c v st).bind (runS A []) = _
  cases stepA A c v st <;> rfl
theorem un_run {A : TA} {l1 : List SS} {c : Nat} {v : Int32} {st : List Int32} {f : Int32 → Int32} (h : ∀ st, runS A l1 st = some (valS A l1 :: st)) (hs : ∀ x st, stepA A c v (x :: st) = some (f x :: st)) : runS A (l1 ++ [(c, v)]) st = some (f (valS A l1) :: st) := by
  rw [runS_app, h, some_bind, runS_one, hs]
theorem bi_run {A : TA} {l1 l2 : List SS} {c : Nat} {v : Int32} {st : List Int32} (h : ∀ st, runS A l1 st = some (valS A l1 :: st)) (h2 : ∀ st, runS A l2 st = some (valS A l2 :: st)) (hj : isJ c) : runS A (l1 ++ (l2 ++ [(c, v)])) st = some (joinA c (valS A l1) (valS A l2) :: st) := by
  rw [runS_app, h, some_bind, runS_app, h2, some_bind, runS_one, stepA_join hj]
theorem TS.ev {N : Nat} {S : ZS} : ∀ d b c l, TS N d b S c l → evOK N l := by
  intro d
  induction d with
  | zero => intro b c l h; exact h.elim
  | succ d ih =>
    intro b c l h
    obtain ⟨h1, s, h2, h3⟩ := h
    rcases h3 with ⟨h3, h4, h5⟩ | ⟨h3, l1, h4, h5⟩ | ⟨h3, l1, l2, h4, h5, h6⟩
    · subst h4
      refine ⟨fun z hz => ?_, fun A st => ?_⟩
      · rw [List.mem_singleton.mp hz]
        exact Or.inr (Or.inr (Or.inr h5))
      · have e : ∀ st, runS A [leafS s (S.i (c / 2) 1)] st = some (leafA A (leafS s (S.i (c / 2) 1)).1 (leafS s (S.i (c / 2) 1)).2 :: st) := fun st => (runS_one (A := A) (c := (leafS s (S.i (c / 2) 1)).1) (v := (leafS s (S.i (c / 2) 1)).2)).trans (stepA_leaf h5)
        rw [e, valS_of (e [])]
    · subst h5
      obtain ⟨a1, a2⟩ := ih _ _ _ h4
      have hu : unS s = 6 ∨ unS s = 149 := by
        unfold unS
        split
        · exact Or.inl rfl
        · exact Or.inr rfl
      refine ⟨fun z hz => ?_, fun A st => ?_⟩
      · rcases List.mem_append.mp hz with y | y
        · exact a1 z y
        · rw [List.mem_singleton.mp y]
          rcases hu with e | e
          · exact Or.inl e
          · exact Or.inr (Or.inl e)
      · rcases hu with e | e
        · have r : ∀ st, runS A (l1 ++ [(unS s, 0)]) st = some (-(valS A l1) :: st) := fun st => by
            rw [e]
            exact un_run (f := fun x => -x) (a2 A) (fun _ _ => rfl)
          rw [r, valS_of (r [])]
        · have r : ∀ st, runS A (l1 ++ [(unS s, 0)]) st = some ((1 - valS A l1) :: st) := fun st => by
            rw [e]
            exact un_run (f := fun x => 1 - x) (a2 A) (fun _ _ => rfl)
          rw [r, valS_of (r [])]
    · subst h6
      obtain ⟨a1, a2⟩ := ih _ _ _ h4
      obtain ⟨b1, b2⟩ := ih _ _ _ h5
      refine ⟨fun z hz => ?_, fun A st => ?_⟩
      · rcases List.mem_append.mp hz with y | y
        · exact a1 z y
        · rcases List.mem_append.mp y with y | y
          · exact b1 z y
          · rw [List.mem_singleton.mp y]
            exact Or.inr (Or.inr (Or.inl h3.j))
      · have r : ∀ st, runS A (l1 ++ (l2 ++ [(binS s, 0)])) st = some (joinA (binS s) (valS A l1) (valS A l2) :: st) := fun st => bi_run (a2 A) (b2 A) h3.j
        rw [r, valS_of (r [])]
theorem val_leaf {A : TA} {N s : Nat} {n : Int32} (h : leafOK N (leafS s n).1 (leafS s n).2) : valS A [leafS s n] = leafA A (leafS s n).1 (leafS s n).2 := valS_of ((runS_one (A := A) (c := (leafS s n).1) (v := (leafS s n).2)).trans (stepA_leaf h))
theorem val_un {A : TA} {l1 : List SS} {s : Nat} (h : ∀ st, runS A l1 st = some (valS A l1 :: st)) : valS A (l1 ++ [(unS s, 0)]) = if s = 9 then -(valS A l1) else 1 - valS A l1 := by
  unfold unS
  by_cases e : s = 9
  · rw [if_pos e, if_pos e]
    exact valS_of (un_run (f := fun x => -x) h (fun _ _ => rfl))
  · rw [if_neg e, if_neg e]
    exact valS_of (un_run (f := fun x => 1 - x) h (fun _ _ => rfl))
theorem val_bi {A : TA} {l1 l2 : List SS} {b : Bool} {s : Nat} (h : ∀ st, runS A l1 st = some (valS A l1 :: st)) (h2 : ∀ st, runS A l2 st = some (valS A l2 :: st)) (hb : isBi b s) : valS A (l1 ++ (l2 ++ [(binS s, 0)])) = joinA (binS s) (valS A l1) (valS A l2) := valS_of (bi_run h h2 hb.j)
/-! both ways to join -/
theorem lb_eq {x y : Int32} : (if y ≤ x then y else x) = (if y < x then y else x) := by
  by_cases e : y < x
  · rw [if_pos e, if_pos (Int32.le_of_lt e)]
  · rw [if_neg e]
    by_cases e2 : y ≤ x
    · rw [if_pos e2]
      exact Int32.le_antisymm e2 (Int32.not_lt.mp e)
    · rw [if_neg e2]
theorem ub_eq {x y : Int32} : (if y ≤ x then x else y) = (if x < y then y else x) := by
  by_cases e : x < y
  · rw [if_pos e, if_neg (Int32.not_le.mpr e)]
  · rw [if_neg e, if_pos (Int32.not_lt.mp e)]
theorem both_ok {b : Bool} {s : Nat} {x y : Int32} {S : ZS} (h : isBi b s) (h24 : 24 ≤ s → (x = 0 ∨ x = 1) ∧ (y = 0 ∨ y = 1)) : kX10_both (nI s) x y S = some (joinA (binS s) x y, S) := by
  unfold kX10_both
  refine chk_of ?_ (Nat.le_refl _) (Nat.le_refl _)
  rcases h with ⟨-, h1, h2⟩ | ⟨-, h⟩
  · rcases (show s = 10 ∨ s = 11 ∨ s = 12 ∨ s = 13 ∨ s = 14 ∨ s = 15 by omega) with rfl | rfl | rfl | rfl | rfl | rfl
    · show (if y ≤ x then some (y, S) else some (x, S)) = some ((if y < x then y else x), S)
      rw [← lb_eq]
      split <;> rfl
    · show (if y ≤ x then some (x, S) else some (y, S)) = some ((if x < y then y else x), S)
      rw [← ub_eq]
      split <;> rfl
    · rfl
    · rfl
    · rfl
    · show (if y = 0 then some (0, S) else dv x y fun x19 => some (x19, S)) = some ((if y = 0 then 0 else x / y), S)
      by_cases e : y = 0
      · rw [if_pos e, if_pos e]
      · rw [if_neg e, if_neg e]
        exact if_neg e
  · rcases (show s = 16 ∨ s = 17 ∨ s = 18 ∨ s = 19 ∨ s = 20 ∨ s = 24 ∨ s = 25 by omega) with rfl | rfl | rfl | rfl | rfl | rfl | rfl
    · show (if y ≤ x then some (0, S) else some (1, S)) = some ((if y ≤ x then 0 else 1), S)
      split <;> rfl
    · show (if x ≤ y then some (0, S) else some (1, S)) = some ((if x ≤ y then 0 else 1), S)
      split <;> rfl
    · show (if x = y then some (1, S) else some (0, S)) = some ((if x = y then 1 else 0), S)
      split <;> rfl
    · show (if y < x then some (0, S) else some (1, S)) = some ((if y < x then 0 else 1), S)
      split <;> rfl
    · show (if x < y then some (0, S) else some (1, S)) = some ((if x < y then 0 else 1), S)
      split <;> rfl
    · obtain ⟨hx, hy⟩ := h24 (by omega)
      rcases hx with rfl | rfl <;> rcases hy with rfl | rfl <;> rfl
    · obtain ⟨hx, hy⟩ := h24 (by omega)
      rcases hx with rfl | rfl <;> rcases hy with rfl | rfl <;> rfl
theorem join_01 {s : Nat} {x y : Int32} (h : isBi true s) (h24 : 24 ≤ s → (x = 0 ∨ x = 1) ∧ (y = 0 ∨ y = 1)) : joinA (binS s) x y = 0 ∨ joinA (binS s) x y = 1 := by
  rcases h with ⟨h, -⟩ | ⟨-, h⟩
  · cases h
  · rcases (show s = 16 ∨ s = 17 ∨ s = 18 ∨ s = 19 ∨ s = 20 ∨ s = 24 ∨ s = 25 by omega) with rfl | rfl | rfl | rfl | rfl | rfl | rfl
    · show (if y ≤ x then (0 : Int32) else 1) = 0 ∨ (if y ≤ x then (0 : Int32) else 1) = 1
      split
      · exact Or.inl rfl
      · exact Or.inr rfl
    · show (if x ≤ y then (0 : Int32) else 1) = 0 ∨ (if x ≤ y then (0 : Int32) else 1) = 1
      split
      · exact Or.inl rfl
      · exact Or.inr rfl
    · show (if x = y then (1 : Int32) else 0) = 0 ∨ (if x = y then (1 : Int32) else 0) = 1
      split
      · exact Or.inr rfl
      · exact Or.inl rfl
    · show (if y < x then (0 : Int32) else 1) = 0 ∨ (if y < x then (0 : Int32) else 1) = 1
      split
      · exact Or.inl rfl
      · exact Or.inr rfl
    · show (if x < y then (0 : Int32) else 1) = 0 ∨ (if x < y then (0 : Int32) else 1) = 1
      split
      · exact Or.inl rfl
      · exact Or.inr rfl
    · obtain ⟨hx, hy⟩ := h24 (by omega)
      rcases hx with rfl | rfl <;> rcases hy with rfl | rfl <;> decide
    · obtain ⟨hx, hy⟩ := h24 (by omega)
      rcases hx with rfl | rfl <;> rcases hy with rfl | rfl <;> decide
theorem neg_eq (x : Int32) : 0 - x = -x := Int32.zero_sub x
theorem one_01 {x : Int32} (h : x = 0 ∨ x = 1) : 1 - x = 0 ∨ 1 - x = 1 := by
  rcases h with rfl | rfl <;> decide
