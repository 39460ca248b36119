/-! the invariant of the calls -/
/-- the queue at q is the state's at t -/
def RelQ (q t N J : Nat) (g : G) : Prop := J ≤ 12 ∧ g q 2 = nI J ∧ g t 6 = nI J ∧ g q 3 = g t 7 ∧ g q 4 = g t 9 ∧ (∀ k, k < J → g (q + 1) k = g (t + 5) k ∧ g (q + 2) k = g (t + 6) k ∧ (∃ m, m < N ∧ g (t + 6) k = nI m) ∧ (g (t + 5) k = 0 ∨ g (t + 5) k = 1 ∨ g (t + 5) k = 2)) ∧ ¬ g t 7 < 0 ∧ (J = 0 → g t 7 = 0)
def Rng (t N : Nat) (g : G) : Prop := ∀ m, m < N → (0 ≤ g (t + 1) m ∧ g (t + 1) m ≤ 100) ∧ (0 ≤ g (t + 2) m ∧ g (t + 2) m ≤ 100) ∧ (-90 ≤ g (t + 3) m ∧ g (t + 3) m ≤ 90)
/-- the steps of a plan for the sorts of nodes -/
def stepOf (s : Nat) : Nat := if s = 31 then 3 else if s = 12 then 140 else if s = 13 then 141 else if s = 14 then 142 else if s = 2 then 130 else if s = 1 then 129 else if s = 17 then 145 else if s = 15 then 143 else if s = 16 then 144 else if s = 19 then 147 else if s = 20 then 148 else if s = 60 then 6 else if s = 21 then 149 else if s = 40 then 43 else if s = 41 then 45 else if s = 42 then 42 else if s = 43 then 47 else if s = 44 then 60 else if s = 45 then 62 else if s = 46 then 61 else if s = 47 then 4 else if s = 48 then 5 else if s = 22 then 150 else if s = 23 then 151 else if s = 24 then 152 else 153
/-- how many nodes a sort is made of; 3: no sort -/
def ariOf (s : Nat) : Nat := if s = 31 ∨ s = 12 ∨ s = 13 ∨ s = 14 ∨ s = 2 ∨ s = 1 ∨ s = 17 ∨ s = 15 ∨ s = 16 ∨ s = 19 ∨ s = 20 then 0 else if s = 60 ∨ s = 21 then 1 else if s = 40 ∨ s = 41 ∨ s = 42 ∨ s = 43 ∨ s = 44 ∨ s = 45 ∨ s = 46 ∨ s = 47 ∨ s = 48 ∨ s = 22 ∨ s = 23 ∨ s = 24 ∨ s = 25 then 2 else 3
def ofMirror (s : Nat) : Prop := s = 2 ∨ s = 1 ∨ s = 17 ∨ s = 15 ∨ s = 16 ∨ s = 20
def nodeOK (g : G) (N b j : Nat) : Prop := ∃ s, s < 64 ∧ ariOf s < 3 ∧ g 63 j = nI s ∧ g 19 b = nI (stepOf s) ∧ (ofMirror s → ∃ m, m < N ∧ g 64 j = nI m ∧ g 20 b = nI m) ∧ (s = 31 → g 20 b = g 64 j)
/-- the nodes from j on, on a stack of nodes -/
def stkRun (g : G) : Nat → Nat → List Nat → Option (List Nat)
  | 0, _, st => some st
  | d + 1, j, st => if ariOf (g 63 j).toNatClampNeg = 0 then stkRun g d (j + 1) (j :: st) else if ariOf (g 63 j).toNatClampNeg = 1 then
      (match st with
       | a :: st => if g 64 j = nI a then stkRun g d (j + 1) (j :: st) else none
       | [] => none)
    else
      (match st with
       | b :: a :: st => if g 64 j = nI a ∧ g 65 j = nI b then stkRun g d (j + 1) (j :: st) else none
       | _ => none)
def optI : Option Nat → Int32
  | none => -1
  | some j => nI j
def doStep (d : Nat) : Nat := if d = 0 then 136 else if d = 1 then 137 else if d = 2 then 138 else if d = 3 then 133 else 135
def ordOK (N : Nat) (g : G) (k f f' b b' : Nat) : Prop := f ≤ f' ∧ g 59 k = nI f ∧ g 60 k = nI f' ∧ (∀ j, f ≤ j → j < f' → nodeOK g N (b + (j - f)) j) ∧ ∃ (d m : Nat) (te su : Option Nat), d < 5 ∧ m < N ∧ g 57 k = nI d ∧ g 58 k = nI m ∧ g 62 k = optI te ∧ g 61 k = optI su ∧ (su.isSome = true ↔ 3 ≤ d) ∧ stkRun g (f' - f) f [] = some (te.toList ++ su.toList) ∧ b' = b + (f' - f) + (if te = none then 2 else 1) ∧ (te = none → g 19 (b + (f' - f)) = 7) ∧ g 19 (b' - 1) = nI (doStep d) ∧ g 20 (b' - 1) = nI m
def RelP (N : Nat) (g : G) : Prop := ∃ (K : Nat) (F B : Nat → Nat), K ≤ 16 ∧ F 0 = 0 ∧ B 0 = 0 ∧ g 54 5 = nI K ∧ g 16 5 = nI K ∧ g 16 8 = nI (B K) ∧ B K ≤ 400 ∧ F K ≤ 800 ∧ ∀ k, k < K → ordOK N g k (F k) (F (k + 1)) (B k) (B (k + 1))
/-- the tape -/
def RelT (g : G) : Prop := ∃ T, T ≤ 2000 ∧ g 1 1 = nI T ∧ g 47 2 = nI T ∧ ∀ j, j < T → ∃ x, x < 256 ∧ g 48 j = nI x ∧ g 2 j = (nI x).toInt8.toInt32
def InvC (n N J : Nat) (rw : Nat → Nat) (g : G) : Prop := RelT g ∧ g 0 8 = g 47 3 ∧ RelR 22 79 N rw g ∧ Rng 79 N g ∧ RelQ 30 79 N J g ∧ g 21 5 = g 79 8 ∧ (∃ d, d ≤ 100 * n ∧ g 30 4 = nI d) ∧ RelP N g
def Inv (n : Nat) (g : G) : Prop := ∃ (N J : Nat) (rw : Nat → Nat), InvC n N J rw g
/-- the cells that the invariant speaks of -/
def cI (a : Nat) : Prop := a ≤ 2 ∨ (16 ≤ a ∧ a ≤ 32) ∨ a = 48 ∨ (54 ≤ a ∧ a ≤ 65) ∨ (79 ≤ a ∧ a ≤ 85)
theorem stkRun_same {g g' : G} (h3 : g' 63 = g 63) (h4 : g' 64 = g 64) (h5 : g' 65 = g 65) : ∀ (d j : Nat) (st : List Nat), stkRun g' d j st = stkRun g d j st := by
  intro d
  induction d with
  | zero => intro j st; rfl
  | succ d ih =>
    intro j st
    unfold stkRun
    rw [h3, h4, h5]
    simp only [ih]
theorem RelP.frame {N : Nat} {g g' : G} (h : RelP N g) (hf : ∀ a, (16 ≤ a ∧ a ≤ 20) ∨ (54 ≤ a ∧ a ≤ 65) → g' a = g a) : RelP N g' := by
  obtain ⟨K, F, B, h1, h2, h3, h4, h5, h6, h7, h8, h9⟩ := h
  have e16 := hf 16 (by omega)
  have e19 := hf 19 (by omega)
  have e20 := hf 20 (by omega)
  have e54 := hf 54 (by omega)
  have e57 := hf 57 (by omega)
  have e58 := hf 58 (by omega)
  have e59 := hf 59 (by omega)
  have e60 := hf 60 (by omega)
  have e61 := hf 61 (by omega)
  have e62 := hf 62 (by omega)
  have e63 := hf 63 (by omega)
  have e64 := hf 64 (by omega)
  have e65 := hf 65 (by omega)
  refine ⟨K, F, B, h1, h2, h3, by rw [e54]; exact h4, by rw [e16]; exact h5, by rw [e16]; exact h6, h7, h8, fun k hk => ?_⟩
  obtain ⟨a1, a2, a3, a4, d, m, te, su, b1, b2, b3, b4, b5, b6, b7, b8, b9, b10, b11, b12⟩ := h9 k hk
  refine ⟨a1, by rw [e59]; exact a2, by rw [e60]; exact a3, fun j hj hj2 => ?_, d, m, te, su, b1, b2, by rw [e57]; exact b3, by rw [e58]; exact b4, by rw [e62]; exact b5, by rw [e61]; exact b6, b7, by rw [stkRun_same e63 e64 e65]; exact b8, b9, by rw [e19]; exact b10, by rw [e19]; exact b11, by rw [e20]; exact b12⟩
  obtain ⟨s, s1, s2, s3, s4, s5, s6⟩ := a4 j hj hj2
  exact ⟨s, s1, s2, by rw [e63]; exact s3, by rw [e19]; exact s4, fun hs => by rw [e64, e20]; exact s5 hs, fun hs => by rw [e64, e20]; exact s6 hs⟩
theorem RelQ.frame {q t N J : Nat} {g g' : G} (h : RelQ q t N J g) (hf : ∀ a, (q ≤ a ∧ a ≤ q + 2) ∨ a = t ∨ a = t + 5 ∨ a = t + 6 → g' a = g a) : RelQ q t N J g' := by
  obtain ⟨h1, h2, h3, h4, h5, h6, h7, h8⟩ := h
  have eq := hf q (by omega)
  have eq1 := hf (q + 1) (by omega)
  have eq2 := hf (q + 2) (by omega)
  have et := hf t (by omega)
  have et5 := hf (t + 5) (by omega)
  have et6 := hf (t + 6) (by omega)
  exact ⟨h1, by rw [eq]; exact h2, by rw [et]; exact h3, by rw [eq, et]; exact h4, by rw [eq, et]; exact h5, fun k hk => by rw [eq1, eq2, et5, et6]; exact h6 k hk, by rw [et]; exact h7, by rw [et]; exact h8⟩
theorem Rng.frame {t N : Nat} {g g' : G} (h : Rng t N g) (h1 : g' (t + 1) = g (t + 1)) (h2 : g' (t + 2) = g (t + 2)) (h3 : g' (t + 3) = g (t + 3)) : Rng t N g' := fun m hm => by
  rw [h1, h2, h3]
  exact h m hm
theorem RelT.frame {g g' : G} (h : RelT g) (h1 : g' 1 = g 1) (h2 : g' 2 = g 2) (h3 : g' 48 = g 48) (h4 : g' 47 2 = g 47 2) : RelT g' := by
  obtain ⟨T, a1, a2, a3, a4⟩ := h
  exact ⟨T, a1, by rw [h1]; exact a2, by rw [h4]; exact a3, fun j hj => by rw [h2, h3]; exact a4 j hj⟩
theorem InvC.frame {n N J : Nat} {rw : Nat → Nat} {g g' : G} (h : InvC n N J rw g) (hf : ∀ a, cI a → g' a = g a) (h2 : g' 47 2 = g 47 2) (h3 : g' 47 3 = g 47 3) : InvC n N J rw g' := by
  unfold cI at hf
  obtain ⟨a1, a2, a3, a4, a5, a6, ⟨d, d1, d2⟩, a7⟩ := h
  refine ⟨a1.frame (hf 1 (by omega)) (hf 2 (by omega)) (hf 48 (by omega)) h2, by rw [hf 0 (by omega), h3]; exact a2, a3.frame (fun a ha => hf a (by unfold cR at ha; omega)), a4.frame (hf 80 (by omega)) (hf 81 (by omega)) (hf 82 (by omega)), a5.frame (fun a ha => hf a (by omega)), by rw [hf 21 (by omega), hf 79 (by omega)]; exact a6, ⟨d, d1, by rw [hf 30 (by omega)]; exact d2⟩, a7.frame (fun a ha => hf a (by omega))⟩
theorem InvC.suc {n N J : Nat} {rw : Nat → Nat} {g : G} (h : InvC n N J rw g) : InvC (n + 1) N J rw g := by
  obtain ⟨a1, a2, a3, a4, a5, a6, ⟨d, d1, d2⟩, a7⟩ := h
  exact ⟨a1, a2, a3, a4, a5, a6, ⟨d, by omega, d2⟩, a7⟩
theorem InvC.next {n N J : Nat} {rw : Nat → Nat} {g : G} (h : InvC n N J rw g) : Inv (n + 1) g := ⟨N, J, rw, h.suc⟩
theorem Inv.suc {n : Nat} {g : G} (h : Inv n g) : Inv (n + 1) g := by
  obtain ⟨N, J, rw, h⟩ := h
  exact h.next
/-- the class's light reckoned, the invariant stands -/
theorem InvC.lit {n N J : Nat} {rw : Nat → Nat} {g g' : G} (h : InvC n N J rw g) (hl : litOf 22 rw N g g') : InvC n N J rw g' := by
  obtain ⟨a1, a2, a3, a4, a5, a6, a7, a8⟩ := h
  have hf := hl.1
  refine ⟨a1.frame (hf 1 (by omega) (by omega) (by omega) (by omega)) (hf 2 (by omega) (by omega) (by omega) (by omega)) (hf 48 (by omega) (by omega) (by omega) (by omega)) (by rw [hf 47 (by omega) (by omega) (by omega) (by omega)]), by rw [hf 0 (by omega) (by omega) (by omega) (by omega), hf 47 (by omega) (by omega) (by omega) (by omega)]; exact a2, a3.lit (by omega) (by omega) hl, a4.frame (hf 80 (by omega) (by omega) (by omega) (by omega)) (hf 81 (by omega) (by omega) (by omega) (by omega)) (hf 82 (by omega) (by omega) (by omega) (by omega)), a5.frame (fun a ha => hf a (by omega) (by omega) (by omega) (by omega)), by rw [hf 21 (by omega) (by omega) (by omega) (by omega), hf 79 (by omega) (by omega) (by omega) (by omega)]; exact a6, by rw [hf 30 (by omega) (by omega) (by omega) (by omega)]; exact a7, a8.frame (fun a ha => hf a (by omega) (by omega) (by omega) (by omega))⟩
theorem InvC.mlit {n N J t1 N1 : Nat} {rw rw1 : Nat → Nat} {g g' : G} (h : InvC n N J rw g) (hl : mlitOf t1 rw1 N1 g g') : InvC n N J rw g' := h.frame (fun a ha => hl.1 a (by unfold cI at ha; omega) (by unfold cI at ha; omega) (by unfold cI at ha; omega) (by unfold cI at ha; omega)) (hl.2.1 2 (by decide) (by decide)) (hl.2.1 3 (by decide) (by decide))
theorem InvC.thrown {n N J : Nat} {rw : Nat → Nat} {g : G} {v : Int32} (h : InvC n N J rw g) : InvC n N J rw (up g 47 0 v) := h.frame (fun a ha => up_ne (by unfold cI at ha; omega)) (up_slot (by decide)) (up_slot (by decide))
theorem InvC.R {n N J : Nat} {rw : Nat → Nat} {g : G} (h : InvC n N J rw g) : RelR 22 79 N rw g := h.2.2.1
theorem ok_eq {v : Int32} {g : G} : k11_ok v g = some (v, up g 47 0 0) := rfl
theorem hO0 : okO 22 79 := by unfold okO; omega
theorem hO1 : okO 35 86 := by unfold okO; omega
