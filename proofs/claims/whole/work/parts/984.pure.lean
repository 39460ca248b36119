/-! teach: what the tokens mean, token by token -/
/-- two names are the same signs -/
def sameN (B : Nat → Int32) (ps sz : Nat → Nat) (i j : Nat) : Bool := decide (sz i = sz j) && (List.range (sz i)).all fun t => decide (B (ps i + t) = B (ps j + t))
/-- mirrors, their names, orders, width, limit, clarities, offsets -/
abbrev MS : Type := Nat × (Nat → Nat) × Nat × Int32 × Int32 × (Nat → Option Int32) × (Nat → Option Int32)
def fnd (sm : Nat → Nat → Bool) (nms : Nat → Nat) (t : Nat) : Nat → Nat → Option Nat
  | 0, _ => none
  | d + 1, j => if sm (nms j) t = true then some j else fnd sm nms t d (j + 1)
def mvO (sm : Nat → Nat → Bool) (st : MS) (t : Nat) : Option Nat := fnd sm st.2.1 t st.1 0
theorem fnd_lt {sm : Nat → Nat → Bool} {nms : Nat → Nat} {t : Nat} : ∀ (d j r : Nat), fnd sm nms t d j = some r → r < j + d := by
  intro d
  induction d with
  | zero => intro j r h; cases h
  | succ d ih =>
    intro j r h
    unfold fnd at h
    by_cases e : sm (nms j) t = true
    · rw [if_pos e] at h
      have := Option.some.inj h
      omega
    · rw [if_neg e] at h
      have := ih (j + 1) r h
      omega
def newB (kd : Nat → Nat) (i : Nat) : Bool := decide (0 < i) && decide (kd (i - 1) = 0)
def ordB (s : Nat) : Bool := decide (s = 5) || decide (s = 7) || decide (s = 8) || decide (s = 9) || decide (s = 10)
/-- what stands ahead of a number: 1 clarity, 2 offset, 102 offset and a sign, 3 width, 4 limit -/
def ctxN (kd : Nat → Nat) (i : Nat) : Nat := if 1 < i ∧ kd (i - 1) = 41 ∧ kd (i - 2) = 2 then 102 else if 0 < i ∧ kd (i - 1) = 1 then 1 else if 0 < i ∧ kd (i - 1) = 2 then 2 else if 0 < i ∧ kd (i - 1) = 3 then 3 else if 0 < i ∧ kd (i - 1) = 4 then 4 else 0
def errT (kd nm : Nat → Nat) (sm : Nat → Nat → Bool) (st : MS) (i : Nat) : Nat :=
  if kd i = 30 then (if newB kd i = true then (if (mvO sm st i).isSome = true then 2 else if 10 ≤ st.1 then 4 else 0) else (if (mvO sm st i).isSome = true then 0 else 3))
  else if kd i = 31 then (if ctxN kd i = 1 then (if nm i ≤ 100 then 0 else 5) else if ctxN kd i = 2 ∨ ctxN kd i = 102 then (if nm i ≤ 90 then 0 else 5) else if ctxN kd i = 3 then (if nm i ≤ 180 then 0 else 5) else if ctxN kd i = 4 then (if nm i ≤ 10000 then 0 else 5) else 0)
  else if ordB (kd i) = true then (if st.2.2.1 + 1 ≤ 16 then 0 else 4) else 0
def setO (f : Nat → Option Int32) (j : Nat) (v : Int32) : Nat → Option Int32 := fun k => if k = j then some v else f k
def mstep (kd nm : Nat → Nat) (st : MS) (i : Nat) : MS :=
  if kd i = 30 then (if newB kd i = true then (st.1 + 1, (fun k => if k = st.1 then i else st.2.1 k), st.2.2) else st)
  else if kd i = 31 then (if ctxN kd i = 1 then (if 0 < st.1 then (st.1, st.2.1, st.2.2.1, st.2.2.2.1, st.2.2.2.2.1, setO st.2.2.2.2.2.1 (st.1 - 1) (nI (nm i)), st.2.2.2.2.2.2) else st)
    else if ctxN kd i = 2 then (if 0 < st.1 then (st.1, st.2.1, st.2.2.1, st.2.2.2.1, st.2.2.2.2.1, st.2.2.2.2.2.1, setO st.2.2.2.2.2.2 (st.1 - 1) (nI (nm i))) else st)
    else if ctxN kd i = 102 then (if 0 < st.1 then (st.1, st.2.1, st.2.2.1, st.2.2.2.1, st.2.2.2.2.1, st.2.2.2.2.2.1, setO st.2.2.2.2.2.2 (st.1 - 1) (-(nI (nm i)))) else st)
    else if ctxN kd i = 3 then (st.1, st.2.1, st.2.2.1, nI (nm i), st.2.2.2.2) else if ctxN kd i = 4 then (st.1, st.2.1, st.2.2.1, st.2.2.2.1, nI (nm i), st.2.2.2.2.2) else st)
  else if ordB (kd i) = true then (st.1, st.2.1, st.2.2.1 + 1, st.2.2.2) else st
def ms (kd nm : Nat → Nat) : Nat → MS
  | 0 => (0, fun _ => 0, 0, 60, 1000, fun _ => none, fun _ => none)
  | i + 1 => mstep kd nm (ms kd nm i) i
/-- the class's tokens in a state -/
def CT (T K : Nat) (B : Nat → Int32) (kd ps sz nm : Nat → Nat) (g : G) : Prop := TapeC T B g ∧ g 3 5 = nI (K + 1) ∧ (∀ i, i ≤ K → g 4 i = nI (kap (kd i)) ∧ g 5 i = nI (ps i)) ∧ ∀ i, i < K → g 6 i = nI (sz i)
theorem CT.fr {T K : Nat} {B : Nat → Int32} {kd ps sz nm : Nat → Nat} {g g' : G} (h : CT T K B kd ps sz nm g) (hf : ∀ a, 1 ≤ a → a ≤ 6 → g' a = g a) : CT T K B kd ps sz nm g' := by
  obtain ⟨⟨h1, h2⟩, h3, h4, h5⟩ := h
  exact ⟨⟨by rw [hf 1 (by omega) (by omega)]; exact h1, fun p hp => by rw [hf 2 (by omega) (by omega)]; exact h2 p hp⟩, by rw [hf 3 (by omega) (by omega)]; exact h3, fun i hi => by rw [hf 4 (by omega) (by omega), hf 5 (by omega) (by omega)]; exact h4 i hi, fun i hi => by rw [hf 6 (by omega) (by omega)]; exact h5 i hi⟩
section TK
variable {T K : Nat} {B : Nat → Int32} {kd ps sz nm : Nat → Nat}
theorem kindAt_n {g : G} {i : Nat} (hT : Toks T 0 K kd ps sz nm) (h : CT T K B kd ps sz nm g) (hi : i ≤ K) : k6_kindAt (nI i) g = some (nI (kap (kd i))) := by
  have hK := hT.2.1
  unfold k6_kindAt
  rw [if_neg (nI_pos (by omega)), h.2.1, if_neg (by rw [nI_leI (by omega) (by omega)]; omega), ld_n (by omega) (by omega), (h.2.2.1 i hi).1]
theorem kindAt_neg {g : G} {x : Int32} (hx : x < 0) : k6_kindAt x g = some 0 := by
  unfold k6_kindAt
  rw [if_pos hx]
theorem b8_inj {T : Nat} {B : Nat → Int32} {g : G} (h : TapeC T B g) {p q : Nat} (hp : p < T) (hq : q < T) : g 2 p = g 2 q ↔ B p = B q := by
  constructor
  · intro e
    rw [← (h.2 p hp).1, ← (h.2 q hq).1, e]
  · intro e
    rw [(h.2 p hp).2, (h.2 q hq).2, e]
theorem same_loop {g : G} {a b z : Nat} (hB : Bok T B) (h : TapeC T B g) (ha : a + z ≤ T) (hb : b + z ≤ T) : ∀ (d i f : Nat), z = i + d → d < f → k5_holdsSame_33 g f (nI a) (nI b) (nI z) (nI i) = some (if ((List.range d).all fun t => decide (B (a + (i + t)) = B (b + (i + t)))) = true then 1 else 0) := by
  have hT := hB.1
  intro d
  induction d with
  | zero =>
    intro i f hd hf
    obtain ⟨f, rfl⟩ : ∃ z, f = z + 1 := ⟨f - 1, by omega⟩
    unfold k5_holdsSame_33
    rw [if_pos (by rw [nI_leI (by omega) (by omega)]; omega)]
    rfl
  | succ d ih =>
    intro i f hd hf
    obtain ⟨f, rfl⟩ : ∃ z, f = z + 1 := ⟨f - 1, by omega⟩
    unfold k5_holdsSame_33
    rw [if_neg (by rw [nI_leI (by omega) (by omega)]; omega), nI_add, nI_add, ld_n (by omega) (by omega), ld_n (by omega) (by omega), List.range_succ_eq_map, List.all_cons, List.all_map]
    have hc : ((fun t => decide (B (a + (i + t)) = B (b + (i + t)))) ∘ Nat.succ) = fun t => decide (B (a + (i + 1 + t)) = B (b + (i + 1 + t))) := by
      funext t
      show decide (B (a + (i + (t + 1))) = B (b + (i + (t + 1)))) = _
      rw [show i + (t + 1) = i + 1 + t by omega]
    rw [hc]
    by_cases e : B (a + i) = B (b + i)
    · rw [if_pos ((b8_inj h (by omega) (by omega)).mpr e), bd_eq, nI_1, ih (i + 1) f (by omega) (by omega)]
      rw [show decide (B (a + (i + 0)) = B (b + (i + 0))) = true from decide_eq_true e, Bool.true_and]
    · rw [if_neg (fun z => e ((b8_inj h (by omega) (by omega)).mp z))]
      rw [show decide (B (a + (i + 0)) = B (b + (i + 0))) = false from decide_eq_false e, Bool.false_and]
      rfl
theorem areSame_n {g : G} {i j : Nat} (hB : Bok T B) (hT : Toks T 0 K kd ps sz nm) (h : CT T K B kd ps sz nm g) (hi : i < K) (hj : j < K) : k6_areSameNames (nI i) (nI j) g = some (if sameN B ps sz i j = true then 1 else 0) := by
  have hK := hT.2.1
  have hTT := hB.1
  have ti := (hT.2.2.1 i (by omega) hi).2.1
  have tj := (hT.2.2.1 j (by omega) hj).2.1
  unfold k6_areSameNames sameN
  rw [if_neg (nI_pos (by omega)), h.2.1, if_neg (by rw [nI_leI (by omega) (by omega)]; omega), if_neg (nI_pos (by omega)), if_pos ((nI_ltI (by omega) (by omega)).mpr (by omega)), ld_n (by omega) (by omega), ld_n (by omega) (by omega), h.2.2.2 i hi, h.2.2.2 j hj]
  by_cases e : sz i = sz j
  · rw [if_pos (by rw [e]), ld_n (by omega) (by omega), ld_n (by omega) (by omega), ld_n (by omega) (by omega), (h.2.2.1 i (by omega)).2, (h.2.2.1 j (by omega)).2, h.2.2.2 i hi]
    unfold k5_holdsSame
    rw [if_neg (nI_pos (by omega)), h.1.1, nI_sub (by omega) (by omega), if_neg (by rw [nI_ltI (by omega) (by omega)]; omega), if_neg (nI_pos (by omega)), if_pos ((nI_leI (by omega) (by omega)).mpr (by omega))]
    rw [show k5_holdsSame_33 g FU (nI (ps i)) (nI (ps j)) (nI (sz i)) 0 = _ from same_loop hB h.1 ti (by omega) (sz i) 0 FU (by omega) (by unfold FU; omega), some_bind, show decide (sz i = sz j) = true from decide_eq_true e, Bool.true_and]
    simp only [Nat.zero_add]
    by_cases q : ((List.range (sz i)).all fun t => decide (B (ps i + t) = B (ps j + t))) = true
    · rw [if_pos q, if_neg (by decide)]
    · rw [if_neg q, if_pos rfl]
  · rw [if_neg (fun z => e ((nI_eq (by omega) (by omega)).mp z)), show decide (sz i = sz j) = false from decide_eq_false e, Bool.false_and]
    rfl
/-- the names told so far are those of the state -/
theorem named_loop {g : G} {st : MS} {t : Nat} (hB : Bok T B) (hT : Toks T 0 K kd ps sz nm) (h : CT T K B kd ps sz nm g) (ht : t < K) (hM : g 8 4 = nI st.1) (hM9 : st.1 ≤ 10) (hn : ∀ j, j < st.1 → g 15 j = nI (st.2.1 j) ∧ st.2.1 j < K) : ∀ (d j f : Nat), st.1 = j + d → d < f → k1_mirrorNamed_2 g f (nI t) (nI j) = some (optI (fnd (sameN B ps sz) st.2.1 t d j)) := by
  have hK := hT.2.1
  intro d
  induction d with
  | zero =>
    intro j f hd hf
    obtain ⟨f, rfl⟩ : ∃ z, f = z + 1 := ⟨f - 1, by omega⟩
    unfold k1_mirrorNamed_2
    rw [hM, if_pos (by rw [nI_leI (by omega) (by omega)]; omega)]
    rfl
  | succ d ih =>
    intro j f hd hf
    obtain ⟨f, rfl⟩ : ∃ z, f = z + 1 := ⟨f - 1, by omega⟩
    obtain ⟨n1, n2⟩ := hn j (by omega)
    unfold k1_mirrorNamed_2 fnd
    rw [hM, if_neg (by rw [nI_leI (by omega) (by omega)]; omega), if_neg (fun z => absurd ((lit_le (M := 10) (k := 10) rfl (by omega) (by omega)).mp z) (by omega)), ld_n (by omega) (by omega), n1, areSame_n hB hT h n2 ht, some_bind]
    by_cases e : sameN B ps sz (st.2.1 j) t = true
    · rw [if_pos e, if_neg (by decide), if_pos e]
      rfl
    · rw [if_neg e, if_pos rfl, bd_eq, nI_1, if_neg e]
      exact ih (j + 1) f (by omega) (by omega)
theorem named_n {g : G} {st : MS} {t : Nat} (hB : Bok T B) (hT : Toks T 0 K kd ps sz nm) (h : CT T K B kd ps sz nm g) (ht : t < K) (hM : g 8 4 = nI st.1) (hM9 : st.1 ≤ 10) (hn : ∀ j, j < st.1 → g 15 j = nI (st.2.1 j) ∧ st.2.1 j < K) : k1_mirrorNamed (nI t) g = some (optI (mvO (sameN B ps sz) st t)) := named_loop hB hT h ht hM hM9 hn st.1 0 FU (by omega) (by unfold FU; omega)
end TK
