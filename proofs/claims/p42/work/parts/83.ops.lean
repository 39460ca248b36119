/-! what is done to the train -/
def holdV (x : Int64) (lo hi : Int32) : Int32 := (if (if x < hi.toInt64 then x else hi.toInt64) < lo.toInt64 then lo.toInt64 else (if x < hi.toInt64 then x else hi.toInt64)).toInt32
theorem k8_hold_eq {x : Int64} {lo hi : Int32} {g : G} : k8_hold x lo hi g = some (holdV x lo hi) := rfl
theorem dust_all : ((List.range 101).all fun i => (List.range 101).all fun j => decide (holdV ((nI i).toInt64 - (nI j).toInt64) 0 100 = (if 0 < nI i - nI j then nI i - nI j else 0) ∧ 0 ≤ (if 0 < nI i - nI j then nI i - nI j else 0) ∧ (if 0 < nI i - nI j then nI i - nI j else 0) ≤ 100)) = true := by decide +kernel
theorem dust_eq {c d : Int32} (hc : 0 ≤ c ∧ c ≤ 100) (hd : ¬ d < 0 ∧ d ≤ 100) : holdV (c.toInt64 - d.toInt64) 0 100 = (if 0 < c - d then c - d else 0) ∧ 0 ≤ (if 0 < c - d then c - d else 0) ∧ (if 0 < c - d then c - d else 0) ≤ 100 := by
  obtain ⟨i, hi, rfl⟩ := nI_of2 (M := 100) (n := 100) rfl (Int32.not_lt.mpr hc.1) hc.2
  obtain ⟨j, hj, rfl⟩ := nI_of2 (M := 100) (n := 100) rfl hd.1 hd.2
  exact of_decide_eq_true (List.all_eq_true.mp (List.all_eq_true.mp dust_all i (List.mem_range.mpr (by omega))) j (List.mem_range.mpr (by omega)))
theorem holdV_rng {x : Int64} {lo hi : Int32} (h : lo ≤ hi) : lo ≤ holdV x lo hi ∧ holdV x lo hi ≤ hi := by
  have h1 : lo.toInt ≤ hi.toInt := Int32.le_iff_toInt_le.mp h
  have a1 := Int32.le_toInt lo
  have a2 := Int32.toInt_lt hi
  have key : ∀ z : Int64, lo.toInt ≤ z.toInt → z.toInt ≤ hi.toInt → lo ≤ z.toInt32 ∧ z.toInt32 ≤ hi := by
    intro z z1 z2
    have e : z.toInt32.toInt = z.toInt := by
      rw [Int64.toInt_toInt32, Int.bmod_eq_of_le (by omega) (by omega)]
    exact ⟨Int32.le_iff_toInt_le.mpr (by rw [e]; exact z1), Int32.le_iff_toInt_le.mpr (by rw [e]; exact z2)⟩
  unfold holdV
  by_cases e : x < hi.toInt64
  · rw [if_pos e]
    have e' := Int64.lt_iff_toInt_lt.mp e
    rw [Int32.toInt_toInt64] at e'
    by_cases e2 : x < lo.toInt64
    · rw [if_pos e2]
      exact key _ (by rw [Int32.toInt_toInt64]; omega) (by rw [Int32.toInt_toInt64]; omega)
    · rw [if_neg e2]
      have e2' := Int64.not_lt.mp e2
      rw [Int64.le_iff_toInt_le, Int32.toInt_toInt64] at e2'
      exact key _ e2' (by omega)
  · rw [if_neg e]
    by_cases e2 : hi.toInt64 < lo.toInt64
    · rw [if_pos e2]
      exact key _ (by rw [Int32.toInt_toInt64]; omega) (by rw [Int32.toInt_toInt64]; omega)
    · rw [if_neg e2]
      exact key _ (by rw [Int32.toInt_toInt64]; omega) (by rw [Int32.toInt_toInt64]; omega)
def updN (f : Nat → Nat) (k v : Nat) : Nat → Nat := fun i => if i = k then v else f i
def updI (f : Nat → Int32) (k : Nat) (v : Int32) : Nat → Int32 := fun i => if i = k then v else f i
theorem updI_eq {f : Nat → Int32} {k : Nat} {v : Int32} : updI f k v k = v := if_pos rfl
theorem updI_ne {f : Nat → Int32} {k i : Nat} {v : Int32} (h : i ≠ k) : updI f k v i = f i := if_neg h
theorem updN_eq {f : Nat → Nat} {k v : Nat} : updN f k v k = v := if_pos rfl
theorem updN_ne {f : Nat → Nat} {k i v : Nat} (h : i ≠ k) : updN f k v i = f i := if_neg h
/-- is there a job of this kind for this mirror -/
def jfd (A : TA) (v : Int32) (m : Nat) : Nat → Nat → Bool
  | 0, _ => false
  | d + 1, p => if A.jk p = v ∧ A.jm p = m then true else jfd A v m d (p + 1)
theorem jfd_f {A : TA} {v : Int32} {m : Nat} : ∀ d p, jfd A v m d p = false → ∀ i, p ≤ i → i < p + d → ¬ (A.jk i = v ∧ A.jm i = m) := by
  intro d
  induction d with
  | zero => intro p _ i h1 h2; omega
  | succ d ih =>
    intro p h i h1 h2
    unfold jfd at h
    by_cases e : A.jk p = v ∧ A.jm p = m
    · rw [if_pos e] at h; cases h
    · rw [if_neg e] at h
      by_cases q : i = p
      · rw [q]; exact e
      · exact ih (p + 1) h i (by omega) (by omega)
def jhas (A : TA) (v : Int32) (m : Nat) : Bool := jfd A v m A.J 0
def ordA (A : TA) (v : Int32) (m : Nat) : TA := if jhas A v m = true then A else if 12 ≤ A.J then A else A.sQ (A.J + 1) (updI A.jk A.J v) (updN A.jm A.J m) A.go
def takeA (A : TA) (i : Nat) : TA := A.sQ (A.J - 1) (fun k => if k < i then A.jk k else A.jk (k + 1)) (fun k => if k < i then A.jm k else A.jm (k + 1)) (if i = 0 then 0 else A.go)
def turnA (A : TA) (m : Nat) (v : Int32) : TA := A.sOf (updI A.of m v)
def clarA (A : TA) (m : Nat) (v : Int32) : TA := A.sCl (updI A.cl m v)
def moveA (A : TA) (m p : Nat) : TA := A.sRw (mvR A.rw (plc A m) p)
theorem nI_inj {a b : Nat} (ha : a < 2 ^ 31) (hb : b < 2 ^ 31) (h : nI a = nI b) : a = b := (nI_eq ha hb).mp h
/-! jobs: the class takes one in -/
theorem takes_loop {w m : Nat} {v : Int32} {A : TA} {g : G} (hA : WA A) (h : RW w A g) (hm : m < A.N) : ∀ (d p f : Nat), A.J = p + d → d < f → k3_takesIn_2 (w + 9) g f v (nI m) (nI p) = some (if jfd A v m d p = true then 0 else if 12 ≤ A.J then 0 else 1) := by
  have hJ := hA.J12
  have hN := hA.N9
  intro d
  induction d with
  | zero =>
    intro p f hd hf
    obtain ⟨f, rfl⟩ : ∃ z, f = z + 1 := ⟨f - 1, by omega⟩
    have j0 : ¬ jfd A v m 0 p = true := by unfold jfd; decide
    rw [if_neg j0]
    unfold k3_takesIn_2
    rw [h.J, if_pos (by rw [nI_leI (by omega) (by omega)]; omega)]
    by_cases e : 12 ≤ A.J
    · rw [if_pos ((lit_le (M := 12) (k := 12) rfl (by omega) (by omega)).mpr e), if_pos e]
    · rw [if_neg (fun z => e ((lit_le (M := 12) (k := 12) rfl (by omega) (by omega)).mp z)), if_neg e]
  | succ d ih =>
    intro p f hd hf
    obtain ⟨f, rfl⟩ : ∃ z, f = z + 1 := ⟨f - 1, by omega⟩
    have hp : p < A.J := by omega
    obtain ⟨k1, k2⟩ := h.j hp
    have hjm := (hA.jb hp).1
    have step := ih (p + 1) f (by omega) (by omega)
    have j1 : (A.jk p = v ∧ A.jm p = m) → jfd A v m (d + 1) p = true := fun z => if_pos z
    have j2 : ¬ (A.jk p = v ∧ A.jm p = m) → jfd A v m (d + 1) p = jfd A v m d (p + 1) := fun z => if_neg z
    unfold k3_takesIn_2
    rw [h.J, if_neg (by rw [nI_leI (by omega) (by omega)]; omega), ld_n (by omega) (by omega), k1]
    by_cases e : A.jk p = v
    · rw [if_pos e, ld_n (by omega) (by omega), k2]
      by_cases e2 : A.jm p = m
      · rw [if_pos (by rw [e2]), if_pos (j1 ⟨e, e2⟩)]
      · rw [if_neg (fun z => e2 (nI_inj (by omega) (by omega) z)), bd_eq, nI_1, step, j2 (fun z => e2 z.2)]
    · rw [if_neg e, bd_eq, nI_1, step, j2 (fun z => e z.1)]
theorem takes_ok {w m : Nat} {v : Int32} {A : TA} {g : G} (hA : WA A) (h : RW w A g) (hm : m < A.N) : k3_takesIn (w + 9) v (nI m) g = some (if jhas A v m = true then 0 else if 12 ≤ A.J then 0 else 1) := takes_loop hA h hm A.J 0 FU (by omega) (by have := hA.J12; unfold FU; omega)
theorem ordA_has {A : TA} {v : Int32} {m : Nat} (h : jhas A v m = true) : ordA A v m = A := if_pos h
theorem ordA_full {A : TA} {v : Int32} {m : Nat} (h : 12 ≤ A.J) : ordA A v m = A := by
  unfold ordA
  rw [if_pos h]
  exact ite_self _
theorem ordA_new {A : TA} {v : Int32} {m : Nat} (h : ¬ jhas A v m = true) (h2 : ¬ 12 ≤ A.J) : ordA A v m = A.sQ (A.J + 1) (updI A.jk A.J v) (updN A.jm A.J m) A.go := by
  unfold ordA
  rw [if_neg h, if_neg h2]
theorem ordA_N {A : TA} {v : Int32} {m : Nat} : (ordA A v m).N = A.N := by
  unfold ordA
  split
  · rfl
  · split <;> rfl
theorem WA.ord {A : TA} {v : Int32} {m : Nat} (h : WA A) (hm : m < A.N) (hv : v = 0 ∨ v = 1 ∨ v = 2) : WA (ordA A v m) := by
  by_cases e : jhas A v m = true
  · rw [ordA_has e]; exact h
  · by_cases e2 : 12 ≤ A.J
    · rw [ordA_full e2]; exact h
    · rw [ordA_new e e2]
      have hj0 : jfd A v m A.J 0 = false := by
        have e' := e
        unfold jhas at e'
        cases hq : jfd A v m A.J 0 with
        | true => exact absurd hq e'
        | false => rfl
      have hf := jfd_f A.J 0 hj0
      obtain ⟨h1, h2, h3, h4, h5, h6, h7, h8, h9⟩ := h
      refine ⟨h1, h2, h3, h4, by show A.J + 1 ≤ 12; omega, fun k hk => ?_, fun k j hkj hj => ?_, h8, fun z => absurd z (by show ¬ A.J + 1 = 0; omega)⟩
      · have hk : k < A.J + 1 := hk
        show updN A.jm A.J m k < A.N ∧ (updI A.jk A.J v k = 0 ∨ updI A.jk A.J v k = 1 ∨ updI A.jk A.J v k = 2)
        by_cases q : k = A.J
        · subst q
          rw [updN_eq, updI_eq]
          exact ⟨hm, hv⟩
        · rw [updN_ne q, updI_ne q]
          exact h6 k (by omega)
      · have hj : j < A.J + 1 := hj
        show ¬ (updI A.jk A.J v k = updI A.jk A.J v j ∧ updN A.jm A.J m k = updN A.jm A.J m j)
        rw [updI_ne (show k ≠ A.J by omega), updN_ne (show k ≠ A.J by omega)]
        by_cases q : j = A.J
        · subst q
          rw [updN_eq, updI_eq]
          exact hf k (by omega) (by omega)
        · rw [updN_ne q, updI_ne q]
          exact h7 k j hkj (by omega)
/-- cells that a job taken in leaves alone -/
def fJ (w : Nat) (g g' : G) : Prop := ∀ a, a ≠ w + 9 → a ≠ w + 9 + 1 → a ≠ w + 9 + 2 → g' a = g a
theorem cov_ord {A : TA} {v : Int32} {m : Nat} (h : WA A) : cov (A.sQ (A.J + 1) (updI A.jk A.J v) (updN A.jm A.J m) A.go) = cov A := by
  unfold cov
  show (if A.go ≤ 0 then (-1 : Int32) else nI (updN A.jm A.J m 0)) = _
  by_cases e : A.go ≤ 0
  · rw [if_pos e, if_pos e]
  · rw [if_neg e, if_neg e, updN_ne (fun z => e (by rw [h.J0 z.symm]; decide))]
theorem add_ok {w m : Nat} {v : Int32} {A : TA} {g : G} (hA : WA A) (h : RW w A g) (hm : m < A.N) : ∃ g', k3_add (w + 9) v (nI m) g = some g' ∧ fJ w g g' ∧ RW w (ordA A v m) g' := by
  have ht := takes_ok (v := v) hA h hm
  by_cases e : jhas A v m = true
  · refine ⟨g, ?_, fun _ _ _ _ => rfl, by rw [ordA_has e]; exact h⟩
    unfold k3_add
    rw [ht, some_bind, if_pos e, if_pos rfl]
  · by_cases e2 : 12 ≤ A.J
    · refine ⟨g, ?_, fun _ _ _ _ => rfl, by rw [ordA_full e2]; exact h⟩
      unfold k3_add
      rw [ht, some_bind, if_neg e, if_pos e2, if_pos rfl]
    · refine ⟨up (up (up g (w + 9 + 1) A.J v) (w + 9 + 2) A.J (nI m)) (w + 9) 2 (nI (A.J + 1)), ?_, fun a a1 a2 a3 => ?_, ?_⟩
      · unfold k3_add
        rw [ht, some_bind, if_neg e, if_neg e2, if_neg (by decide), h.J, sto_n (by omega) (by omega), up_other (by omega), h.J, sto_n (by omega) (by omega), bd_eq, up_other (by omega), up_other (by omega), h.J, nI_1]
      · rw [up_ne a1, up_ne a3, up_ne a2]
      · rw [ordA_new e e2]
        have o1 : ∀ a, a ≠ w + 9 → a ≠ w + 9 + 1 → a ≠ w + 9 + 2 → up (up (up g (w + 9 + 1) A.J v) (w + 9 + 2) A.J (nI m)) (w + 9) 2 (nI (A.J + 1)) a = g a := fun a a1 a2 a3 => by rw [up_ne a1, up_ne a3, up_ne a2]
        have o2 : ∀ k, k ≠ 2 → up (up (up g (w + 9 + 1) A.J v) (w + 9 + 2) A.J (nI m)) (w + 9) 2 (nI (A.J + 1)) (w + 9) k = g (w + 9) k := fun k hk => by rw [up_slot hk, up_other (by omega), up_other (by omega)]
        generalize hg : up (up (up g (w + 9 + 1) A.J v) (w + 9 + 2) A.J (nI m)) (w + 9) 2 (nI (A.J + 1)) = g' at o1 o2
        refine ⟨by rw [o1 _ (by omega) (by omega) (by omega)]; exact h.N, by rw [o1 _ (by omega) (by omega) (by omega)]; exact h.W, by rw [o1 _ (by omega) (by omega) (by omega)]; exact h.lim, by rw [o1 _ (by omega) (by omega) (by omega), cov_ord hA]; exact h.cv, isRow_same (o1 _ (by omega) (by omega) (by omega)) h.row, fun i hi => ?_, litOK_same (fun i _ => o1 _ (by omega) (by omega) (by omega)) h.lok, ?_, by rw [o2 3 (by decide)]; exact h.go, by rw [o2 4 (by decide)]; exact h.dn, fun k hk => ?_, by rw [o1 _ (by omega) (by omega) (by omega)]; exact h.mi⟩
        · rw [o1 _ (by omega) (by omega) (by omega), o1 _ (by omega) (by omega) (by omega), o1 _ (by omega) (by omega) (by omega)]
          exact h.m hi
        · rw [← hg, up_self]
          rfl
        · have hk : k < A.J + 1 := hk
          show g' (w + 9 + 1) k = updI A.jk A.J v k ∧ g' (w + 9 + 2) k = nI (updN A.jm A.J m k)
          have c1 : g' (w + 9 + 1) k = up g (w + 9 + 1) A.J v (w + 9 + 1) k := by rw [← hg, up_other (by omega), up_other (by omega)]
          have c2 : g' (w + 9 + 2) k = up (up g (w + 9 + 1) A.J v) (w + 9 + 2) A.J (nI m) (w + 9 + 2) k := by rw [← hg, up_other (by omega)]
          rw [c1, c2]
          by_cases q : k = A.J
          · subst q
            rw [up_self, up_self, updI_eq, updN_eq]
            exact ⟨rfl, rfl⟩
          · rw [up_slot q, up_slot q, up_other (by omega), updI_ne q, updN_ne q]
            exact h.j (by omega)
theorem RPl.J {P : List OR4} {g g' : G} (h : RPl P g) (hf : fJ 21 g g') : RPl P g' := h.frame (hf 16 (by decide) (by decide) (by decide)) (hf 19 (by decide) (by decide) (by decide)) (hf 20 (by decide) (by decide) (by decide))
/-- ordered by hand: the answer, or thrown -/
theorem q_orderJob {A : TA} {P : List OR4} {g : G} {m k : Nat} (h : RC A P g) (hm : m < A.N) (hk : k < 3) : ∃ g' e v, k8_orderJob (nI m) (nI k) g = some (e, v, g') ∧ RC (ordA A (nI k) m) P g' ∧ ((jhas A (nI k) m = true ∨ 12 ≤ A.J) → e = 1) ∧ (¬ jhas A (nI k) m = true → ¬ 12 ≤ A.J → e = 0 ∧ v = nI (A.J + 1)) := by
  have ht : k3_takesIn 30 (nI k) (nI m) g = some (if jhas A (nI k) m = true then 0 else if 12 ≤ A.J then 0 else 1) := takes_ok h.w h.r hm
  have hk2 : nI k ≤ 2 := (nI_leI (b := 2) (by omega) (by omega)).mpr (by omega)
  by_cases e : jhas A (nI k) m = true
  · refine ⟨g, 1, 0, ?_, by rw [ordA_has e]; exact h, fun _ => rfl, fun z => absurd e z⟩
    unfold k8_orderJob
    rw [h.chk hm, xb_0, if_neg (nI_pos (by omega)), if_pos hk2, ht, some_bind, if_pos e, if_pos rfl]
  · by_cases e2 : 12 ≤ A.J
    · refine ⟨g, 1, 0, ?_, by rw [ordA_full e2]; exact h, fun _ => rfl, fun _ z => absurd e2 z⟩
      unfold k8_orderJob
      rw [h.chk hm, xb_0, if_neg (nI_pos (by omega)), if_pos hk2, ht, some_bind, if_neg e, if_pos e2, if_pos rfl]
    · obtain ⟨g', e1, f1, r1⟩ := add_ok (v := nI k) h.w h.r hm
      have e1 : k3_add 30 (nI k) (nI m) g = some g' := e1
      refine ⟨g', 0, g' 30 2, ?_, ⟨r1, h.w.ord hm (by
        rcases (show k = 0 ∨ k = 1 ∨ k = 2 by omega) with rfl | rfl | rfl
        · exact Or.inl rfl
        · exact Or.inr (Or.inl rfl)
        · exact Or.inr (Or.inr rfl)), h.p.J f1, by rw [f1 1 (by decide) (by decide) (by decide)]; exact h.t⟩, fun z => (z.elim (fun y => absurd y e) (fun y => absurd y e2)), fun _ _ => ⟨rfl, ?_⟩⟩
      · unfold k8_orderJob
        rw [h.chk hm, xb_0, if_neg (nI_pos (by omega)), if_pos hk2, ht, some_bind, if_neg e, if_neg e2, if_neg (by decide), e1]
        rfl
      · have := r1.J
        rw [ordA_new e e2] at this
        exact this
/-! jobs: one is taken away -/
theorem cov_take0 {A : TA} : cov (takeA A 0) = -1 := by
  unfold cov takeA
  show (if (if (0 : Nat) = 0 then (0 : Int32) else A.go) ≤ 0 then (-1 : Int32) else _) = _
  rw [if_pos (rfl : (0 : Nat) = 0), if_pos (show (0 : Int32) ≤ 0 by decide)]
theorem cov_takeS {A : TA} {i : Nat} (hi : i ≠ 0) : cov (takeA A i) = cov A := by
  unfold cov takeA
  show (if (if i = 0 then (0 : Int32) else A.go) ≤ 0 then (-1 : Int32) else nI (if 0 < i then A.jm 0 else A.jm (0 + 1))) = _
  rw [if_neg hi, if_pos (show 0 < i by omega)]
theorem WA.take {A : TA} {i : Nat} (h : WA A) (hi : i < A.J) : WA (takeA A i) := by
  obtain ⟨h1, h2, h3, h4, h5, h6, h7, h8, h9⟩ := h
  refine ⟨h1, h2, h3, h4, by show A.J - 1 ≤ 12; omega, fun k hk => ?_, fun k j hkj hj => ?_, ?_, fun z => ?_⟩
  · have hk : k < A.J - 1 := hk
    show (if k < i then A.jm k else A.jm (k + 1)) < A.N ∧ ((if k < i then A.jk k else A.jk (k + 1)) = 0 ∨ (if k < i then A.jk k else A.jk (k + 1)) = 1 ∨ (if k < i then A.jk k else A.jk (k + 1)) = 2)
    by_cases e : k < i
    · rw [if_pos e, if_pos e]; exact h6 k (by omega)
    · rw [if_neg e, if_neg e]; exact h6 (k + 1) (by omega)
  · have hj : j < A.J - 1 := hj
    show ¬ ((if k < i then A.jk k else A.jk (k + 1)) = (if j < i then A.jk j else A.jk (j + 1)) ∧ (if k < i then A.jm k else A.jm (k + 1)) = (if j < i then A.jm j else A.jm (j + 1)))
    by_cases e : k < i <;> by_cases e2 : j < i
    · rw [if_pos e, if_pos e, if_pos e2, if_pos e2]; exact h7 k j hkj (by omega)
    · rw [if_pos e, if_pos e, if_neg e2, if_neg e2]; exact h7 k (j + 1) (by omega) (by omega)
    · omega
    · rw [if_neg e, if_neg e, if_neg e2, if_neg e2]; exact h7 (k + 1) (j + 1) (by omega) (by omega)
  · show ¬ (if i = 0 then (0 : Int32) else A.go) < 0
    by_cases e : i = 0
    · rw [if_pos e]; decide
    · rw [if_neg e]; exact h8
  · have z : A.J - 1 = 0 := z
    show (if i = 0 then (0 : Int32) else A.go) = 0
    by_cases e : i = 0
    · rw [if_pos e]
    · omega
theorem drop_ok {w i : Nat} {A : TA} {g : G} (hA : WA A) (h : RW w A g) (hi : i < A.J) : ∃ g', k7_dropJob w (nI i) g = some g' ∧ (∀ b, b ≠ w + 1 → b ≠ w + 9 → b ≠ w + 9 + 1 → b ≠ w + 9 + 2 → g' b = g b) ∧ RW w (takeA A i) g' := by
  have hJ := hA.J12
  obtain ⟨g', e1, f1, f2, f3, f4, f5, f6, f7, f8, f9⟩ := drop_c (o := w) (a := i) (J := A.J - 1) (g := g) (by omega) (by omega) (by rw [h.J]; congr 1; omega)
  have hc : ∀ i, 1 ≤ i → i ≤ 7 → g' (w + 1 + i) = g (w + 1 + i) := fun i h1 h2 => f1 _ (by omega) (by omega) (by omega) (by omega)
  refine ⟨g', e1, f1, by rw [f2 7 (by decide) (by decide)]; exact h.N, by rw [f2 8 (by decide) (by decide)]; exact h.W, by rw [f2 9 (by decide) (by decide)]; exact h.lim, ?_, isRow_same (hc 4 (by omega) (by omega)) h.row, fun m hm => ?_, ?_, f5, ?_, by rw [f7]; exact h.dn, fun k hk => ?_, by rw [f1 w (by omega) (by omega) (by omega) (by omega)]; exact h.mi⟩
  · by_cases e : i = 0
    · subst e
      rw [cov_take0]
      exact (f3 rfl).1
    · rw [cov_takeS e, f4 e]
      exact h.cv
  · rw [hc 1 (by omega) (by omega), hc 2 (by omega) (by omega), hc 3 (by omega) (by omega)]
    exact h.m hm
  · by_cases e : i = 0
    · exact Or.inl (f3 e).2
    · exact litOK_same (fun j hj => by
        by_cases z : j = 0
        · rw [z]; exact f4 e
        · exact hc j (by omega) hj) h.lok
  · rw [f6, h.go]
    rfl
  · have hk : k < A.J - 1 := hk
    obtain ⟨s1, s2, -⟩ := f8
    obtain ⟨t1, t2, -⟩ := f9
    show g' (w + 9 + 1) k = (if k < i then A.jk k else A.jk (k + 1)) ∧ g' (w + 9 + 2) k = nI (if k < i then A.jm k else A.jm (k + 1))
    by_cases e : k < i
    · rw [if_pos e, if_pos e, s1 k e, t1 k e]
      exact h.j (by omega)
    · rw [if_neg e, if_neg e, s2 k (by omega) (by omega), t2 k (by omega) (by omega)]
      exact h.j (by omega)
theorem q_cancelJob {A : TA} {P : List OR4} {g : G} {i : Nat} (h : RC A P g) (hi : i < A.J) : ∃ g', k8_cancelJob (nI i) g = some (0, nI (A.jm i), g') ∧ RC (takeA A i) P g' := by
  obtain ⟨g', e1, f1, r1⟩ := drop_ok h.w h.r hi
  have e : k3_mirrorIn 30 (nI i) g = some (nI (A.jm i)) := mirIn_n h.w h.r hi
  refine ⟨g', ?_, r1, h.w.take hi, h.p.frame (f1 16 (by decide) (by decide) (by decide) (by decide)) (f1 19 (by decide) (by decide) (by decide) (by decide)) (f1 20 (by decide) (by decide) (by decide) (by decide)), by rw [f1 1 (by decide) (by decide) (by decide) (by decide)]; exact h.t⟩
  unfold k8_cancelJob
  rw [h.chkJ hi, xb_0, e, some_bind, e1]
  rfl
/-! a mirror is turned, gets dusty, is moved -/
theorem cov_of {A : TA} {f : Nat → Int32} : cov (A.sOf f) = cov A := rfl
theorem cov_cl {A : TA} {f : Nat → Int32} : cov (A.sCl f) = cov A := rfl
theorem cov_be {A : TA} {f : Nat → Int32} : cov (A.sBe f) = cov A := rfl
/-- a number of a mirror written: i 1 clarity, 2 best, 3 offset -/
theorem RW.wr {w : Nat} {A A' : TA} {g g' : G} (h : RW w A g) (hs : A'.N = A.N ∧ A'.W = A.W ∧ A'.lim = A.lim ∧ A'.rw = A.rw ∧ A'.J = A.J ∧ A'.jk = A.jk ∧ A'.jm = A.jm ∧ A'.go = A.go ∧ A'.mi = A.mi ∧ A'.dn = A.dn) (hf : ∀ a, a ≠ w + 1 → a ≠ w + 1 + 1 → a ≠ w + 1 + 2 → a ≠ w + 1 + 3 → g' a = g a) (hk : ∀ k, k ≠ 13 → g' (w + 1) k = g (w + 1) k) (h0 : g' (w + 1) 13 = 0) (hm : ∀ m, m < A.N → g' (w + 1 + 1) m = A'.cl m ∧ g' (w + 1 + 2) m = A'.be m ∧ g' (w + 1 + 3) m = A'.of m) : RW w A' g' := by
  obtain ⟨s1, s2, s3, s4, s5, s6, s7, s8, s9, s10⟩ := hs
  have sc : cov A' = cov A := by
    unfold cov
    rw [s7, s8]
  refine ⟨by rw [hk 7 (by decide), s1]; exact h.N, by rw [hk 8 (by decide), s2]; exact h.W, by rw [hk 9 (by decide), s3]; exact h.lim, by rw [hk 10 (by decide), sc]; exact h.cv, by rw [s1, s4]; exact isRow_same (hf _ (by omega) (by omega) (by omega) (by omega)) h.row, by rw [s1]; exact hm, Or.inl h0, ?_, ?_, ?_, fun k hk => ?_, ?_⟩
  · rw [hf _ (by omega) (by omega) (by omega) (by omega), s5]; exact h.J
  · rw [hf _ (by omega) (by omega) (by omega) (by omega), s8]; exact h.go
  · rw [hf _ (by omega) (by omega) (by omega) (by omega), s10]; exact h.dn
  · rw [hf _ (by omega) (by omega) (by omega) (by omega), hf _ (by omega) (by omega) (by omega) (by omega), s6, s7]
    exact h.j (by rw [← s5]; exact hk)
  · rw [hf _ (by omega) (by omega) (by omega) (by omega), s9]; exact h.mi
/-- cells that a number of a mirror may stand in -/
def fM (w : Nat) (g g' : G) : Prop := ∀ a, a ≠ w + 1 → a ≠ w + 1 + 1 → a ≠ w + 1 + 2 → a ≠ w + 1 + 3 → a ≠ w + 1 + 4 → a ≠ w + 1 + 5 → a ≠ w + 1 + 6 → a ≠ w + 1 + 7 → g' a = g a
theorem fQ.m {w : Nat} {g g' : G} (h : fQ w g g') : fM w g g' := fun a h0 _ _ _ _ h5 h6 h7 => h.1 a h0 h5 h6 h7
theorem fM.trans {w : Nat} {a b c : G} (h : fM w a b) (h' : fM w b c) : fM w a c := fun x h0 h1 h2 h3 h4 h5 h6 h7 => (h' x h0 h1 h2 h3 h4 h5 h6 h7).trans (h x h0 h1 h2 h3 h4 h5 h6 h7)
theorem RPl.M {P : List OR4} {g g' : G} (h : RPl P g) (hf : fM 21 g g') : RPl P g' := h.frame (hf 16 (by decide) (by decide) (by decide) (by decide) (by decide) (by decide) (by decide) (by decide)) (hf 19 (by decide) (by decide) (by decide) (by decide) (by decide) (by decide) (by decide) (by decide)) (hf 20 (by decide) (by decide) (by decide) (by decide) (by decide) (by decide) (by decide) (by decide))
theorem RC.M {A A' : TA} {P : List OR4} {g g' : G} (h : RC A P g) (hf : fM 21 g g') (r : RW 21 A' g') (hw : WA A') : RC A' P g' := ⟨r, hw, h.p.M hf, by rw [hf 1 (by decide) (by decide) (by decide) (by decide) (by decide) (by decide) (by decide) (by decide)]; exact h.t⟩
theorem turn_ok {w m : Nat} {v : Int32} {A : TA} {g : G} (h : RW w A g) (hm : m < A.N) : ∃ g', k4_turn (w + 1) (nI m) v g = some g' ∧ fM w g g' ∧ RW w (turnA A m v) g' := by
  have := h.N9
  refine ⟨up (up g (w + 1 + 3) m v) (w + 1) 13 0, ?_, fun a a0 a1 a2 a3 _ _ _ _ => by rw [up_ne a0, up_ne a3], h.wr ⟨rfl, rfl, rfl, rfl, rfl, rfl, rfl, rfl, rfl, rfl⟩ (fun a a0 a1 a2 a3 => by rw [up_ne a0, up_ne a3]) (fun k hk => by rw [up_slot hk, up_other (by omega)]) up_self (fun i hi => ?_)⟩
  · unfold k4_turn
    rw [rw_pre h hm, some_bind, if_neg (by decide), sto_n (by omega) (by omega), bd_eq]
  · rw [up_other (by omega), up_other (by omega), up_other (by omega), up_other (by omega), up_other (by omega)]
    obtain ⟨b1, b2, b3⟩ := h.m hi
    refine ⟨b1, b2, ?_⟩
    show up g (w + 1 + 3) m v (w + 1 + 3) i = updI A.of m v i
    by_cases q : i = m
    · subst q; rw [up_self, updI_eq]
    · rw [up_slot q, updI_ne q, b3]
theorem WA.turn {A : TA} {m : Nat} {v : Int32} (h : WA A) (hv : -90 ≤ v ∧ v ≤ 90) : WA (turnA A m v) := by
  obtain ⟨h1, h2, h3, h4, h5⟩ := h
  refine ⟨h1, h2, h3, fun i hi => ?_, h5⟩
  obtain ⟨b1, b2, b3⟩ := h4 i hi
  refine ⟨b1, b2, ?_⟩
  show -90 ≤ updI A.of m v i ∧ updI A.of m v i ≤ 90
  by_cases q : i = m
  · subst q; rw [updI_eq]; exact hv
  · rw [updI_ne q]; exact b3
theorem q_turnMirror {A : TA} {P : List OR4} {g : G} {m : Nat} {v : Int32} (h : RC A P g) (hm : m < A.N) (hv : -90 ≤ v ∧ v ≤ 90) : ∃ g', k8_turnMirror (nI m) v g = some (0, A.of m, g') ∧ RC (turnA A m v) P g' := by
  obtain ⟨g1, e1, q1, r1⟩ := rw_of h.r hm
  obtain ⟨g2, e2, f2, r2⟩ := turn_ok (v := v) r1 hm
  have e1 : k4_valueOf 22 130 (nI m) g = some (A.of m, g1) := e1
  have e2 : k4_turn 22 (nI m) v g1 = some g2 := e2
  refine ⟨g2, ?_, h.M (q1.m.trans f2) r2 (h.w.turn hv)⟩
  unfold k8_turnMirror
  rw [h.chk hm, xb_0, if_neg (Int32.not_lt.mpr hv.1), if_pos hv.2, e1, some_bind, bd_eq]
  show (k4_turn 22 (nI m) v g1).bind _ = _
  rw [e2]
  rfl
theorem dim_ok {w m : Nat} {v hi : Int32} {A : TA} {g : G} (h : RW w A g) (hm : m < A.N) : ∃ g', k4_dim (w + 1) (nI m) v hi g = some g' ∧ fM w g g' ∧ RW w (clarA A m (holdV ((A.cl m).toInt64 - v.toInt64) 0 hi)) g' := by
  have := h.N9
  generalize hx : holdV ((A.cl m).toInt64 - v.toInt64) 0 hi = x
  refine ⟨up (up g (w + 1 + 1) m x) (w + 1) 13 0, ?_, fun a a0 a1 a2 a3 _ _ _ _ => by rw [up_ne a0, up_ne a1], h.wr ⟨rfl, rfl, rfl, rfl, rfl, rfl, rfl, rfl, rfl, rfl⟩ (fun a a0 a1 a2 a3 => by rw [up_ne a0, up_ne a1]) (fun k hk => by rw [up_slot hk, up_other (by omega)]) up_self (fun i hi => ?_)⟩
  · unfold k4_dim
    rw [rw_pre h hm, some_bind, if_neg (by decide), ld_n (by omega) (by omega), (h.m hm).1, k8_hold_eq, some_bind, hx, sto_n (by omega) (by omega), bd_eq]
  · have c1 : up (up g (w + 1 + 1) m x) (w + 1) 13 0 (w + 1 + 1) i = up g (w + 1 + 1) m x (w + 1 + 1) i := by rw [up_other (by omega)]
    have c2 : up (up g (w + 1 + 1) m x) (w + 1) 13 0 (w + 1 + 2) i = g (w + 1 + 2) i := by rw [up_other (by omega), up_other (by omega)]
    have c3 : up (up g (w + 1 + 1) m x) (w + 1) 13 0 (w + 1 + 3) i = g (w + 1 + 3) i := by rw [up_other (by omega), up_other (by omega)]
    rw [c1, c2, c3]
    obtain ⟨b1, b2, b3⟩ := h.m hi
    refine ⟨?_, b2, b3⟩
    show up g (w + 1 + 1) m x (w + 1 + 1) i = updI A.cl m x i
    by_cases q : i = m
    · subst q; rw [up_self, updI_eq]
    · rw [up_slot q, updI_ne q, b1]
theorem WA.clar {A : TA} {m : Nat} {v : Int32} (h : WA A) (hv : 0 ≤ v ∧ v ≤ 100) : WA (clarA A m v) := by
  obtain ⟨h1, h2, h3, h4, h5⟩ := h
  refine ⟨h1, h2, h3, fun i hi => ?_, h5⟩
  obtain ⟨b1, b2, b3⟩ := h4 i hi
  refine ⟨?_, b2, b3⟩
  show 0 ≤ updI A.cl m v i ∧ updI A.cl m v i ≤ 100
  by_cases q : i = m
  · subst q; rw [updI_eq]; exact hv
  · rw [updI_ne q]; exact b1
theorem q_dustMirror {A : TA} {P : List OR4} {g : G} {m : Nat} {v : Int32} (h : RC A P g) (hm : m < A.N) (hv : ¬ v < 0 ∧ v ≤ 100) : ∃ g', k8_dustMirror (nI m) v g = some (0, (if 0 < A.cl m - v then A.cl m - v else 0), g') ∧ RC (clarA A m (if 0 < A.cl m - v then A.cl m - v else 0)) P g' := by
  obtain ⟨d1, d2⟩ := dust_eq (h.w.rng hm).1 hv
  obtain ⟨g1, e1, f1, r1⟩ := dim_ok (v := v) (hi := 100) h.r hm
  rw [d1] at r1
  obtain ⟨g2, e2, q2, r2⟩ := rw_cl r1 (m := m) hm
  have e1 : k4_dim 22 (nI m) v 100 g = some g1 := e1
  have e2 : k4_valueOf 22 129 (nI m) g1 = some (updI A.cl m (if 0 < A.cl m - v then A.cl m - v else 0) m, g2) := e2
  refine ⟨g2, ?_, h.M (f1.trans q2.m) r2 (h.w.clar d2)⟩
  unfold k8_dustMirror
  rw [h.chk hm, xb_0, if_neg hv.1, if_pos hv.2, e1, some_bind, e2, some_bind, updI_eq]
theorem q_moveMirror {A : TA} {P : List OR4} {g : G} {m p : Nat} (h : RC A P g) (hm : m < A.N) (hp : p < A.N) : ∃ g', k8_moveMirror (nI m) (nI p) g = some (0, nI (plc A m), g') ∧ RC (moveA A m p) P g' := by
  obtain ⟨p1, p2⟩ := plc_lt h.w hm
  have hN9 := h.r.N9
  obtain ⟨g1, e1, f1, f2, f3, f4⟩ := k4_move_ok h.r.N h.r.row p1 hp
  have eP := rw_place h.r p1
  rw [p2] at e1 eP
  have e1 : k4_move 22 (nI m) (nI p) g = some g1 := e1
  have eP : k4_findPlace 22 (nI m) g = some (nI (plc A m)) := eP
  have hr : isRow g1 26 A.N (mvR A.rw (plc A m) p) := mvR_row h.r.row p1 hp f4
  have hf : fM 21 g g1 := fun a a0 a1 a2 a3 a4 a5 a6 a7 => f1 a a0 a4
  refine ⟨g1, ?_, h.M hf ⟨by rw [f2 7 (by decide)]; exact h.r.N, by rw [f2 8 (by decide)]; exact h.r.W, by rw [f2 9 (by decide)]; exact h.r.lim, by rw [f2 10 (by decide)]; exact h.r.cv, hr, fun i hi => ?_, Or.inl f3, ?_, ?_, ?_, fun k hk => ?_, ?_⟩ ?_⟩
  · have hN : g 22 7 = nI A.N := h.r.N
    unfold k8_moveMirror
    rw [h.chk hm, xb_0, if_neg (nI_pos (by omega)), hN, if_pos ((nI_ltI (by omega) (by omega)).mpr hp), eP, some_bind, e1]
    rfl
  · rw [f1 _ (by decide) (by decide), f1 _ (by decide) (by decide), f1 _ (by decide) (by decide)]
    exact h.r.m hi
  · rw [f1 _ (by decide) (by decide)]; exact h.r.J
  · rw [f1 _ (by decide) (by decide)]; exact h.r.go
  · rw [f1 _ (by decide) (by decide)]; exact h.r.dn
  · rw [f1 _ (by decide) (by decide), f1 _ (by decide) (by decide)]; exact h.r.j hk
  · rw [f1 _ (by decide) (by decide)]; exact h.r.mi
  · obtain ⟨h1, h2, h3, h4⟩ := h.w
    exact ⟨h1, fun q hq => (hr.2.1 q hq).2, hr.2.2, h4⟩
