/-! the law's minutes -/
theorem carO_dn {A : TA} {o : OR4} : (carO A o).dn = A.dn ∧ (carO A o).mi = A.mi ∧ (carO A o).W = A.W := by
  have h : ∀ (A : TA) (v : Int32) (m : Nat), (ordA A v m).dn = A.dn ∧ (ordA A v m).mi = A.mi ∧ (ordA A v m).W = A.W := by
    intro A v m
    unfold ordA
    split
    · exact ⟨rfl, rfl, rfl⟩
    · split <;> exact ⟨rfl, rfl, rfl⟩
  unfold carO carA
  split
  · exact ⟨rfl, rfl, rfl⟩
  · split
    · exact h _ _ _
    · split
      · exact h _ _ _
      · split
        · exact h _ _ _
        · split <;> exact ⟨rfl, rfl, rfl⟩
theorem carL_dn : ∀ (L : List OR4) (A : TA), (L.foldl carO A).dn = A.dn ∧ (L.foldl carO A).mi = A.mi ∧ (L.foldl carO A).W = A.W := by
  intro L
  induction L with
  | nil => intro A; exact ⟨rfl, rfl, rfl⟩
  | cons o L ih =>
    intro A
    obtain ⟨h1, h2, h3⟩ := ih (carO A o)
    obtain ⟨k1, k2, k3⟩ := carO_dn (A := A) (o := o)
    exact ⟨h1.trans k1, h2.trans k2, h3.trans k3⟩
theorem work_dn {B : TA} : (workA B).dn = B.dn + dnv B ∧ (workA B).W = B.W := by
  unfold workA dnv
  by_cases e : B.J = 0
  · rw [if_pos e, if_pos e]
    exact ⟨(Int32.add_zero _).symm, rfl⟩
  · rw [if_neg e, if_neg e]
    by_cases e2 : goA B - 1 = 0
    · rw [if_pos e2, if_pos e2]
      unfold finA
      split
      · exact ⟨rfl, rfl⟩
      · split <;> exact ⟨rfl, rfl⟩
    · rw [if_neg e2, if_neg e2]
      exact ⟨(Int32.add_zero _).symm, rfl⟩
/-- how many jobs are done in a minute -/
def dnm (P : List OR4) (A : TA) : Int32 := dnv (P.foldl carO A)
theorem dnv_01 {B : TA} : dnv B = 0 ∨ dnv B = 1 := by
  unfold dnv
  split
  · exact Or.inl rfl
  · split
    · exact Or.inr rfl
    · exact Or.inl rfl
theorem minA_dn {P : List OR4} {A : TA} : (minA P A).dn = A.dn + dnm P A ∧ (minA P A).mi = A.mi + 1 ∧ (minA P A).W = A.W := by
  refine ⟨?_, rfl, ?_⟩
  · show (workA (P.foldl carO A)).dn = _
    rw [work_dn.1, (carL_dn P A).1]
    rfl
  · show (workA (P.foldl carO A)).W = _
    rw [work_dn.2, (carL_dn P A).2.2]
theorem WW.car {A : TA} (L : List OR4) (h : WW A) : WW (L.foldl carO A) := by
  unfold WW at h ⊢
  rw [(carL_dn L A).2.2]
  exact h
theorem WW.min {P : List OR4} {A : TA} (h : WW A) : WW (minA P A) := by
  unfold WW at h ⊢
  rw [minA_dn.2.2]
  exact h
theorem pass_loopL {t : Nat} {P : List OR4} {A0 : TA} {S0 : ZS} (hO : OA A0.N S0 t P) (hP : P.length ≤ 16) : ∀ (L L0 : List OR4) (f : Nat) (A : TA) (S : ZS), P = L0 ++ L → A.N = A0.N → WA A → WW A → TT S t A → (∃ x y, Ste QM x y S0 S) → S.r (t / 2) 8 = S0.r (t / 2) 8 → L.length < f → 2 * L.length + 5 ≤ S.c → 20 * L.length + 60 ≤ S.w → ∃ S', kX12_pass_10 f t (S0.r (t / 2) 8) (nI P.length) (nI L0.length) S = some (dnv (L.foldl carO A), S') ∧ Ste QM (2 * L.length + 1) (20 * L.length + 11) S S' ∧ TT S' t ((workA (L.foldl carO A)).sMi (A.mi + 1)) ∧ S'.r (t / 2) 8 = S.r (t / 2) 8 := by
  intro L
  induction L with
  | nil =>
    intro L0 f A S hP0 hN hA hW h hs h8 hf hc hw
    obtain ⟨f, rfl⟩ : ∃ z, f = z + 1 := ⟨f - 1, by omega⟩
    have e : P = L0 := by rw [hP0, List.append_nil]
    rw [← e]
    obtain ⟨S', k1, k2, k3, k4⟩ := crew_law (f := f) (n := P.length) (v1 := S0.r (t / 2) 8) h hA (by omega) (by omega) (by omega)
    exact ⟨S', k1, k2.mono (fun _ z => z) (by omega) (by omega), k3, k4⟩
  | cons o L ih =>
    intro L0 f A S hP0 hN hA hW h hs h8 hf hc hw
    simp only [List.length_cons] at hf hc hw
    obtain ⟨f, rfl⟩ : ∃ z, f = z + 1 := ⟨f - 1, by omega⟩
    obtain ⟨x, y, hs1⟩ := hs
    have hOS := hO.ste hs1 h8
    have hlen : P.length = L0.length + (L.length + 1) := by rw [hP0]; simp only [List.length_append, List.length_cons]
    have hat : P[L0.length]? = some o := by
      rw [hP0, List.getElem?_append_right (Nat.le_refl _), Nat.sub_self]
      rfl
    have hos := hOS.2 _ _ hat
    have har : AR S (S0.r (t / 2) 8) 500000 P.length := by rw [← h8]; exact hOS.1
    have hos : OS A0.N S (S.r (S0.r (t / 2) 8 / 2) L0.length) o := by rw [← h8]; exact hos
    obtain ⟨S1, k1, k2, k3, k4⟩ := k_carry h hA hW hN hos (by omega) (by omega)
    have k2c := k2.2.2.2
    obtain ⟨S', q1, q2, q3, q4⟩ := ih (L0 ++ [o]) f (carO A o) S1 (by rw [hP0]; simp) (by rw [carO_N]; exact hN) (hA.car (by rw [hN]; exact hos.2.2.2.2.1)) (WW.car [o] hW) k3 ⟨_, _, hs1.trans k2⟩ (by rw [k4]; exact h8) (by omega) (by omega) (by omega)
    refine ⟨S', ?_, (k2.trans q2).mono (fun _ z => z) (by simp only [List.length_cons]; omega) (by simp only [List.length_cons]; omega), ?_, by rw [q4, k4]⟩
    · unfold kX12_pass_10
      rw [if_neg (by rw [nI_leI (by omega) (by omega)]; omega), aN_n har (by omega) hos.1.ne0, rcv_o hos.1, k1, b1_s]
      refine chk_of ?_ q2.2.2.2.1 q2.2.2.2.2.2.1
      rw [bd_eq, nI_1]
      rw [List.length_append] at q1
      exact q1
    · have e : (carO A o).mi = A.mi := carO_dn.2.1
      rw [e] at q3
      exact q3
theorem k_pass {S : ZS} {t : Nat} {P : List OR4} {A : TA} (h : TT S t A) (hA : WA A) (hW : WW A) (hO : OA A.N S t P) (hP : P.length ≤ 16) (hc : 40 ≤ S.c) (hw : 400 ≤ S.w) : ∃ S', kX12_pass t S = some (dnm P A, S') ∧ Ste QM 33 331 S S' ∧ TT S' t (minA P A) ∧ S'.r (t / 2) 8 = S.r (t / 2) 8 := by
  obtain ⟨S', q1, q2, q3, q4⟩ := pass_loopL hO hP P [] FU A S rfl rfl hA hW h ⟨0, 0, Ste.refl⟩ rfl (by unfold FU; omega) (by omega) (by omega)
  refine ⟨S', ?_, q2.mono (fun _ z => z) (by omega) (by omega), q3, q4⟩
  unfold kX12_pass
  refine chk_of ?_ q2.2.2.2.1 q2.2.2.2.2.2.1
  rw [gN_o h.o hO.1.ne0, aL_n hO.1]
  exact q1
theorem passN_loop {t : Nat} {P : List OR4} {n : Nat} (hP : P.length ≤ 16) (hn : n < 1000) : ∀ (d i f : Nat) (v : Int32) (A : TA) (S : ZS), n = i + d → d < f → WA A → WW A → TT S t A → OA A.N S t P → 33 * d + 40 ≤ S.c → 331 * d + 400 ≤ S.w → ∃ S', kX12_pass__4 f t (nI n) v (nI i) S = some (v + ((minN P d A).dn - A.dn), S') ∧ Ste QM (33 * d) (331 * d) S S' ∧ TT S' t (minN P d A) ∧ S'.r (t / 2) 8 = S.r (t / 2) 8 := by
  intro d
  induction d with
  | zero =>
    intro i f v A S hd hf hA hW h hO hc hw
    obtain ⟨f, rfl⟩ : ∃ z, f = z + 1 := ⟨f - 1, by omega⟩
    refine ⟨S, ?_, Ste.refl, h, rfl⟩
    unfold kX12_pass__4
    rw [if_pos (by rw [nI_leI (by omega) (by omega)]; omega)]
    show _ = some (v + (A.dn - A.dn), S)
    rw [Int32.sub_self, Int32.add_zero]
  | succ d ih =>
    intro i f v A S hd hf hA hW h hO hc hw
    obtain ⟨f, rfl⟩ : ∃ z, f = z + 1 := ⟨f - 1, by omega⟩
    obtain ⟨S1, k1, k2, k3, k4⟩ := k_pass h hA hW hO hP (by omega) (by omega)
    have k2c := k2.2.2.2
    obtain ⟨S', q1, q2, q3, q4⟩ := ih (i + 1) f (v + dnm P A) (minA P A) S1 (by omega) (by omega) (hA.min hO.good) hW.min k3 (by rw [minA_N]; exact hO.ste k2 k4) (by omega) (by omega)
    refine ⟨S', ?_, (k2.trans q2).mono (fun _ z => z) (by omega) (by omega), q3, by rw [q4, k4]⟩
    unfold kX12_pass__4
    rw [if_neg (by rw [nI_leI (by omega) (by omega)]; omega), rcv_o h.o, k1, b2_s]
    refine chk_of ?_ q2.2.2.2.1 q2.2.2.2.2.2.1
    rw [bd_eq, bd_eq, nI_1, q1]
    show some (v + dnm P A + ((minN P d (minA P A)).dn - (minA P A).dn), S') = some (v + ((minN P d (minA P A)).dn - A.dn), S')
    congr 2
    rw [minA_dn.1, Int32.add_assoc]
    congr 1
    have key : ∀ a x y : Int32, x + (y - (a + x)) = y - a := by
      intro a x y
      rw [Int32.sub_eq_add_neg, Int32.neg_add, Int32.sub_eq_add_neg, Int32.sub_eq_add_neg]
      rw [Int32.add_comm (-a) (-x), ← Int32.add_assoc y (-x) (-a), Int32.add_comm y (-x), ← Int32.add_assoc x, ← Int32.add_assoc x, Int32.add_right_neg, Int32.zero_add]
    exact key _ _ _
theorem k_passN {S : ZS} {t n : Nat} {P : List OR4} {A : TA} (h : TT S t A) (hA : WA A) (hW : WW A) (hO : OA A.N S t P) (hP : P.length ≤ 16) (hn : n ≤ 100) (hc : 33 * n + 40 ≤ S.c) (hw : 331 * n + 400 ≤ S.w) : ∃ S', kX12_pass_ t (nI n) S = some ((minN P n A).dn - A.dn, S') ∧ Ste QM (33 * n) (331 * n) S S' ∧ TT S' t (minN P n A) ∧ S'.r (t / 2) 8 = S.r (t / 2) 8 := by
  obtain ⟨S', q1, q2, q3, q4⟩ := passN_loop (n := n) hP (by omega) n 0 FU 0 A S (by omega) (by unfold FU; omega) hA hW h hO hc hw
  rw [Int32.zero_add] at q1
  refine ⟨S', ?_, q2, q3, q4⟩
  unfold kX12_pass_
  exact chk_of q1 q2.2.2.2.1 q2.2.2.2.2.2.1
