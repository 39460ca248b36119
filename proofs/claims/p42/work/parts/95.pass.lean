/-! the law's train lives a minute -/
def QM : Nat → Prop := fun k => k = 14 ∨ k = 100003
/-- an order of the law -/
def OS (N : Nat) (S : ZS) (c : Nat) (o : OR4) : Prop := OB S c 13 ∧ S.i (c / 2) 0 = nI o.1 ∧ o.1 < 5 ∧ S.i (c / 2) 1 = nI o.2.1 ∧ o.2.1 < N ∧ ((o.1 < 3 ∧ o.2.2.1 = []) ∨ (3 ≤ o.1 ∧ TS N 12 false S (S.r (c / 2) 2) o.2.2.1)) ∧ ((S.r (c / 2) 3 = 0 ∧ o.2.2.2 = []) ∨ (S.r (c / 2) 3 ≠ 0 ∧ o.2.2.2 ≠ [] ∧ TS N 12 true S (S.r (c / 2) 3) o.2.2.2))
theorem OS.ste {N : Nat} {Q : Nat → Prop} {x y : Nat} {S S' : ZS} {c : Nat} {o : OR4} (h : OS N S c o) (s : Ste Q x y S S') (hq : ¬ Q 12 ∧ ¬ Q 13) : OS N S' c o := by
  obtain ⟨h1, h2, h3, h4, h5, h6, h7⟩ := h
  obtain ⟨e1, e2⟩ := (s.2.2.1 _ h1.2.1).2 (by rw [h1.2.2]; exact hq.2)
  refine ⟨h1.ste s, by rw [e1]; exact h2, h3, by rw [e1]; exact h4, h5, ?_, ?_⟩
  · rcases h6 with z | ⟨z1, z2⟩
    · exact Or.inl z
    · exact Or.inr ⟨z1, by rw [e2]; exact TS.ste s hq.1 _ _ _ _ z2⟩
  · rw [e2]
    rcases h7 with z | ⟨z1, z2, z3⟩
    · exact Or.inl z
    · exact Or.inr ⟨z1, z2, TS.ste s hq.1 _ _ _ _ z3⟩
theorem OS.good {N : Nat} {S : ZS} {c : Nat} {o : OR4} (h : OS N S c o) : goodO N o := by
  obtain ⟨h1, h2, h3, h4, h5, h6, h7⟩ := h
  refine ⟨h3, h5, fun z => ?_, fun z => ?_, fun z => ?_⟩
  · rcases h6 with y | ⟨-, y⟩
    · omega
    · exact TS.ev _ _ _ _ y
  · rcases h6 with y | y
    · exact y.2
    · omega
  · rcases h7 with y | ⟨-, -, y⟩
    · exact absurd y.2 z
    · exact TS.ev _ _ _ _ y
theorem QM_no : ¬ QM 12 ∧ ¬ QM 13 ∧ ¬ QM 11 := by
  unfold QM
  omega
theorem QT_QM : ∀ k, QT k → QM k := fun _ h => Or.inl h
/-- a mirror's number is written: only int[3] change -/
theorem Ste.num {S : ZS} {t m k : Nat} {v : Int32} {A : TA} (h : TT S t A) (hm : m < A.N) : Ste QM 0 0 S (S.wi (S.r (S.r (t / 2) 2 / 2) m / 2) k v) := Ste.wi (fun _ => Or.inr (h.m hm).1.2.2.1)
theorem num_8 {S : ZS} {t m k : Nat} {v : Int32} : (S.wi (S.r (S.r (t / 2) 2 / 2) m / 2) k v).r (t / 2) 8 = S.r (t / 2) 8 := rfl
theorem z_add (x y : Int64) : 0 + x + y = x + y := by rw [Int64.zero_add]
theorem z_sub (x y : Int64) : 0 + x - y = x - y := by rw [Int64.zero_add]
theorem carry19 {N : Nat} {S : ZS} {t c : Nat} {o : OR4} {A : TA} {x : Int32} (h : TT S t A) (hA : WA A) (hW : WW A) (hN : A.N = N) (ho : OS N S c o) (hx : ¬ x = 0) (hc : 5 ≤ S.c) (hw : 50 ≤ S.w) : ∃ S', kX11_carryOut_19 c t S = some S' ∧ Ste QM 2 20 S S' ∧ TT S' t (carA A o.1 o.2.1 x (valS A o.2.2.1)) ∧ S'.r (t / 2) 8 = S.r (t / 2) 8 := by
  subst hN
  obtain ⟨h1, h2, h3, h4, h5, h6, h7⟩ := ho
  obtain ⟨y1, y2, y3, y4⟩ := h.m h5
  have hN9 := hA.N9
  have g2 : ∀ (k : Nat) (f : Int32 → Option ZS), k < 3 → aG S (S.r (S.r (t / 2) 2 / 2) o.2.1) 100000 (nI k) f = f (S.i (S.r (S.r (t / 2) 2 / 2) o.2.1 / 2) k) := fun k f hk => aG_n y1 hk
  have p2 : ∀ (k : Nat) (v : Int32) (f : ZS → Option ZS), k < 3 → aP S (S.r (S.r (t / 2) 2 / 2) o.2.1) 100000 (nI k) v f = f (S.wi (S.r (S.r (t / 2) 2 / 2) o.2.1 / 2) k v) := fun k v f hk => aP_n y1 hk
  unfold kX11_carryOut_19 carA
  rw [gN_o h.o h.am.ne0, gI_o h1, h4, aN_n h.am h5 y1.ne0, gI_o h1, h2, if_neg hx]
  by_cases e3 : 3 ≤ o.1
  · rw [if_pos (show (3 : Int32) ≤ nI o.1 from (nI_leI (a := 3) (by omega) (by omega)).mpr e3), gI_o h1, h2]
    obtain ⟨-, hs⟩ := h6.resolve_left (fun z => by omega)
    have hv := (k_value h hA hW rfl hs).1
    by_cases e : o.1 = 3
    · rw [e, if_pos (show nI 3 = 3 from rfl)]
      have e2 := g2 2 (fun x18 => gN S c 13 2 fun c19 => rcv S c19 12 <| b2 id (kX10_value c19 t S) fun x22 S20 => b2 id (kX11_held ((0 + x18.toInt64) + x22.toInt64) (-90) 90 S20) fun x25 S23 => aP S23 (S.r (S.r (t / 2) 2 / 2) o.2.1) 100000 2 x25 fun S26 => some S26) (by omega)
      refine ⟨_, ?_, (Ste.num h h5).mono (fun _ z => z) (by omega) (by omega), h.turn h5, rfl⟩
      refine Eq.trans e2 ?_
      rw [gN_o h1 hs.o.ne0, rcv_o hs.o, hv, b2_s, y4, z_add]
      refine chk_of ?_ (Nat.le_refl _) (Nat.le_refl _)
      rw [k_held (by decide), b2_s]
      refine chk_of ?_ (Nat.le_refl _) (Nat.le_refl _)
      exact p2 2 _ _ (by omega)
    · have e4 : o.1 = 4 := by omega
      rw [e4, if_neg (show ¬ nI 4 = 3 by decide)]
      have e2 := g2 0 (fun x8 => gN S c 13 2 fun c9 => rcv S c9 12 <| b2 id (kX10_value c9 t S) fun x12 S10 => aG S10 (S.r (S.r (t / 2) 2 / 2) o.2.1) 100000 1 fun x13 => b2 id (kX11_held ((0 + x8.toInt64) - x12.toInt64) 0 x13 S10) fun x16 S14 => aP S14 (S.r (S.r (t / 2) 2 / 2) o.2.1) 100000 0 x16 fun S17 => some S17) (by omega)
      refine ⟨_, ?_, (Ste.num h h5).mono (fun _ z => z) (by omega) (by omega), h.clar h5, rfl⟩
      refine Eq.trans e2 ?_
      rw [gN_o h1 hs.o.ne0, rcv_o hs.o, hv, b2_s, y2]
      refine chk_of ?_ (Nat.le_refl _) (Nat.le_refl _)
      refine Eq.trans (g2 1 _ (by omega)) ?_
      rw [y3, z_sub, k_held (hA.rng h5).2.1.1, b2_s]
      refine chk_of ?_ (Nat.le_refl _) (Nat.le_refl _)
      exact p2 0 _ _ (by omega)
  · have hnl : ¬ (3 : Int32) ≤ nI o.1 := fun z => e3 ((nI_leI (a := 3) (by omega) (by omega)).mp z)
    rw [if_neg hnl, gI_o h1, h2, gI_o h1, h4, rcv_o h.o]
    obtain ⟨v, S', k1, k2, k3, k4, -⟩ := k_order (k := o.1) h hA h5 (by omega) hc hw
    refine ⟨S', ?_, k2.mono QT_QM (Nat.le_refl _) (Nat.le_refl _), ?_, k4⟩
    · rw [k1, b2_s]
      exact chk_of rfl (Nat.le_refl _) (Nat.le_refl _)
    · rcases (show o.1 = 0 ∨ o.1 = 1 ∨ o.1 = 2 by omega) with z | z | z
      · rw [z] at k3 ⊢; exact k3
      · rw [z] at k3 ⊢; exact k3
      · rw [z] at k3 ⊢; exact k3
theorem k_carry {N : Nat} {S : ZS} {t c : Nat} {o : OR4} {A : TA} (h : TT S t A) (hA : WA A) (hW : WW A) (hN : A.N = N) (ho : OS N S c o) (hc : 5 ≤ S.c) (hw : 50 ≤ S.w) : ∃ S', kX11_carryOut c t S = some S' ∧ Ste QM 2 20 S S' ∧ TT S' t (carO A o) ∧ S'.r (t / 2) 8 = S.r (t / 2) 8 := by
  have h7 := ho.2.2.2.2.2.2
  unfold kX11_carryOut carO tstS
  rcases h7 with ⟨z1, z2⟩ | ⟨z1, z2, z3⟩
  · obtain ⟨S', e1, q1, q2, q3⟩ := carry19 (x := 1) h hA hW hN ho (by decide) hc hw
    refine ⟨S', ?_, q1, ?_, q3⟩
    · refine chk_of ?_ q1.2.2.2.1 q1.2.2.2.2.2.1
      rw [gV_0 ho.1 z1]
      exact e1
    · rw [if_pos z2]
      exact q2
  · have hv := k_value h hA hW hN z3
    rw [if_neg z2]
    by_cases e : valS A o.2.2.2 = 0
    · refine ⟨S, ?_, Ste.refl.mono (fun _ z => z) (by omega) (by omega), ?_, rfl⟩
      · refine chk_of ?_ (Nat.le_refl _) (Nat.le_refl _)
        rw [gV_1 ho.1 z1, gN_o ho.1 z1, rcv_o z3.o, hv.1, b2_s, if_pos e]
        exact chk_of rfl (Nat.le_refl _) (Nat.le_refl _)
      · unfold carA
        rw [if_pos e]
        exact h
    · obtain ⟨S', e1, q1, q2, q3⟩ := carry19 h hA hW hN ho e hc hw
      refine ⟨S', ?_, q1, q2, q3⟩
      refine chk_of ?_ q1.2.2.2.1 q1.2.2.2.2.2.1
      rw [gV_1 ho.1 z1, gN_o ho.1 z1, rcv_o z3.o, hv.1, b2_s, if_neg e]
      exact chk_of e1 q1.2.2.2.1 q1.2.2.2.2.2.1
/-! the crew of the law -/
theorem dn_eq (x y : Int32) : 1 + x / y = x / y + 1 := Int32.add_comm _ _
theorem pass205 {S : ZS} {t m v2 : Nat} {A : TA} {k : Int32} (h : TT S t A) (hm : m < A.N) (hj : AR S v2 100000 2 ∧ S.i (v2 / 2) 0 = k) : ∃ S', kX12_pass_205 (S.r (S.r (t / 2) 2 / 2) m) v2 S = some (1, S') ∧ Ste QM 0 0 S S' ∧ TT S' t (if k = 2 then (A.sCl (updI A.cl m 100)).sBe (updI A.be m 100) else A) ∧ S'.r (t / 2) 8 = S.r (t / 2) 8 := by
  obtain ⟨b1, -⟩ := h.m hm
  have g0 : ∀ f : Int32 → Option (Int32 × ZS), aG S v2 100000 0 f = f (S.i (v2 / 2) 0) := fun f => aG_n (j := 0) hj.1 (by omega)
  unfold kX12_pass_205
  rw [g0, hj.2]
  by_cases e : k = 2
  · rw [if_pos e, if_pos e]
    have h1 := h.clar (v := 100) hm
    have h2 := h1.best (m := m) (v := 100) hm
    have p0 : ∀ f : ZS → Option (Int32 × ZS), aP S (S.r (S.r (t / 2) 2 / 2) m) 100000 0 100 f = f (S.wi (S.r (S.r (t / 2) 2 / 2) m / 2) 0 100) := fun f => aP_n (j := 0) b1 (by omega)
    have b1' : AR (S.wi (S.r (S.r (t / 2) 2 / 2) m / 2) 0 100) (S.r (S.r (t / 2) 2 / 2) m) 100000 3 := b1
    have p1 : ∀ f : ZS → Option (Int32 × ZS), aP (S.wi (S.r (S.r (t / 2) 2 / 2) m / 2) 0 100) (S.r (S.r (t / 2) 2 / 2) m) 100000 1 100 f = f ((S.wi (S.r (S.r (t / 2) 2 / 2) m / 2) 0 100).wi (S.r (S.r (t / 2) 2 / 2) m / 2) 1 100) := fun f => aP_n (j := 1) b1' (by omega)
    refine ⟨_, ?_, (Ste.num h hm).trans (Ste.num h1 hm), h2, rfl⟩
    rw [p0, p1]
    rfl
  · rw [if_neg e, if_neg e]
    exact ⟨S, rfl, Ste.refl, h, rfl⟩
theorem ne_21 {A : TA} {m : Nat} (h : WA A) (hm : m < A.N) : (if A.be m ≤ 0 then A.be m else A.be m - 1) = (if 0 < A.be m - 1 then A.be m - 1 else 0) := by
  obtain ⟨-, ⟨b1, b2⟩, -⟩ := h.rng hm
  obtain ⟨i, hi, e⟩ := nI_of2 (M := 100) (n := 100) rfl (Int32.not_lt.mpr b1) b2
  rw [e]
  have all : ((List.range 101).all fun i => decide ((if nI i ≤ 0 then nI i else nI i - 1) = (if 0 < nI i - 1 then nI i - 1 else 0))) = true := by decide +kernel
  exact of_decide_eq_true (List.all_eq_true.mp all i (List.mem_range.mpr (by omega)))
theorem pass185 {S : ZS} {t m v2 : Nat} {A : TA} (h : TT S t A) (hm : m < A.N) (hj : AR S v2 100000 2 ∧ S.i (v2 / 2) 0 = 0) : ∃ S', kX12_pass_185 (S.r (S.r (t / 2) 2 / 2) m) v2 S = some (1, S') ∧ Ste QM 0 0 S S' ∧ TT S' t (A.sBe (updI A.be m (if A.be m ≤ 0 then A.be m else A.be m - 1))) ∧ S'.r (t / 2) 8 = S.r (t / 2) 8 := by
  obtain ⟨b1, b2, b3, b4⟩ := h.m hm
  have g1 : ∀ f : Int32 → Option (Int32 × ZS), aG S (S.r (S.r (t / 2) 2 / 2) m) 100000 1 f = f (S.i (S.r (S.r (t / 2) 2 / 2) m / 2) 1) := fun f => aG_n (j := 1) b1 (by omega)
  have p1 : ∀ (v : Int32) (f : ZS → Option (Int32 × ZS)), aP S (S.r (S.r (t / 2) 2 / 2) m) 100000 1 v f = f (S.wi (S.r (S.r (t / 2) 2 / 2) m / 2) 1 v) := fun v f => aP_n (j := 1) b1 (by omega)
  unfold kX12_pass_185
  rw [g1, b3]
  by_cases e : A.be m ≤ 0
  · obtain ⟨S', e1, q1, q2, q3⟩ := pass205 h hm hj
    rw [if_neg (by decide)] at q2
    refine ⟨S', by rw [if_pos e]; exact e1, q1, ?_, q3⟩
    rw [if_pos e]
    have eq : A.sBe (updI A.be m (A.be m)) = A := by
      have z : updI A.be m (A.be m) = A.be := by
        funext i
        unfold updI
        by_cases y : i = m
        · rw [if_pos y, y]
        · rw [if_neg y]
      rw [z]
      rfl
    rw [eq]
    exact q2
  · have h2 := h.best (v := A.be m - 1) hm
    have ne2 : v2 / 2 ≠ S.r (S.r (t / 2) 2 / 2) m / 2 := hj.1.ne b1 (by omega)
    obtain ⟨S', e1, q1, q2, q3⟩ := pass205 (k := 0) h2 hm ⟨hj.1, by
      show up S.i (S.r (S.r (t / 2) 2 / 2) m / 2) 1 (A.be m - 1) (v2 / 2) 0 = 0
      rw [up_ne ne2]
      exact hj.2⟩
    rw [if_neg (by decide)] at q2
    refine ⟨S', ?_, (Ste.num h hm).trans q1, by rw [if_neg e]; exact q2, q3⟩
    rw [if_neg e, g1, b3, p1]
    exact e1
theorem TT.eqA {S : ZS} {t : Nat} {A A' : TA} (h : TT S t A) (e : A = A') : TT S t A' := by
  rw [← e]
  exact h
/-- the last minute of a job -/
theorem pass_fin {S : ZS} {t m c : Nat} {A : TA} {k : Int32} (h : TT S t A) (hA : WA A) (hm : m < A.N) (hj : AR S c 100000 2 ∧ S.i (c / 2) 0 = k) : ∃ S', (aG S c 100000 0 fun x18 =>
        if x18 = 0 then
          aG S (S.r (S.r (t / 2) 2 / 2) m) 100000 0 fun x21 =>
          aG S (S.r (S.r (t / 2) 2 / 2) m) 100000 1 fun x22 =>
          if x22 ≤ x21 then
            kX12_pass_185 (S.r (S.r (t / 2) 2 / 2) m) c S
          else
            aG S (S.r (S.r (t / 2) 2 / 2) m) 100000 1 fun x24 =>
            aP S (S.r (S.r (t / 2) 2 / 2) m) 100000 0 x24 fun S25 =>
            kX12_pass_185 (S.r (S.r (t / 2) 2 / 2) m) c S25
        else
          aP S (S.r (S.r (t / 2) 2 / 2) m) 100000 2 0 fun S20 =>
          kX12_pass_205 (S.r (S.r (t / 2) 2 / 2) m) c S20) = some (1, S') ∧ Ste QM 0 0 S S' ∧ TT S' t (if k = 0 then finA A 0 m else if k = 2 then finA A 2 m else turnA A m 0) ∧ S'.r (t / 2) 8 = S.r (t / 2) 8 := by
  obtain ⟨b1, b2, b3, b4⟩ := h.m hm
  have gc : ∀ f : Int32 → Option (Int32 × ZS), aG S c 100000 0 f = f (S.i (c / 2) 0) := fun f => aG_n (j := 0) hj.1 (by omega)
  have g0 : ∀ f : Int32 → Option (Int32 × ZS), aG S (S.r (S.r (t / 2) 2 / 2) m) 100000 0 f = f (S.i (S.r (S.r (t / 2) 2 / 2) m / 2) 0) := fun f => aG_n (j := 0) b1 (by omega)
  have g1 : ∀ f : Int32 → Option (Int32 × ZS), aG S (S.r (S.r (t / 2) 2 / 2) m) 100000 1 f = f (S.i (S.r (S.r (t / 2) 2 / 2) m / 2) 1) := fun f => aG_n (j := 1) b1 (by omega)
  have p0 : ∀ (v : Int32) (f : ZS → Option (Int32 × ZS)), aP S (S.r (S.r (t / 2) 2 / 2) m) 100000 0 v f = f (S.wi (S.r (S.r (t / 2) 2 / 2) m / 2) 0 v) := fun v f => aP_n (j := 0) b1 (by omega)
  have p2 : ∀ (v : Int32) (f : ZS → Option (Int32 × ZS)), aP S (S.r (S.r (t / 2) 2 / 2) m) 100000 2 v f = f (S.wi (S.r (S.r (t / 2) 2 / 2) m / 2) 2 v) := fun v f => aP_n (j := 2) b1 (by omega)
  have ne2 : c / 2 ≠ S.r (S.r (t / 2) 2 / 2) m / 2 := hj.1.ne b1 (by omega)
  rw [gc, hj.2]
  by_cases e0 : k = 0
  · subst e0
    rw [if_pos rfl, if_pos rfl, g0, g1, b2, b3]
    have fe : finA A 0 m = (A.sCl (updI A.cl m (if A.cl m < A.be m then A.be m else A.cl m))).sBe (updI A.be m (if 0 < A.be m - 1 then A.be m - 1 else 0)) := rfl
    by_cases e1 : A.be m ≤ A.cl m
    · obtain ⟨S', k1, q1, q2, q3⟩ := pass185 h hm ⟨hj.1, hj.2⟩
      refine ⟨S', by rw [if_pos e1]; exact k1, q1, q2.eqA ?_, q3⟩
      rw [fe, ne_21 hA hm, if_neg (Int32.not_lt.mpr e1)]
      have z : updI A.cl m (A.cl m) = A.cl := by
        funext i
        unfold updI
        by_cases y : i = m
        · rw [if_pos y, y]
        · rw [if_neg y]
      rw [z]
      rfl
    · have h2 := h.clar (v := A.be m) hm
      obtain ⟨S', k1, q1, q2, q3⟩ := pass185 h2 hm ⟨hj.1, by
        show up S.i (S.r (S.r (t / 2) 2 / 2) m / 2) 0 (A.be m) (c / 2) 0 = 0
        rw [up_ne ne2]
        exact hj.2⟩
      refine ⟨S', by rw [if_neg e1, g1, b3, p0]; exact k1, (Ste.num h hm).trans q1, q2.eqA ?_, q3⟩
      rw [fe, if_pos (Int32.not_le.mp e1), ← ne_21 hA hm]
      rfl
  · rw [if_neg e0, if_neg e0, p2]
    have h2 := h.turn (v := 0) hm
    obtain ⟨S', k1, q1, q2, q3⟩ := pass205 (k := k) h2 hm ⟨hj.1, by
      show up S.i (S.r (S.r (t / 2) 2 / 2) m / 2) 2 0 (c / 2) 0 = k
      rw [up_ne ne2]
      exact hj.2⟩
    refine ⟨S', k1, (Ste.num h hm).trans q1, q2.eqA ?_, q3⟩
    by_cases e2 : k = 2
    · rw [if_pos e2, if_pos e2]
      rfl
    · rw [if_neg e2, if_neg e2]
