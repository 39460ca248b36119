/-! the law's train lives a minute -/
def QM : Nat → Prop := fun k => k = 14 ∨ k = 100003
/-- an order of the law -/
def OS (N : Nat) (S : ZS) (c : Nat) (o : OR4) : Prop := OB S c 13 ∧ S.i (c / 2) 0 = nI o.1 ∧ o.1 < 5 ∧ S.i (c / 2) 1 = nI o.2.1 ∧ o.2.1 < N ∧ ((o.1 < 3 ∧ o.2.2.1 = []) ∨ (3 ≤ o.1 ∧ TS N 12 false S (S.r (c / 2) 2) o.2.2.1)) ∧ ((S.r (c / 2) 3 = 0 ∧ o.2.2.2 = []) ∨ (S.r (c / 2) 3 ≠ 0 ∧ o.2.2.2 ≠ [] ∧ TS N 12 true S (S.r (c / 2) 3) o.2.2.2))
theorem OS.ste {N : Nat} {Q : Nat → Prop} {x y : Nat} {S S' : ZS} {c : Nat} {o : OR4} (h : OS N S c o) (s : Ste Q x y S S') (hq : ¬ Q 12 ∧ ¬ Q 13) : OS N S' c o := by
  obtain ⟨h1, h2, h3, h4, h5, h6, h7⟩ := h
  obtain ⟨e1, e2⟩ := (s.2.2.1 _ h1.2.1).2 (by rw [h1.2.2]; exact hq.2)
  refine ⟨h1.ste s, by rw [e1]; exact h2, h3, by rw [e1]; exact h4, h5, ?_, ?_⟩
  · rcases h6 with z | ⟨z1, z2⟩
    · exact Or.inl z
    · exact Or.inr ⟨z1, by rw [e2]; exact TS.ste s hq.1 _ _ _ _ z2⟩
  · rw [e2]
    rcases h7 with z | ⟨z1, z2, z3⟩
    · exact Or.inl z
    · exact Or.inr ⟨z1, z2, TS.ste s hq.1 _ _ _ _ z3⟩
theorem OS.good {N : Nat} {S : ZS} {c : Nat} {o : OR4} (h : OS N S c o) : goodO N o := by
  obtain ⟨h1, h2, h3, h4, h5, h6, h7⟩ := h
  refine ⟨h3, h5, fun z => ?_, fun z => ?_, fun z => ?_⟩
  · rcases h6 with y | ⟨-, y⟩
    · omega
    · exact TS.ev _ _ _ _ y
  · rcases h6 with y | y
    · exact y.2
    · omega
  · rcases h7 with y | ⟨-, -, y⟩
    · exact absurd y.2 z
    · exact TS.ev _ _ _ _ y
theorem QM_no : ¬ QM 12 ∧ ¬ QM 13 ∧ ¬ QM 11 := by
  unfold QM
  omega
theorem QT_QM : ∀ k, QT k → QM k := fun _ h => Or.inl h
/-- a mirror's number is written: only int[3] change -/
theorem Ste.num {S : ZS} {t m k : Nat} {v : Int32} {A : TA} (h : TT S t A) (hm : m < A.N) : Ste QM 0 0 S (S.wi (S.r (S.r (t / 2) 2 / 2) m / 2) k v) := Ste.wi (fun _ => Or.inr (h.m hm).1.2.2.1)
theorem num_8 {S : ZS} {t m k : Nat} {v : Int32} : (S.wi (S.r (S.r (t / 2) 2 / 2) m / 2) k v).r (t / 2) 8 = S.r (t / 2) 8 := rfl
theorem z_add (x y : Int64) : 0 + x + y = x + y := by rw [Int64.zero_add]
theorem z_sub (x y : Int64) : 0 + x - y = x - y := by rw [Int64.zero_add]
theorem carry19 {N : Nat} {S : ZS} {t c : Nat} {o : OR4} {A : TA} {x : Int32} (h : TT S t A) (hA : WA A) (hW : WW A) (hN : A.N = N) (ho : OS N S c o) (hx : ¬ x = 0) (hc : 5 ≤ S.c) (hw : 50 ≤ S.w) : ∃ S', kX11_carryOut_19 c t S = some S' ∧ Ste QM 2 20 S S' ∧ TT S' t (carA A o.1 o.2.1 x (valS A o.2.2.1)) ∧ S'.r (t / 2) 8 = S.r (t / 2) 8 := by
  subst hN
  obtain ⟨h1, h2, h3, h4, h5, h6, h7⟩ := ho
  obtain ⟨b1, b2, b3, b4⟩ := h.m h5
  have hN9 := hA.N9
  have g2 : ∀ (k : Nat) (f : Int32 → Option ZS), k < 3 → aG S (S.r (S.r (t / 2) 2 / 2) o.2.1) 100000 (nI k) f = f (S.i (S.r (S.r (t / 2) 2 / 2) o.2.1 / 2) k) := fun k f hk => aG_n b1 hk
  have p2 : ∀ (k : Nat) (v : Int32) (f : ZS → Option ZS), k < 3 → aP S (S.r (S.r (t / 2) 2 / 2) o.2.1) 100000 (nI k) v f = f (S.wi (S.r (S.r (t / 2) 2 / 2) o.2.1 / 2) k v) := fun k v f hk => aP_n b1 hk
  unfold kX11_carryOut_19 carA
  rw [gN_o h.o h.am.ne0, gI_o h1, h4, aN_n h.am h5 b1.ne0, gI_o h1, h2, if_neg hx]
  by_cases e3 : 3 ≤ o.1
  · rw [if_pos ((nI_leI (a := 3) (by omega) (by omega)).mpr e3), gI_o h1, h2]
    obtain ⟨-, hs⟩ := h6.resolve_left (fun z => by omega)
    have hv := (k_value h hA hW rfl hs).1
    by_cases e : o.1 = 3
    · rw [e, if_pos (show nI 3 = 3 from rfl)]
      have e2 := g2 2 (fun x18 => gN S c 13 2 fun c19 => rcv S c19 12 <| b2 id (kX10_value c19 t S) fun x22 S20 => b2 id (kX11_held ((0 + x18.toInt64) + x22.toInt64) (-90) 90 S20) fun x25 S23 => aP S23 (S.r (S.r (t / 2) 2 / 2) o.2.1) 100000 2 x25 fun S26 => some S26) (by omega)
      refine ⟨_, ?_, (Ste.num h h5).mono (fun _ z => z) (by omega) (by omega), h.turn h5, rfl⟩
      refine Eq.trans e2 ?_
      rw [gN_o h1 hs.o.ne0, rcv_o hs.o, hv, b2_s, b4, z_add]
      refine chk_of ?_ (Nat.le_refl _) (Nat.le_refl _)
      rw [k_held (by decide), b2_s]
      refine chk_of ?_ (Nat.le_refl _) (Nat.le_refl _)
      exact p2 2 _ _ (by omega)
    · have e4 : o.1 = 4 := by omega
      rw [e4, if_neg (show ¬ nI 4 = 3 by decide)]
      have e2 := g2 0 (fun x8 => gN S c 13 2 fun c9 => rcv S c9 12 <| b2 id (kX10_value c9 t S) fun x12 S10 => aG S10 (S.r (S.r (t / 2) 2 / 2) o.2.1) 100000 1 fun x13 => b2 id (kX11_held ((0 + x8.toInt64) - x12.toInt64) 0 x13 S10) fun x16 S14 => aP S14 (S.r (S.r (t / 2) 2 / 2) o.2.1) 100000 0 x16 fun S17 => some S17) (by omega)
      refine ⟨_, ?_, (Ste.num h h5).mono (fun _ z => z) (by omega) (by omega), h.clar h5, rfl⟩
      refine Eq.trans e2 ?_
      rw [gN_o h1 hs.o.ne0, rcv_o hs.o, hv, b2_s, b2]
      refine chk_of ?_ (Nat.le_refl _) (Nat.le_refl _)
      refine Eq.trans (g2 1 _ (by omega)) ?_
      rw [b3, z_sub, k_held (hA.rng h5).2.1.1, b2_s]
      refine chk_of ?_ (Nat.le_refl _) (Nat.le_refl _)
      exact p2 0 _ _ (by omega)
  · have hnl : ¬ (3 : Int32) ≤ nI o.1 := fun z => e3 ((nI_leI (a := 3) (by omega) (by omega)).mp z)
    rw [if_neg hnl, gI_o h1, h2, gI_o h1, h4, rcv_o h.o]
    obtain ⟨v, S', k1, k2, k3, k4, -⟩ := k_order (k := o.1) h hA h5 (by omega) hc hw
    refine ⟨S', ?_, k2.mono QT_QM (Nat.le_refl _) (Nat.le_refl _), ?_, k4⟩
    · rw [k1, b2_s]
      exact chk_of rfl (Nat.le_refl _) (Nat.le_refl _)
    · rcases (show o.1 = 0 ∨ o.1 = 1 ∨ o.1 = 2 by omega) with z | z | z
      · rw [z] at k3 ⊢; exact k3
      · rw [z] at k3 ⊢; exact k3
      · rw [z] at k3 ⊢; exact k3
theorem k_carry {N : Nat} {S : ZS} {t c : Nat} {o : OR4} {A : TA} (h : TT S t A) (hA : WA A) (hW : WW A) (hN : A.N = N) (ho : OS N S c o) (hc : 5 ≤ S.c) (hw : 50 ≤ S.w) : ∃ S', kX11_carryOut c t S = some S' ∧ Ste QM 2 20 S S' ∧ TT S' t (carO A o) ∧ S'.r (t / 2) 8 = S.r (t / 2) 8 := by
  have h7 := ho.2.2.2.2.2.2
  unfold kX11_carryOut carO tstS
  rcases h7 with ⟨z1, z2⟩ | ⟨z1, z2, z3⟩
  · obtain ⟨S', e1, q1, q2, q3⟩ := carry19 (x := 1) h hA hW hN ho (by decide) hc hw
    refine ⟨S', ?_, q1, ?_, q3⟩
    · refine chk_of ?_ q1.2.2.2.1 q1.2.2.2.2.2.1
      rw [gV_0 ho.1 z1]
      exact e1
    · rw [if_pos z2]
      exact q2
  · have hv := k_value h hA hW hN z3
    rw [if_neg z2]
    by_cases e : valS A o.2.2.2 = 0
    · refine ⟨S, ?_, Ste.refl.mono (fun _ z => z) (by omega) (by omega), ?_, rfl⟩
      · refine chk_of ?_ (Nat.le_refl _) (Nat.le_refl _)
        rw [gV_1 ho.1 z1, gN_o ho.1 z1, rcv_o z3.o, hv.1, b2_s, if_pos e]
        exact chk_of rfl (Nat.le_refl _) (Nat.le_refl _)
      · unfold carA
        rw [if_pos e]
        exact h
    · obtain ⟨S', e1, q1, q2, q3⟩ := carry19 h hA hW hN ho e hc hw
      refine ⟨S', ?_, q1, q2, q3⟩
      refine chk_of ?_ q1.2.2.2.1 q1.2.2.2.2.2.1
      rw [gV_1 ho.1 z1, gN_o ho.1 z1, rcv_o z3.o, hv.1, b2_s, if_neg e]
      exact chk_of e1 q1.2.2.2.1 q1.2.2.2.2.2.1
/-! the crew of the law -/
theorem dn_eq (x y : Int32) : 1 + x / y = x / y + 1 := Int32.add_comm _ _
theorem pass205 {S : ZS} {t m v2 : Nat} {A : TA} {k : Int32} (h : TT S t A) (hm : m < A.N) (hj : AR S v2 100000 2 ∧ S.i (v2 / 2) 0 = k) : ∃ S', kX12_pass_205 (S.r (S.r (t / 2) 2 / 2) m) v2 S = some (1, S') ∧ Ste QM 0 0 S S' ∧ TT S' t (if k = 2 then (A.sCl (updI A.cl m 100)).sBe (updI A.be m 100) else A) ∧ S'.r (t / 2) 8 = S.r (t / 2) 8 := by
  obtain ⟨b1, -⟩ := h.m hm
  have g0 : ∀ f : Int32 → Option (Int32 × ZS), aG S v2 100000 0 f = f (S.i (v2 / 2) 0) := fun f => aG_n (j := 0) hj.1 (by omega)
  unfold kX12_pass_205
  rw [g0, hj.2]
  by_cases e : k = 2
  · rw [if_pos e, if_pos e]
    have h1 := h.clar (v := 100) hm
    have h2 := h1.best (m := m) (v := 100) hm
    have p0 : ∀ f : ZS → Option (Int32 × ZS), aP S (S.r (S.r (t / 2) 2 / 2) m) 100000 0 100 f = f (S.wi (S.r (S.r (t / 2) 2 / 2) m / 2) 0 100) := fun f => aP_n (j := 0) b1 (by omega)
    have b1' : AR (S.wi (S.r (S.r (t / 2) 2 / 2) m / 2) 0 100) (S.r (S.r (t / 2) 2 / 2) m) 100000 3 := b1
    have p1 : ∀ f : ZS → Option (Int32 × ZS), aP (S.wi (S.r (S.r (t / 2) 2 / 2) m / 2) 0 100) (S.r (S.r (t / 2) 2 / 2) m) 100000 1 100 f = f ((S.wi (S.r (S.r (t / 2) 2 / 2) m / 2) 0 100).wi (S.r (S.r (t / 2) 2 / 2) m / 2) 1 100) := fun f => aP_n (j := 1) b1' (by omega)
    refine ⟨_, ?_, (Ste.num h hm).trans (Ste.num h1 hm), h2, rfl⟩
    rw [p0, p1]
    rfl
  · rw [if_neg e, if_neg e]
    exact ⟨S, rfl, Ste.refl, h, rfl⟩
