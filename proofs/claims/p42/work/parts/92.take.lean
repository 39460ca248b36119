/-! a job is taken; a mirror is moved in the row -/
/-- a new array filled: the old objects stay -/
theorem Ste.fill {x y : Nat} {S0 S : ZS} {o k : Nat} {d : Nat} (hs : Ste NO x y S0 S) (ho : S0.n ≤ o) : Ste NO x y S0 (S.wr o k d) :=
  ⟨hs.1, hs.2.1, fun i hi => ⟨(hs.2.2.1 i hi).1, fun z => ⟨((hs.2.2.1 i hi).2 z).1, by rw [wr_ne (by omega)]; exact ((hs.2.2.1 i hi).2 z).2⟩⟩, hs.2.2.2.1, hs.2.2.2.2.1, hs.2.2.2.2.2.1, hs.2.2.2.2.2.2⟩
theorem Ste.fillI {x y : Nat} {S0 S : ZS} {o k : Nat} {v : Int32} (hs : Ste NO x y S0 S) (ho : S0.n ≤ o) : Ste NO x y S0 (S.wi o k v) :=
  ⟨hs.1, hs.2.1, fun i hi => ⟨(hs.2.2.1 i hi).1, fun z => ⟨by rw [wi_ne (by omega)]; exact ((hs.2.2.1 i hi).2 z).1, ((hs.2.2.1 i hi).2 z).2⟩⟩, hs.2.2.2.1, hs.2.2.2.2.1, hs.2.2.2.2.2.1, hs.2.2.2.2.2.2⟩
theorem Ste.wT {x y : Nat} {S0 S : ZS} {t k v : Nat} (hs : Ste NO x y S0 S) (h : OB S t 14) : Ste QT x y S0 (S.wr (t / 2) k v) :=
  Ste.trans (hs.mono (fun _ z => z.elim) (Nat.le_refl _) (Nat.le_refl _)) (Ste.wr (Q := QT) (fun _ => h.2.2))
theorem Ste.iT {Q : Nat → Prop} {x y : Nat} {S0 S : ZS} {t k : Nat} {v : Int32} (hs : Ste Q x y S0 S) (h : OB S t 14) (hq : Q 14) : Ste Q x y S0 (S.wi (t / 2) k v) :=
  Ste.trans hs (Ste.wi (Q := Q) (fun _ => by rw [h.2.2]; exact hq))
theorem take21 {S0 : ZS} {t i v2 v3 : Nat} {A : TA} (h : TT S0 t A) (hA : WA A) (hi : i < A.J) : ∀ (d p f : Nat) (S : ZS), A.J - 1 = p + d → d < f → Ste NO 1 (A.J - 1) S0 S → v3 / 2 = S0.n → AR S v3 400000 (A.J - 1) → (∀ j, j < p → S.r (v3 / 2) j = S0.r (S0.r (t / 2) 4 / 2) (if j < i then j else j + 1)) → ∃ S', kX12_take_21 f t (nI i) v2 v3 (nI p) S = some (v2, S') ∧ Ste QT 1 (A.J - 1) S0 S' ∧ TT S' t (takeA A i) ∧ (∀ k, k ≠ 4 → S'.r (t / 2) k = S0.r (t / 2) k) ∧ S'.c ≤ S.c ∧ S'.w ≤ S.w := by
  have hJ := hA.J12
  intro d
  induction d with
  | zero =>
    intro p f S hd hf hs hv ha hr
    obtain ⟨f, rfl⟩ : ∃ z, f = z + 1 := ⟨f - 1, by omega⟩
    obtain rfl : A.J - 1 = p := by omega
    have hS := h.no hs
    have hT := hS.jobs (cj := v3) (J := A.J - 1) (jk := fun k => if k < i then A.jk k else A.jk (k + 1)) (jm := fun k => if k < i then A.jm k else A.jm (k + 1)) ha (fun k hk => by
      rw [hr k hk]
      have hx : (if k < i then k else k + 1) < A.J := by split <;> omega
      obtain ⟨b1, b2, b3⟩ := h.j hx
      have b2 : S.i (S0.r (S0.r (t / 2) 4 / 2) (if k < i then k else k + 1) / 2) 0 = A.jk (if k < i then k else k + 1) := by rw [(hs.old b1.2.1).1]; exact b2
      have b3 : S.i (S0.r (S0.r (t / 2) 4 / 2) (if k < i then k else k + 1) / 2) 1 = nI (A.jm (if k < i then k else k + 1)) := by rw [(hs.old b1.2.1).1]; exact b3
      refine ⟨b1.ste hs, ?_, ?_⟩
      · rw [b2]
        show _ = if k < i then A.jk k else A.jk (k + 1)
        split <;> rfl
      · rw [b3]
        show _ = nI (if k < i then A.jm k else A.jm (k + 1))
        split <;> rfl)
    have s8 : ∀ v k : Nat, k ≠ 4 → (S.wr (t / 2) 4 v).r (t / 2) k = S0.r (t / 2) k := fun v k hk => by
      show ur S.r (t / 2) 4 v (t / 2) k = _
      rw [ur_slot hk]
      exact congrFun (hs.old h.o.2.1).2 k
    unfold kX12_take_21
    rw [aL_n ha, if_pos (by rw [nI_leI (by omega) (by omega)]; omega), pR_o hS.o]
    by_cases e : i = 0
    · subst e
      rw [if_pos (show nI 0 = 0 from rfl), pI_o hT.o]
      refine ⟨_, rfl, (hs.wT hS.o).iT hT.o rfl, ?_, s8 v3, Nat.le_refl _, Nat.le_refl _⟩
      have := hT.sgo (v := 0)
      exact this
    · rw [if_neg (by rw [show (0 : Int32) = nI 0 from rfl, nI_eq (by omega) (by omega)]; exact e)]
      refine ⟨_, rfl, hs.wT hS.o, ?_, s8 v3, Nat.le_refl _, Nat.le_refl _⟩
      have eg : takeA A i = A.sQ (A.J - 1) (fun k => if k < i then A.jk k else A.jk (k + 1)) (fun k => if k < i then A.jm k else A.jm (k + 1)) A.go := by
        unfold takeA
        rw [if_neg e]
      rw [eg]
      exact hT
  | succ d ih =>
    intro p f S hd hf hs hv ha hr
    obtain ⟨f, rfl⟩ : ∃ z, f = z + 1 := ⟨f - 1, by omega⟩
    have hS := h.no hs
    have hSr := (hs.old h.o.2.1).2
    have hjo := h.aj.2.1
    have hx : (if p < i then p else p + 1) < A.J := by split <;> omega
    obtain ⟨b1, b2, b3⟩ := hS.j hx
    obtain ⟨S1, eS1⟩ : ∃ z, z = S.wr (v3 / 2) p (S.r (S.r (t / 2) 4 / 2) (if p < i then p else p + 1)) := ⟨_, rfl⟩
    obtain ⟨S', e1, q1, q2, q3, q4, q5⟩ := ih (p + 1) f S1 (by omega) (by omega) (by rw [eS1]; exact hs.fill (by omega)) hv (by rw [eS1]; exact ha) (fun j hj => by
      rw [eS1]
      show ur S.r (v3 / 2) p (S.r (S.r (t / 2) 4 / 2) (if p < i then p else p + 1)) (v3 / 2) j = _
      by_cases e : j = p
      · subst e
        rw [ur_self, congrFun hSr 4, (hs.old hjo).2]
      · rw [ur_slot e]
        exact hr j (by omega))
    refine ⟨S', ?_, q1, q2, q3, by rw [eS1] at q4; exact q4, by rw [eS1] at q5; exact q5⟩
    have step : ∀ s9 : Int32, s9 = nI (if p < i then p else p + 1) → kX12_take_50 (kX12_take_21 f) t (nI i) v2 v3 (nI p) s9 (S.r (t / 2) 4) (nI p) v3 S = some (v2, S') := by
      intro s9 hs9
      unfold kX12_take_50
      rw [hs9, aN_n hS.aj hx b1.ne0, aR_n ha (by omega) b1.okE, ← eS1, bd_eq, nI_1]
      exact e1
    unfold kX12_take_21
    rw [aL_n ha, if_neg (by rw [nI_leI (by omega) (by omega)]; omega), gN_o hS.o hS.aj.ne0]
    by_cases e : i ≤ p
    · rw [if_pos ((nI_leI (by omega) (by omega)).mpr e)]
      exact step _ (by rw [if_neg (by omega), nI_1])
    · rw [if_neg (fun z => e ((nI_leI (by omega) (by omega)).mp z))]
      exact step _ (by rw [if_pos (by omega)])
theorem k_take {S : ZS} {t i : Nat} {A : TA} (h : TT S t A) (hA : WA A) (hi : i < A.J) (hc : 1 ≤ S.c) (hw : 12 ≤ S.w) : ∃ c S', kX12_take t (nI i) S = some (c, S') ∧ Ste QT 1 11 S S' ∧ TT S' t (takeA A i) ∧ (∀ k, k ≠ 4 → S'.r (t / 2) k = S.r (t / 2) k) ∧ JB S' c (A.jk i) (A.jm i) := by
  have hJ := hA.J12
  obtain ⟨b1, b2, b3⟩ := h.j hi
  have s1 : Ste NO 1 (A.J - 1) S (S.new (400000 + (A.J - 1)) (A.J - 1) z0) := Ste.new (by omega) (by omega)
  obtain ⟨S', e1, q1, q2, q3, q4, q5⟩ := take21 (v2 := S.r (S.r (t / 2) 4 / 2) i) (v3 := 2 * S.n + 1) h hA hi (A.J - 1) 0 FU (S.new (400000 + (A.J - 1)) (A.J - 1) z0) (by omega) (by unfold FU; omega) s1 (nw_o _).2 (AR.mk (by omega)) (fun j hj => by omega)
  have hk : S.K (S.r (S.r (t / 2) 4 / 2) i / 2) ≠ 14 := by rw [b1.2.2.1]; omega
  have ho := ((q1.2.2.1 _ b1.2.1).2 hk).1
  refine ⟨_, S', ?_, q1.mono (fun _ z => z) (Nat.le_refl _) (by omega), q2, q3, b1.ste q1, by rw [ho]; exact b2, by rw [ho]; exact b3⟩
  unfold kX12_take
  refine chk_of ?_ q1.2.2.2.1 q1.2.2.2.2.2.1
  rw [gN_o h.o h.aj.ne0, aN_n h.aj hi b1.ne0, gN_o h.o h.aj.ne0, aL_n h.aj]
  have e : nI A.J - 1 = nI (A.J - 1) := by
    obtain ⟨z, hz⟩ : ∃ z, A.J = z + 1 := ⟨A.J - 1, by omega⟩
    rw [hz, nI_pred]
    rfl
  rw [e, nA_n (by omega) (by omega) (by omega)]
  exact chk_of e1 q4 q5
/-- the row without one mirror -/
def skp (rw : Nat → Nat) (q j : Nat) : Nat := rw (if j < q then j else j + 1)
theorem mvR_skp {rw : Nat → Nat} {q b p : Nat} (h : p ≠ b) : mvR rw q b p = skp rw q (if p < b then p else p - 1) := by
  unfold mvR skp
  rw [if_neg h]
  by_cases e1 : q ≤ p ∧ p < b
  · rw [if_pos e1, if_pos e1.2, if_neg (by omega)]
  · rw [if_neg e1]
    by_cases e2 : b < p ∧ p ≤ q
    · rw [if_pos e2, if_neg (show ¬ p < b by omega), if_pos (by omega)]
    · rw [if_neg e2]
      by_cases e3 : p < b
      · rw [if_pos e3, if_pos (by omega)]
      · rw [if_neg e3, if_neg (by omega)]
        congr 1
        omega
theorem move14 {S0 : ZS} {t q b v3 : Nat} {A : TA} (h : TT S0 t A) (hA : WA A) (hq : q < A.N) (hb : b < A.N) : ∀ (d p f : Nat) (S : ZS), A.N = p + d → d < f → Ste NO 1 A.N S0 S → v3 / 2 = S0.n → AR S v3 100000 A.N → (∀ j, j < p → S.i (v3 / 2) j = nI (mvR A.rw q b j)) → ∃ S', kX12_move_14 f t (nI (A.rw q)) (nI b) v3 (nI (if (if p ≤ b then p else p - 1) ≤ q then (if p ≤ b then p else p - 1) else (if p ≤ b then p else p - 1) + 1)) (nI p) S = some S' ∧ Ste QT 1 A.N S0 S' ∧ TT S' t (A.sRw (mvR A.rw q b)) ∧ S'.r (t / 2) 8 = S0.r (t / 2) 8 ∧ S'.c ≤ S.c ∧ S'.w ≤ S.w := by
  have hN := hA.N9
  intro d
  induction d with
  | zero =>
    intro p f S hd hf hs hv ha hr
    obtain ⟨f, rfl⟩ : ∃ z, f = z + 1 := ⟨f - 1, by omega⟩
    obtain rfl : A.N = p := by omega
    have hS := h.no hs
    have hT := hS.row (cr := v3) (rw := mvR A.rw q b) ha hr (fun m hm e => by
      have h1 := (h.m hm).1.2.1
      have e2 := (hs.old h.o.2.1).2
      have e3 := (hs.old h.am.2.1).2
      rw [e2, e3] at e
      rw [e] at h1
      omega)
    refine ⟨_, ?_, hs.wT hS.o, hT, ?_, Nat.le_refl _, Nat.le_refl _⟩
    · unfold kX12_move_14
      rw [gN_o hS.o hS.ar.ne0, aL_n hS.ar, if_pos (by rw [nI_leI (by omega) (by omega)]; omega), pR_o hS.o]
    · show ur S.r (t / 2) 3 v3 (t / 2) 8 = _
      rw [ur_slot (by decide)]
      exact congrFun (hs.old h.o.2.1).2 8
  | succ d ih =>
    intro p f S hd hf hs hv ha hr
    obtain ⟨f, rfl⟩ : ∃ z, f = z + 1 := ⟨f - 1, by omega⟩
    have hp : p < A.N := by omega
    have hS := h.no hs
    have next : ∀ v : Int32, v = nI (mvR A.rw q b p) → ∃ S', kX12_move_14 f t (nI (A.rw q)) (nI b) v3 (nI (if (if p + 1 ≤ b then p + 1 else p + 1 - 1) ≤ q then (if p + 1 ≤ b then p + 1 else p + 1 - 1) else (if p + 1 ≤ b then p + 1 else p + 1 - 1) + 1)) (nI (p + 1)) (S.wi (v3 / 2) p v) = some S' ∧ Ste QT 1 A.N S0 S' ∧ TT S' t (A.sRw (mvR A.rw q b)) ∧ S'.r (t / 2) 8 = S0.r (t / 2) 8 ∧ S'.c ≤ S.c ∧ S'.w ≤ S.w := by
      intro v hv2
      exact ih (p + 1) f (S.wi (v3 / 2) p v) (by omega) (by omega) (hs.fillI (by omega)) hv ha (fun j hj => by
        show up S.i (v3 / 2) p v (v3 / 2) j = _
        by_cases e : j = p
        · subst e
          rw [up_self, hv2]
        · rw [up_slot e]
          exact hr j (by omega))
    by_cases e : p = b
    · subst e
      have hm : mvR A.rw q p p = A.rw q := by unfold mvR; rw [if_pos rfl]
      obtain ⟨S', e1, q1⟩ := next (nI (A.rw q)) (by rw [hm])
      refine ⟨S', ?_, q1⟩
      unfold kX12_move_14
      rw [gN_o hS.o hS.ar.ne0, aL_n hS.ar, if_neg (by rw [nI_leI (by omega) (by omega)]; omega), if_pos rfl, aP_n ha hp, bd_eq, nI_1]
      rw [if_pos (Nat.le_refl p)]
      rw [if_neg (show ¬ p + 1 ≤ p by omega), show p + 1 - 1 = p by omega] at e1
      exact e1
    · have hne : ¬ nI p = nI b := fun z => e (nI_inj (by omega) (by omega) z)
      obtain ⟨j, hj⟩ : ∃ j, j = (if p ≤ b then p else p - 1) := ⟨_, rfl⟩
      have hj2 : j = (if p < b then p else p - 1) := by
        rw [hj]
        by_cases z : p < b
        · rw [if_pos z, if_pos (by omega)]
        · rw [if_neg z, if_neg (by omega)]
      have hjn : (if p + 1 ≤ b then p + 1 else p + 1 - 1) = j + 1 := by
        rw [hj2]
        by_cases z : p < b
        · rw [if_pos z, if_pos (by omega)]
        · rw [if_neg z, if_neg (by omega)]
          omega
      have hjN : j + 1 < A.N := by
        rw [hj2]
        split <;> omega
      have hmv : mvR A.rw q b p = skp A.rw q j := by rw [mvR_skp e, hj2]
      obtain ⟨S', e1, q1⟩ := next (nI (mvR A.rw q b p)) rfl
      rw [hjn] at e1
      refine ⟨S', ?_, q1⟩
      rw [← hj]
      unfold kX12_move_14
      rw [gN_o hS.o hS.ar.ne0, aL_n hS.ar, if_neg (by rw [nI_leI (by omega) (by omega)]; omega), if_neg hne, gN_o hS.o hS.ar.ne0]
      have hfr : (if j ≤ q then j else j + 1) < A.N := by split <;> omega
      rw [aG_n hS.ar hfr, hS.p hfr]
      have m52 : ∀ fr : Nat, fr = (if j < q then j else j + 1) → kX12_move_52 (kX12_move_14 f) t (nI (A.rw q)) (nI b) v3 (nI fr) (nI p) S = some S' := by
        intro fr hfr2
        have hfN : fr < A.N := by rw [hfr2]; split <;> omega
        unfold kX12_move_52
        rw [gN_o hS.o hS.ar.ne0, aG_n hS.ar hfN, hS.p hfN, aP_n ha hp, bd_eq, bd_eq, nI_1, nI_1]
        have ev : A.rw fr = mvR A.rw q b p := by
          rw [hmv, hfr2]
          rfl
        have ef : fr + 1 = (if j + 1 ≤ q then j + 1 else j + 1 + 1) := by
          rw [hfr2]
          by_cases z : j < q
          · rw [if_pos z, if_pos (by omega)]
          · rw [if_neg z, if_neg (by omega)]
        rw [ev, ef]
        exact e1
      by_cases z : j = q
      · have e3 : (if j ≤ q then j else j + 1) = q := by rw [if_pos (by omega), z]
        rw [e3, if_pos rfl, bd_eq, nI_1]
        exact m52 (q + 1) (by rw [if_neg (by omega), z])
      · rw [if_neg (fun y => by
          have := hA.inj hfr hq (nI_inj (by have := hA.lt hfr; omega) (by have := hA.lt hq; omega) y)
          by_cases w : j ≤ q
          · rw [if_pos w] at this; omega
          · rw [if_neg w] at this; omega)]
        refine m52 _ ?_
        by_cases w : j ≤ q
        · rw [if_pos w, if_pos (by omega)]
        · rw [if_neg w, if_neg (by omega)]
theorem k_move {S : ZS} {t m b : Nat} {A : TA} (h : TT S t A) (hA : WA A) (hm : m < A.N) (hb : b < A.N) (hc : 1 ≤ S.c) (hw : 10 ≤ S.w) : ∃ S', kX12_move t (nI m) (nI b) S = some S' ∧ Ste QT 1 10 S S' ∧ TT S' t (moveA A m b) ∧ S'.r (t / 2) 8 = S.r (t / 2) 8 := by
  have hN := hA.N9
  obtain ⟨p1, p2⟩ := plc_lt hA hm
  have s1 : Ste NO 1 A.N S (S.new (100000 + A.N) A.N z0) := Ste.new (by omega) (by omega)
  obtain ⟨S', e1, q1, q2, q3, q4, q5⟩ := move14 (v3 := 2 * S.n + 1) h hA p1 hb A.N 0 FU (S.new (100000 + A.N) A.N z0) (by omega) (by unfold FU; omega) s1 (nw_o _).2 (AR.mk (by omega)) (fun j hj => by omega)
  rw [p2] at e1
  refine ⟨S', ?_, q1.mono (fun _ z => z) (Nat.le_refl _) (by omega), q2, q3⟩
  unfold kX12_move
  refine chk_of ?_ q1.2.2.2.1 q1.2.2.2.2.2.1
  rw [gN_o h.o h.ar.ne0, aL_n h.ar, nA_n (by omega) (by omega) (by omega)]
  exact chk_of e1 q4 q5
