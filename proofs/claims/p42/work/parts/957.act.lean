/-! something by hand, or some minutes -/
def QLc : Nat → Prop := fun k => k = 14 ∨ k = 100003 ∨ k = 11
def Fte (Q : Nat → Prop) (x y : Nat) (S S' : ZS) : Prop := S.n ≤ S'.n ∧ (∀ o, o < S.n → S'.K o = S.K o ∧ (¬ Q (S.K o) → S'.i o = S.i o ∧ S'.r o = S.r o)) ∧ S'.c ≤ S.c ∧ S.c ≤ S'.c + x ∧ S'.w ≤ S.w ∧ S.w ≤ S'.w + y
theorem Ste.f {Q : Nat → Prop} {x y : Nat} {S S' : ZS} (h : Ste Q x y S S') : Fte Q x y S S' := h.2
theorem Fte.s {Q : Nat → Prop} {x y : Nat} {S S' : ZS} (h : Fte Q x y S S') : Ste Q x y (S.wg S'.g) S' := ⟨rfl, h⟩
theorem Fte.refl {Q : Nat → Prop} {S : ZS} : Fte Q 0 0 S S := (Ste.refl).f
theorem Fte.trans {Q : Nat → Prop} {x y x' y' : Nat} {S S1 S2 : ZS} (h : Fte Q x y S S1) (h' : Fte Q x' y' S1 S2) : Fte Q (x + x') (y + y') S S2 := by
  obtain ⟨a2, a3, a4, a5, a6, a7⟩ := h
  obtain ⟨b2, b3, b4, b5, b6, b7⟩ := h'
  refine ⟨Nat.le_trans a2 b2, fun o ho => ?_, by omega, by omega, by omega, by omega⟩
  obtain ⟨c1, c2⟩ := a3 o ho
  obtain ⟨d1, d2⟩ := b3 o (by omega)
  refine ⟨d1.trans c1, fun hq => ?_⟩
  obtain ⟨e1, e2⟩ := c2 hq
  obtain ⟨f1, f2⟩ := d2 (by rw [c1]; exact hq)
  exact ⟨f1.trans e1, f2.trans e2⟩
theorem Fte.mono {Q Q' : Nat → Prop} {x y x' y' : Nat} {S S1 : ZS} (h : Fte Q x y S S1) (hq : ∀ k, Q k → Q' k) (hx : x ≤ x') (hy : y ≤ y') : Fte Q' x' y' S S1 := by
  obtain ⟨a2, a3, a4, a5, a6, a7⟩ := h
  exact ⟨a2, fun o ho => ⟨(a3 o ho).1, fun z => (a3 o ho).2 (fun q => z (hq _ q))⟩, a4, by omega, a6, by omega⟩
theorem Fte.zu {Q : Nat → Prop} {S : ZS} {g : G} {a b : Nat} : Fte Q a b S (ZU S g (S.c - a) (S.w - b)) := by
  refine ⟨Nat.le_refl _, fun o _ => ⟨rfl, fun _ => ⟨rfl, rfl⟩⟩, Nat.sub_le _ _, ?_, Nat.sub_le _ _, ?_⟩
  · show S.c ≤ S.c - a + a
    omega
  · show S.w ≤ S.w - b + b
    omega
theorem QM_QL : ∀ k, QM k → QLc k := fun _ h => h.elim Or.inl (fun z => Or.inr (Or.inl z))
theorem QD_QL : ∀ k, QDc k → QLc k := fun _ h => Or.inr (Or.inr h)
theorem QT_QL : ∀ k, QT k → QLc k := fun _ h => Or.inl h
/-- law and class keep the same train -/
def LV (S : ZS) (t r : Nat) (A : TA) (P : List OR4) : Prop := TT S t A ∧ OA A.N S t P ∧ RC A P S.g ∧ WW A ∧ 0 < A.N ∧ OB S r 11
theorem LV.tt {S : ZS} {t r : Nat} {A : TA} {P : List OR4} (h : LV S t r A P) : TT S t A := h.1
theorem LV.oa {S : ZS} {t r : Nat} {A : TA} {P : List OR4} (h : LV S t r A P) : OA A.N S t P := h.2.1
theorem LV.rc {S : ZS} {t r : Nat} {A : TA} {P : List OR4} (h : LV S t r A P) : RC A P S.g := h.2.2.1
theorem LV.ww {S : ZS} {t r : Nat} {A : TA} {P : List OR4} (h : LV S t r A P) : WW A := h.2.2.2.1
theorem LV.n0 {S : ZS} {t r : Nat} {A : TA} {P : List OR4} (h : LV S t r A P) : 0 < A.N := h.2.2.2.2.1
theorem LV.ob {S : ZS} {t r : Nat} {A : TA} {P : List OR4} (h : LV S t r A P) : OB S r 11 := h.2.2.2.2.2
theorem LV.wa {S : ZS} {t r : Nat} {A : TA} {P : List OR4} (h : LV S t r A P) : WA A := h.rc.w
theorem LV.P16 {S : ZS} {t r : Nat} {A : TA} {P : List OR4} (h : LV S t r A P) : P.length ≤ 16 := h.rc.p.1
theorem LV.D {S S' : ZS} {t r : Nat} {A : TA} {P : List OR4} (h : LV S t r A P) (s : Ste QDc 0 0 S S') : LV S' t r A P := ⟨Ste.D s h.tt, h.oa.D (A := A) s h.tt.o, by rw [s.1]; exact h.rc, h.ww, h.n0, h.ob.ste s⟩
/-- the class has moved on, the law's own train not yet -/
theorem LV.next {S S' : ZS} {t r : Nat} {A A' : TA} {P : List OR4} {x y : Nat} (h : LV S t r A P) (s : Fte QM x y S S') (hT : TT S' t A') (h8 : S'.r (t / 2) 8 = S.r (t / 2) 8) (hR : RC A' P S'.g) (hW : WW A') (hN : A'.N = A.N) : LV S' t r A' P := by
  have s1 := s.s
  have hO : OA A.N (S.wg S'.g) t P := h.oa.zu (g := S'.g) (c := S.c) (w := S.w)
  refine ⟨hT, by rw [hN]; exact hO.ste s1 h8, hR, hW, by rw [hN]; exact h.n0, ?_⟩
  have ho : OB (S.wg S'.g) r 11 := h.ob
  exact ho.ste s1
/-- a call of the class with what stands behind it -/
theorem clR_F {S : ZS} {g' : G} {z : Option XR} {v : Int32} {f : Int32 → ZS → Option (Int32 × ZS)} {Q : Nat → Prop} {a b : Nat} {Pr : Int32 → ZS → Prop} (hc : 3 ≤ S.c) (hw : 18 ≤ S.w) (hz : z = some (0, v, g')) (k : ∃ x S', f v (ZU S g' (S.c - 3) (S.w - 18)) = some (x, S') ∧ Fte Q a b (ZU S g' (S.c - 3) (S.w - 18)) S' ∧ Pr x S') : ∃ x S', clR Prod.snd S 3 18 z f = some (x, S') ∧ Fte Q (3 + a) (18 + b) S S' ∧ Pr x S' := by
  obtain ⟨x, S', k1, k2, k3⟩ := k
  refine ⟨x, S', clR_1 (S := S) (g := S.g) (c := S.c) (w := S.w) hc hw hz k1 ⟨k2.2.2.1, k2.2.2.2.2.1⟩, Fte.zu.trans k2, k3⟩
theorem b2_F {α : Type} {S S1 : ZS} {z : Option (α × ZS)} {v : α} {f : α → ZS → Option (Int32 × ZS)} {Q : Nat → Prop} {a b a' b' : Nat} {Pr : Int32 → ZS → Prop} (hz : z = some (v, S1)) (s : Fte Q a' b' S S1) (k : ∃ x S', f v S1 = some (x, S') ∧ Fte Q a b S1 S' ∧ Pr x S') : ∃ x S', b2 Prod.snd z f = some (x, S') ∧ Fte Q (a' + a) (b' + b) S S' ∧ Pr x S' := by
  obtain ⟨x, S', k1, k2, k3⟩ := k
  refine ⟨x, S', ?_, s.trans k2, k3⟩
  rw [hz]
  exact chk_of k1 k2.2.2.1 k2.2.2.2.2.1
theorem b1_F {S S1 : ZS} {z : Option ZS} {f : ZS → Option (Int32 × ZS)} {Q : Nat → Prop} {a b a' b' : Nat} {Pr : Int32 → ZS → Prop} (hz : z = some S1) (s : Fte Q a' b' S S1) (k : ∃ x S', f S1 = some (x, S') ∧ Fte Q a b S1 S' ∧ Pr x S') : ∃ x S', b1 Prod.snd z f = some (x, S') ∧ Fte Q (a' + a) (b' + b) S S' ∧ Pr x S' := by
  obtain ⟨x, S', k1, k2, k3⟩ := k
  refine ⟨x, S', ?_, s.trans k2, k3⟩
  rw [hz]
  exact chk_of k1 k2.2.2.1 k2.2.2.2.2.1
theorem F_done {S : ZS} {v : Int32} {Q : Nat → Prop} {Pr : Int32 → ZS → Prop} (h : Pr v S) : ∃ x S', (some (v, S) : Option (Int32 × ZS)) = some (x, S') ∧ Fte Q 0 0 S S' ∧ Pr x S' := ⟨v, S, rfl, Fte.refl, h⟩
theorem F_more {S : ZS} {z : Option (Int32 × ZS)} {Q : Nat → Prop} {a b a' b' : Nat} {Pr : Int32 → ZS → Prop} (k : ∃ x S', z = some (x, S') ∧ Fte Q a b S S' ∧ Pr x S') (ha : a ≤ a') (hb : b ≤ b') : ∃ x S', z = some (x, S') ∧ Fte Q a' b' S S' ∧ Pr x S' := by
  obtain ⟨x, S', k1, k2, k3⟩ := k
  exact ⟨x, S', k1, k2.mono (fun _ z => z) ha hb, k3⟩
theorem minN_W {P : List OR4} : ∀ n {A : TA}, WW A → WW (minN P n A) := by
  intro n
  induction n with
  | zero => intro A h; exact h
  | succ n ih => intro A h; exact ih h.min
/-- what an act leaves: law and class as one, with some more jobs done -/
def AE (t r : Nat) (A : TA) (P : List OR4) (n : Nat) (v : Int32) (S' : ZS) : Prop := v = 1 ∧ ∃ A', LV S' t r A' P ∧ A'.N = A.N ∧ (A'.lim = A.lim ∧ A'.W = A.W) ∧ ∀ D, A.dn = nI D → ∃ D', A'.dn = nI D' ∧ D' ≤ D + n
theorem carO_lim {A : TA} {o : OR4} : (carO A o).lim = A.lim := by
  have h : ∀ (A : TA) (v : Int32) (m : Nat), (ordA A v m).lim = A.lim := by
    intro A v m
    unfold ordA
    split
    · rfl
    · split <;> rfl
  unfold carO carA
  split
  · rfl
  · split
    · exact h _ _ _
    · split
      · exact h _ _ _
      · split
        · exact h _ _ _
        · split <;> rfl
theorem carL_lim : ∀ (L : List OR4) (A : TA), (L.foldl carO A).lim = A.lim := by
  intro L
  induction L with
  | nil => intro A; rfl
  | cons o L ih => intro A; exact (ih (carO A o)).trans carO_lim
theorem minA_lim {P : List OR4} {A : TA} : (minA P A).lim = A.lim := by
  have h : ∀ B : TA, (workA B).lim = B.lim := by
    intro B
    unfold workA
    split
    · rfl
    · split
      · unfold finA
        split
        · rfl
        · split <;> rfl
      · rfl
  show (workA (P.foldl carO A)).lim = _
  rw [h, carL_lim]
theorem minN_lim {P : List OR4} : ∀ n (A : TA), (minN P n A).lim = A.lim ∧ (minN P n A).W = A.W := by
  intro n
  induction n with
  | zero => intro A; exact ⟨rfl, rfl⟩
  | succ n ih => intro A; exact ⟨(ih (minA P A)).1.trans minA_lim, (ih (minA P A)).2.trans minA_dn.2.2⟩
theorem minN_dn {P : List OR4} : ∀ n (A : TA) (D : Nat), A.dn = nI D → ∃ D', (minN P n A).dn = nI D' ∧ D ≤ D' ∧ D' ≤ D + n := by
  intro n
  induction n with
  | zero => intro A D h; exact ⟨D, h, Nat.le_refl _, Nat.le_refl _⟩
  | succ n ih =>
    intro A D h
    have e : (minA P A).dn = A.dn + dnm P A := minA_dn.1
    have h01 : dnm P A = 0 ∨ dnm P A = 1 := dnv_01
    rcases h01 with z | z
    · obtain ⟨D', k1, k2, k3⟩ := ih (minA P A) D (by rw [e, z, Int32.add_zero]; exact h)
      exact ⟨D', k1, k2, by omega⟩
    · obtain ⟨D', k1, k2, k3⟩ := ih (minA P A) (D + 1) (by rw [e, z, h, nI_1])
      exact ⟨D', k1, by omega, by omega⟩
set_option maxRecDepth 8000 in
theorem act55 {S : ZS} {t r k : Nat} {A : TA} {P : List OR4} (h : LV S t r A P) (hk : 0 < k ∧ k ≤ 30) (hc : 2000 ≤ S.c) (hw : 20000 ≤ S.w) : ∃ x S', kL_act_55 t (nI k) r 1 S = some (x, S') ∧ Fte QLc 1100 11000 S S' ∧ AE t r A P 30 x S' := by
  obtain ⟨j, S1, e1, hj, s1⟩ := k_next (k := k) h.ob hk.1 (by omega)
  have h1 := h.D s1
  have hcw : S1.c = S.c ∧ S1.w = S.w := by
    have := s1.2.2.2
    omega
  have hn : 1 + nI j = nI (j + 1) := by rw [Int32.add_comm, nI_1]
  have hg : ∀ o, o ∈ P → goodO A.N o := h1.oa.good
  obtain ⟨g2, e2, r2⟩ := q_passMinutes (n := j + 1) h1.rc hg (by omega) (by omega)
  have hT2 : TT (ZU S1 g2 (S1.c - 3) (S1.w - 18)) t A := h1.tt
  have hO2 : OA A.N (ZU S1 g2 (S1.c - 3) (S1.w - 18)) t P := h1.oa.zu
  obtain ⟨S3, e3, s3, t3, r3⟩ := k_passN (n := j + 1) hT2 h1.wa h1.ww hO2 h1.P16 (by omega) (by show 33 * (j + 1) + 40 ≤ S1.c - 3; omega) (by show 331 * (j + 1) + 400 ≤ S1.w - 18; omega)
  unfold kL_act_55
  rw [rcv_o h.ob]
  refine F_more (b2_F (a := 3 + (33 * (j + 1) + 0)) (b := 18 + (331 * (j + 1) + 0)) e1 (s1.f.mono QD_QL (Nat.le_refl _) (Nat.le_refl _)) ?_) (by omega) (by omega)
  rw [bd_eq, hn]
  refine clR_F (by omega) (by omega) e2 ?_
  rw [rcv_o hT2.o]
  refine b2_F e3 (s3.f.mono QM_QL (Nat.le_refl _) (Nat.le_refl _)) ?_
  rw [if_pos rfl]
  refine F_done ⟨rfl, minN P (j + 1) A, ?_, minN_N _ _, minN_lim _ _, fun D hD => ?_⟩
  · exact h1.next (Fte.zu.trans s3.f) t3 (by rw [r3]; rfl) (by rw [s3.1]; exact r2) (minN_W _ h1.ww) (minN_N _ _)
  · obtain ⟨D', k1, k2, k3⟩ := minN_dn (P := P) (j + 1) A D hD
    exact ⟨D', k1, by omega⟩
set_option maxRecDepth 8000 in
theorem act39 {S : ZS} {t r : Nat} {A : TA} {P : List OR4} (h : LV S t r A P) (hc : 2000 ≤ S.c) (hw : 20000 ≤ S.w) : ∃ x S', kL_act_39 t r S = some (x, S') ∧ Fte QLc 1100 11000 S S' ∧ AE t r A P 30 x S' := by
  obtain ⟨j, S1, e1, hj, s1⟩ := k_next (k := 4) h.ob (by omega) (by omega)
  have h1 := h.D s1
  have hcw : S1.c = S.c ∧ S1.w = S.w := by
    have := s1.2.2.2
    omega
  unfold kL_act_39
  rw [rcv_o h.ob]
  refine F_more (b2_F (a := 1100) (b := 11000) e1 (s1.f.mono QD_QL (Nat.le_refl _) (Nat.le_refl _)) ?_) (by omega) (by omega)
  by_cases e : nI j = 0
  · rw [if_pos e]
    exact act55 (k := 30) h1 (by omega) (by omega) (by omega)
  · rw [if_neg e]
    exact act55 (k := 5) h1 (by omega) (by omega) (by omega)
