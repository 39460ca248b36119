/-! a train is drawn -/
def Wv (o : Option Nat) : Int32 := match o with
  | none => 60
  | some W => nI W
def lv (o : Option Nat) : Int32 := match o with
  | none => 1000
  | some W => nI W
def allI (hw hl : Option Nat) (ms : List Mi) (L : List (OR4 × List It)) : List It := widthI hw ++ (limitI hl ++ (msI ms 0 ++ L.flatMap Prod.snd))
def big (a b : Nat) : Prop := a ≤ b
/-- a drawn train: what is kept, what was told -/
def DF (r c : Nat) (g : G) (k : Nat) : Nat → ZS → Prop := fun t S => ∃ A ms hw hl L, TT S t A ∧ OB S r 11 ∧ BB S c (spl (allI hw hl ms L)) ∧ OLS S t A.N L.length L ∧ S.g = g ∧ RM S k ∧ TrM A ms (Wv hw) (lv hl) ∧ (∀ x, x ∈ ms → miOK x) ∧ (1 ≤ ms.length ∧ ms.length ≤ 7) ∧ (∀ W, hw = some W → W ≤ 180) ∧ (∀ W, hl = some W → big W 10000) ∧ L.length ≤ 4 ∧ (spl (allI hw hl ms L)).length ≤ 1600
theorem TT.wr8 {S : ZS} {t d : Nat} {A : TA} (h : TT S t A) : TT (S.wr (t / 2) 8 d) t A := by
  have f : ∀ c base n, 100000 ≤ base → AR S c base n → (S.wr (t / 2) 8 d).r (c / 2) = S.r (c / 2) := fun c base n hb hc => wr_ne (hc.neO h.o (by omega))
  have e : ∀ k, k ≠ 8 → (S.wr (t / 2) 8 d).r (t / 2) k = S.r (t / 2) k := fun k hk => ur_slot hk
  refine ⟨h.o, h.W, h.lim, h.go, h.mi, h.dn, by rw [e 2 (by decide)]; exact h.am, by rw [e 3 (by decide)]; exact h.ar, by rw [e 4 (by decide)]; exact h.aj, fun m hm => ?_, fun m m' hm hm' z => ?_, fun p hp => ?_, fun k hk => ?_⟩
  · rw [e 2 (by decide), e 3 (by decide), f _ _ _ (by omega) h.am]
    exact ⟨h.m hm, h.mr hm⟩
  · rw [e 2 (by decide), f _ _ _ (by omega) h.am]
    exact h.mm hm hm' z
  · rw [e 3 (by decide)]
    exact h.p hp
  · rw [e 4 (by decide), f _ _ _ (by omega) h.aj]
    exact h.j hk
theorem TT.sW {S : ZS} {t : Nat} {v : Int32} {A : TA} (h : TT S t A) : TT (S.wi (t / 2) 0 v) t (A.N, v, A.lim, A.cl, A.be, A.of, A.rw, A.J, A.jk, A.jm, A.go, A.mi, A.dn) := by
  have f := h.fld 0 v
  have e : ∀ k, k ≠ 0 → (S.wi (t / 2) 0 v).i (t / 2) k = S.i (t / 2) k := fun k hk => up_slot hk
  refine ⟨h.o, up_self, by rw [e 1 (by decide)]; exact h.lim, by rw [e 5 (by decide)]; exact h.go, by rw [e 6 (by decide)]; exact h.mi, by rw [e 7 (by decide)]; exact h.dn, h.am, h.ar, h.aj, fun m hm => ?_, fun m m' hm hm' z => h.mm hm hm' z, fun p hp => ?_, fun k hk => ?_⟩
  · obtain ⟨a1, a2, a3, a4⟩ := h.m hm
    have f := f _ _ _ (by omega) a1
    exact ⟨⟨a1, (congrFun f 0).trans a2, (congrFun f 1).trans a3, (congrFun f 2).trans a4⟩, h.mr hm⟩
  · exact (congrFun (f _ _ _ (by omega) h.ar) p).trans (h.p hp)
  · obtain ⟨a1, a2, a3⟩ := h.j hk
    have f := f _ _ _ (by omega) a1
    exact ⟨a1, (congrFun f 0).trans a2, (congrFun f 1).trans a3⟩
theorem TT.sL {S : ZS} {t : Nat} {v : Int32} {A : TA} (h : TT S t A) : TT (S.wi (t / 2) 1 v) t (A.N, A.W, v, A.cl, A.be, A.of, A.rw, A.J, A.jk, A.jm, A.go, A.mi, A.dn) := by
  have f := h.fld 1 v
  have e : ∀ k, k ≠ 1 → (S.wi (t / 2) 1 v).i (t / 2) k = S.i (t / 2) k := fun k hk => up_slot hk
  refine ⟨h.o, by rw [e 0 (by decide)]; exact h.W, up_self, by rw [e 5 (by decide)]; exact h.go, by rw [e 6 (by decide)]; exact h.mi, by rw [e 7 (by decide)]; exact h.dn, h.am, h.ar, h.aj, fun m hm => ?_, fun m m' hm hm' z => h.mm hm hm' z, fun p hp => ?_, fun k hk => ?_⟩
  · obtain ⟨a1, a2, a3, a4⟩ := h.m hm
    have f := f _ _ _ (by omega) a1
    exact ⟨⟨a1, (congrFun f 0).trans a2, (congrFun f 1).trans a3, (congrFun f 2).trans a4⟩, h.mr hm⟩
  · exact (congrFun (f _ _ _ (by omega) h.ar) p).trans (h.p hp)
  · obtain ⟨a1, a2, a3⟩ := h.j hk
    have f := f _ _ _ (by omega) a1
    exact ⟨a1, (congrFun f 0).trans a2, (congrFun f 1).trans a3⟩
theorem flat_app {L : List (OR4 × List It)} {x : OR4 × List It} : (L ++ [x]).flatMap Prod.snd = L.flatMap Prod.snd ++ x.2 := by
  rw [List.flatMap_append]
  congr 1
  exact List.append_nil _
set_option maxHeartbeats 2000000 in
theorem drawn294 {Φ : Nat → ZS → Prop} {t r c N M u q9 Q : Nat} {A : TA} {g : G} {w0 : List Int32} (hN : 0 < N) (hN2 : N ≤ 10) (hM : M ≤ 4) (hQ : Q = 7 + (q9 + 180)) (b1 : big 400 (3 * q9)) (b2 : big 30000 (18 * q9)) (hE : ∀ S L, DR S t r c A (w0 ++ spl (L.flatMap Prod.snd)) N M L g u → L.length = M → (w0 ++ spl (L.flatMap Prod.snd)).length ≤ 1600 → Φ t S) : ∀ (d k f : Nat) (S : ZS) (L : List (OR4 × List It)), M = k + d → d < f → L.length = k → DR S t r c A (w0 ++ spl (L.flatMap Prod.snd)) N M L g (u + Q * d) → (w0 ++ spl (L.flatMap Prod.snd)).length + 320 * d ≤ 1600 → Rx Φ (kL_drawn_294 f r c t (nI N) (nI M) (nI k) S) S := by
  intro d
  induction d with
  | zero =>
    intro k f S L hd hf hL h hl
    obtain ⟨f, rfl⟩ : ∃ z, f = z + 1 := ⟨f - 1, by omega⟩
    obtain rfl : M = k := by omega
    unfold kL_drawn_294
    rw [if_pos (Int32.le_refl _)]
    exact ⟨t, S, rfl, hE S L h hL hl, Nat.le_refl _, Nat.le_refl _⟩
  | succ d ih =>
    intro k f S L hd hf hL h hl
    obtain ⟨f, rfl⟩ : ∃ z, f = z + 1 := ⟨f - 1, by omega⟩
    obtain ⟨v, hv⟩ : ∃ v, v = u + Q * d := ⟨_, rfl⟩
    have hvQ : u + Q * (d + 1) = v + Q := by rw [hv, Nat.mul_succ, Nat.add_assoc]
    rw [hvQ] at h
    clear hvQ
    obtain ⟨m1, m2⟩ := h.rm.get (n := 20) (a := 60) (b := 360) (by omega) (Nat.le_refl _) (Nat.le_refl _)
    obtain ⟨o1, o2⟩ := h.ol
    have ha := o1 (by omega)
    have hkM : k < M := by omega
    have hto := h.tt.o
    obtain ⟨S1, o, i, k1, k2, k3, k4, k5⟩ := ord_ok hN hN2 h.ob (by omega) (by omega)
    have s1 := k2.q h.ob.2.2
    have c1 := k2.2.2.2
    have hqD : (∀ q, QDc q → noT q) ∧ ¬ QDc 12 ∧ ¬ QDc 13 ∧ ∀ n, ¬ QDc (500000 + n) := ⟨fun q hq => by unfold QDc at hq; unfold noT; omega, by unfold QDc; omega, by unfold QDc; omega, fun n => by unfold QDc; omega⟩
    have h1 : DR S1 t r c A (w0 ++ spl (L.flatMap Prod.snd)) N M L g (v + (q9 + 180)) := h.ste s1 hqD (h.bb.ste s1 ⟨by unfold QDc; omega, fun n _ => by unfold QDc; omega⟩) (h.rm.sub (n := 7) c1.2.1 c1.2.2.2 (by decide) (by decide) (by omega))
    have er1 : S1.r (t / 2) = S.r (t / 2) := ((s1.2.2.1 _ hto.2.1).2 (by rw [hto.2.2]; unfold QDc; omega)).2
    have ha1 : AR S1 (S.r (t / 2) 8) 500000 M := ha.ste s1
    have ox1 := k3.ox
    have oc1 := ox1.1
    have hdn : (2 * S.n + 1) / 2 = S.n := (nw_o _).2
    have har := ha.2.1
    have hta : t / 2 ≠ S.r (t / 2) 8 / 2 := fun z => ha.neO hto (by omega) z.symm
    obtain ⟨S2, e2⟩ : ∃ z, z = S1.wr (S.r (t / 2) 8 / 2) k (2 * S.n + 1) := ⟨_, rfl⟩
    have n2 : S2.n = S1.n ∧ S2.c = S1.c ∧ S2.w = S1.w ∧ S2.g = S1.g ∧ S2.K = S1.K ∧ S2.i = S1.i := by rw [e2]; exact ⟨rfl, rfl, rfl, rfl, rfl, rfl⟩
    have s2 : Ste (fun q => q = 500000 + M) 0 0 S1 S2 := by rw [e2]; exact Ste.wr (fun _ => ha1.2.2.1)
    have er2 : S2.r (t / 2) 8 = S.r (t / 2) 8 := by
      rw [e2]
      exact (congrFun (wr_ne hta) 8).trans (congrFun er1 8)
    have rk : S2.r (S.r (t / 2) 8 / 2) k = 2 * S.n + 1 := by rw [e2]; exact ur_self
    have oxk : OX N S2 (2 * S.n + 1) o i := k3 S2 (by omega) (fun q a b => ⟨by rw [n2.2.2.2.2.1], by rw [n2.2.2.2.2.2], by rw [e2]; exact wr_ne (by omega)⟩)
    have ol2 : OLS S2 t N M (L ++ [(o, i)]) := by
      refine ⟨fun hM2 => by rw [er2]; exact ha1.ste s2, fun j x hj => ?_⟩
      rw [er2]
      by_cases e : j < L.length
      · rw [List.getElem?_append_left e] at hj
        have q := h1.ol.2 j x hj
        rw [er1] at q
        have e9 : S2.r (S.r (t / 2) 8 / 2) j = S1.r (S.r (t / 2) 8 / 2) j := by rw [e2]; exact ur_slot (by omega)
        rw [e9]
        exact q.ste s2 ⟨by omega, by omega⟩
      · rw [List.getElem?_append_right (by omega)] at hj
        obtain ⟨z, hz⟩ : ∃ z, j - L.length = z := ⟨_, rfl⟩
        rw [hz] at hj
        cases z with
        | zero =>
          have ej : j = k := by omega
          have ex : (o, i) = x := by simpa using hj
          subst ex
          rw [ej, rk]
          exact oxk
        | succ z => simp at hj
    have h2 : DR S2 t r c A (w0 ++ spl (L.flatMap Prod.snd)) N M (L ++ [(o, i)]) g (v + (q9 + 180)) := ⟨h1.tt.ste s2 (fun q hq => by unfold noT; omega), h1.ob.ste s2, h1.bb.ste s2 ⟨by omega, fun n _ => by omega⟩, ol2, fun _ => by omega, by rw [n2.2.2.2.1]; exact h1.g, h1.rm.sub (n := 0) (x := 0) (y := 0) (by omega) (by omega) (Nat.le_refl _) (Nat.le_refl _) (Nat.le_refl _)⟩
    have q12 := h2.rm.get (n := q9) (a := 400) (b := 30000) (by omega) b1 b2
    obtain ⟨et, S3, k6, k7, k8, k9⟩ := k_ordText hN2 oxk q12.1 q12.2
    clear q12
    have h3 : DR S3 t r c A (w0 ++ spl (L.flatMap Prod.snd)) N M (L ++ [(o, i)]) g (v + 180) := h2.ste k8 ⟨fun q hq => hq.elim, fun z => z, fun z => z, fun _ z => z⟩ (h2.bb.ste k8 ⟨fun z => z, fun _ _ z => z⟩) (h2.rm.sub (n := q9) k8.2.2.2.2.1 k8.2.2.2.2.2.2 b1 b2 (by omega))
    unfold kL_drawn_294
    rw [if_neg (by rw [nI_leI (by omega) (by omega)]; omega), gN_o hto ha.ne0, nO_n (by omega) (by omega), k1, b1_s]
    refine Rx.mono (rx_chk (Rx.mono (rx_chk ?_) k4 k5)) (Nat.sub_le _ _) (Nat.sub_le _ _)
    have a21 : AR S2 (S2.r (t / 2) 8) 500000 M := ol2.1 (by omega)
    rw [aR_n ha1 hkM oc1.okE, ← e2, gN_o h2.tt.o a21.ne0, er2]
    have a22 : AR S2 (S.r (t / 2) 8) 500000 M := by rw [← er2]; exact a21
    rw [aN_n a22 hkM (by rw [rk]; omega), rk, rcv_o oxk.1]
    refine rx_b2 k6 (Nat.le_trans k8.2.2.2.1 (Nat.le_of_eq n2.2.1)) (Nat.le_trans k8.2.2.2.2.2.1 (Nat.le_of_eq n2.2.2.1)) ?_
    have hsp : spl ((L ++ [(o, i)]).flatMap Prod.snd) = spl (L.flatMap Prod.snd) ++ spl i := by rw [flat_app, spl_app]
    refine dr_app h3 k7 (by omega) (fun S4 h4 => ?_)
    rw [bd_eq, nI_1]
    rw [List.append_assoc, ← hsp] at h4
    refine ih (k + 1) f S4 (L ++ [(o, i)]) (by omega) (by omega) (by rw [List.length_append, hL]; rfl) (by rw [← hv]; exact h4) ?_
    rw [hsp, ← List.append_assoc, List.length_append]
    omega
