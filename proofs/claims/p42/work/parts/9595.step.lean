/-! a step of the law: two acts, then the looks; eight steps -/
set_option maxRecDepth 20000 in
theorem lw98 {t r sL u : Nat} {sx : Nat → Int32} {P : List OR4} {K88 : Int32 → Nat → Nat → Int32 → ZS → Option (Int32 × ZS)} {v2 v6 : Int32} {DM : Nat} (hDM : DM < 100000)
    (hK : ∀ S1 A1 D1, LX S1 t r A1 A1 P u → A1.dn = nI D1 → D1 ≤ DM + 25 → Ret (K88 v2 r t (v6 + 1) S1) S1) : ∀ (d k f : Nat) (S : ZS) (A : TA) (D : Nat), 2 = k + d → d < f → LX S t r A A P (u + 1600 + 615 * d) → A.dn = nI D → D + 30 * d ≤ DM → Ret (kL_law_98 sL sx K88 f v2 r t v6 (nI k) S) S := by
  intro d
  induction d with
  | zero =>
    intro k f S A D hd hf h hD hD2
    obtain ⟨f, rfl⟩ : ∃ z, f = z + 1 := ⟨f - 1, by omega⟩
    obtain rfl : 2 = k := by omega
    unfold kL_law_98
    rw [if_pos (show (2 : Int32) ≤ nI 2 by decide)]
    refine lx_clI h (q_digest h.rc) (fun S1 h1 _ => ?_)
    have hN := h1.rc.w.N9
    obtain ⟨m1, m2⟩ := h1.rm
    rw [q_mirrors h1.rc, some_bind, nA_n (by omega) (by omega) (by omega)]
    have s1 : Ste NO 1 A.N S1 (S1.new (300000 + A.N) A.N z0) := Ste.new (by omega) (by omega)
    have h2 : LX (S1.new (300000 + A.N) A.N z0) t r A A P (u + 1599) := h1.ste s1 ⟨fun q hq => hq.elim, fun z => z, fun z => z, fun z => z, fun _ z => z⟩ ⟨by show 3 * (u + 1599) ≤ S1.c - 1; omega, by show 18 * (u + 1599) ≤ S1.w - A.N; omega⟩
    have ht : IsT (S1.new (300000 + A.N) A.N z0) (2 * S1.n + 1) A 0 := ⟨AR.mk (by omega), fun q _ hq => by rw [(nw_o _).2, nwI0]; rfl⟩
    have hle : (S1.new (300000 + A.N) A.N z0).c ≤ S1.c ∧ (S1.new (300000 + A.N) A.N z0).w ≤ S1.w := ⟨Nat.sub_le _ _, Nat.sub_le _ _⟩
    refine Ret.mono (ret_chk ?_) hle.1 hle.2
    have h3 : LX (S1.new (300000 + A.N) A.N z0) t r A A P (u + 1284 + 22 * A.N) := h2.le (by omega)
    have e1 : 10000 - lgt A 0 = (0 : Int32) := by
      rw [lgt_0]
      decide
    have h9 := lw154 (sL := sL) (sx := sx) (v2 := v2) (u := u) (c := 2 * S1.n + 1) hD (by omega) (fun M S2 hM h4 => by
      obtain ⟨D', k1, -, k3⟩ := minN_dn (P := P) M A D hD
      exact hK S2 (minN P M A) D' h4 k1 (by omega)) A.N 0 FU (S1.new (300000 + A.N) A.N z0) (by omega) (by unfold FU; omega) ht h3
    rw [e1, lgt_0, show ofS A 0 = 0 from rfl] at h9
    exact h9
  | succ d ih =>
    intro k f S A D hd hf h hD hD2
    obtain ⟨f, rfl⟩ : ∃ z, f = z + 1 := ⟨f - 1, by omega⟩
    obtain ⟨m1, m2⟩ := h.rm
    obtain ⟨x, S1, e1, s1, a1, A1, a2, a3, a4, a5⟩ := k_act h.lv (by omega) (by omega)
    obtain ⟨D1, d1, d2⟩ := a5 D hD
    have c1 := s1.2.2
    unfold kL_law_98
    rw [if_neg (by
      rw [show (2 : Int32) = nI 2 from rfl, nI_leI (by omega) (by omega)]
      omega)]
    refine ret_b2 e1 (by omega) (by omega) ?_
    rw [a1, if_neg (by decide), bd_eq, nI_1]
    exact ih (k + 1) f S1 A1 D1 (by omega) (by omega) (a2.lx ⟨by omega, by omega⟩) d1 (by omega)
set_option maxRecDepth 20000 in
theorem lw88 {t r sL u : Nat} {sx : Nat → Int32} {P : List OR4} {K10 : Int32 → ZS → Option (Int32 × ZS)} {v2 : Int32}
    (hE : ∀ f S1 A1, LX S1 t r A1 A1 P u → Ret (kL_law_88 sL sx K10 (f + 1) v2 r t (nI 8) S1) S1) : ∀ (d k f : Nat) (S : ZS) (A : TA) (D : Nat), 8 = k + d → d < f → LX S t r A A P (u + 2830 * d) → A.dn = nI D → D + 85 * d ≤ 10000 → Ret (kL_law_88 sL sx K10 f v2 r t (nI k) S) S := by
  intro d
  induction d with
  | zero =>
    intro k f S A D hd hf h hD hD2
    obtain ⟨f, rfl⟩ : ∃ z, f = z + 1 := ⟨f - 1, by omega⟩
    obtain rfl : 8 = k := by omega
    exact hE f S A h
  | succ d ih =>
    intro k f S A D hd hf h hD hD2
    obtain ⟨f, rfl⟩ : ∃ z, f = z + 1 := ⟨f - 1, by omega⟩
    unfold kL_law_88
    rw [if_neg (by
      rw [show (8 : Int32) = nI 8 from rfl, nI_leI (by omega) (by omega)]
      omega)]
    exact lw98 (u := u + 2830 * d) (DM := D + 60) (by omega) (fun S1 A1 D1 h1 k1 k2 => by
      rw [nI_1]
      exact ih (k + 1) f S1 A1 D1 (by omega) (by omega) h1 k1 (by omega)) 2 0 FU S A D (by omega) (by unfold FU; omega) (h.le (by omega)) hD (by omega)
