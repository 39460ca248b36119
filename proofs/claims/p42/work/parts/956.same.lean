/-! is the law's train the class's: along the row -/
theorem E_of {z z' : Option (Int32 × ZS)} {Pr : Int32 → ZS → Prop} (e : z = z') (k : ∃ x S', z' = some (x, S') ∧ Pr x S') : ∃ x S', z = some (x, S') ∧ Pr x S' := by
  rw [e]
  exact k
theorem same10 {A : TA} {P : List OR4} {S : ZS} {t : Nat} (h : TT S t A) (hW : WW A) (hO : OA A.N S t P) (h0 : 0 < A.N) : ∀ (d p f : Nat) (wo mo : Int32) (g : G) (c w : Nat), A.N = p + d → d < f → RC A P g → ((p = 0 ∧ mo = -1) ∨ ∃ z, z < A.N ∧ wo = nI (A.rw z) ∧ mo = lsA A z ∧ 0 < p ∧ wstA A d p z = wstA A (A.N - 1) 1 0) → 27 * d + 75 ≤ c → 162 * d + 450 ≤ w → ∃ x S', kX12_isSame_10 f t (csR A.cl A.rw p) wo mo (nI p) (ZU S g c w) = some (x, S') ∧ Lk A P S c w (27 * d + 75) (162 * d + 450) 1 x S' := by
  intro d
  induction d with
  | zero =>
    intro p f wo mo g c w hd hf hR hz hc hw
    obtain ⟨f, rfl⟩ : ∃ y, f = y + 1 := ⟨f - 1, by omega⟩
    obtain rfl : A.N = p := by omega
    have hN := hR.w.N9
    have hJ := hR.w.J12
    have hT : TT (ZU S g c w) t A := h
    unfold kX12_isSame_10
    rw [gN_o hT.o hT.ar.ne0, aL_n hT.ar, if_pos (by rw [nI_leI (by omega) (by omega)]; omega)]
    rcases hz with ⟨e, -⟩ | ⟨z, hz, e1, e2, e3, e4⟩
    · omega
    · have e4 : z = wstA A (A.N - 1) 1 0 := e4
      rw [e1]
      obtain ⟨x, S', k1, k2⟩ := same215 (z := A.rw z) h hW hO h0 (by rw [← e4]) (hR.w.lt hz) A.J 0 FU g c w (by omega) (by unfold FU; omega) hR (by omega) (by omega)
      exact ⟨x, S', k1, k2.more (by omega) (by omega)⟩
  | succ d ih =>
    intro p f wo mo g c w hd hf hR hz hc hw
    obtain ⟨f, rfl⟩ : ∃ y, f = y + 1 := ⟨f - 1, by omega⟩
    have hA := hR.w
    have hN := hA.N9
    have hp : p < A.N := by omega
    have hm := hA.lt hp
    have hT : ∀ g c w, TT (ZU S g c w) t A := fun _ _ _ => h
    obtain ⟨b1, b2, b3, b4⟩ := h.m hm
    have ab : ∀ g c w, AR (ZU S g c w) ((ZU S g c w).r ((ZU S g c w).r (t / 2) 2 / 2) (A.rw p)) 100000 3 := fun _ _ _ => b1
    have a0 : ∀ (g : G) (c w : Nat) (f : Int32 → Option (Int32 × ZS)), aG (ZU S g c w) (S.r (S.r (t / 2) 2 / 2) (A.rw p)) 100000 0 f = f (A.cl (A.rw p)) := fun g c w f => (aG_n (j := 0) (ab g c w) (by omega)).trans (congrArg f b2)
    have a1 : ∀ (g : G) (c w : Nat) (f : Int32 → Option (Int32 × ZS)), aG (ZU S g c w) (S.r (S.r (t / 2) 2 / 2) (A.rw p)) 100000 1 f = f (A.be (A.rw p)) := fun g c w f => (aG_n (j := 1) (ab g c w) (by omega)).trans (congrArg f b3)
    have a2 : ∀ (g : G) (c w : Nat) (f : Int32 → Option (Int32 × ZS)), aG (ZU S g c w) (S.r (S.r (t / 2) 2 / 2) (A.rw p)) 100000 2 f = f (A.of (A.rw p)) := fun g c w f => (aG_n (j := 2) (ab g c w) (by omega)).trans (congrArg f b4)
    have pl : plc A (A.rw p) = p := plc_rw hA hp
    have e1 := q_mirrorAt hR hp
    have e2 := q_placeOf hR hm
    rw [pl] at e2
    obtain ⟨g3, e3, h3⟩ := q_clarityOf hR hm
    obtain ⟨g4, e4, h4⟩ := q_bestClarityOf h3 hm
    obtain ⟨g5, e5, h5⟩ := q_offsetOf h4 hm
    obtain ⟨g6, e6, h6⟩ := q_lightBehind h5 hm
    obtain ⟨g7, e7, h7⟩ := q_lostAt h6 hm
    obtain ⟨g8, e8, h8⟩ := q_tiltBehind h7 hm
    have e9 := q_isCovered h8 hm
    rw [pl] at e6 e7 e8
    have key : ∃ x S', kX12_isSame_10 (f + 1) t (csR A.cl A.rw p) wo mo (nI p) (ZU S g c w) = some (x, S') ∧ Lk A P S c w (27 * d + 75 + 3 + 3 + 3 + 3 + 3 + 3 + 3 + 3 + 3) (162 * d + 450 + 18 + 18 + 18 + 18 + 18 + 18 + 18 + 18 + 18) 1 x S' := by
      unfold kX12_isSame_10
      rw [gN_o (hT g c w).o (hT g c w).ar.ne0, aL_n (hT g c w).ar, if_neg (by rw [nI_leI (by omega) (by omega)]; omega), gN_o (hT g c w).o (hT g c w).ar.ne0, aG_n (hT g c w).ar hp, (hT g c w).p hp, gN_o (hT g c w).o (hT g c w).am.ne0, aN_n (hT g c w).am hm (ab g c w).ne0, rcv_o (hT g c w).o]
      refine b2_L (k_light (hT g c w) hA hW (show p ≤ A.N by omega)) ?_
      rw [rcv_o (hT g c w).o, nI_1]
      refine b2_L (k_light (hT g c w) hA hW (show p + 1 ≤ A.N by omega)) ?_
      refine clR_L (g' := g) (by omega) (by omega) e1 ?_
      rw [if_pos rfl]
      refine clR_L (g' := g) (by omega) (by omega) e2 ?_
      rw [if_pos rfl]
      refine clR_L (g' := g3) (by omega) (by omega) e3 ?_
      refine E_of (a0 _ _ _ _) ?_
      rw [if_pos rfl]
      refine clR_L (g' := g4) (by omega) (by omega) e4 ?_
      refine E_of (a1 _ _ _ _) ?_
      rw [if_pos rfl]
      refine clR_L (g' := g5) (by omega) (by omega) e5 ?_
      refine E_of (a2 _ _ _ _) ?_
      rw [if_pos rfl]
      refine clR_L (g' := g6) (by omega) (by omega) e6 ?_
      rw [if_pos rfl]
      refine clR_L (g' := g7) (by omega) (by omega) e7 ?_
      rw [if_pos rfl]
      refine clR_L (g' := g8) (by omega) (by omega) e8 ?_
      rw [rcv_o (hT g8 (c - 3 - 3 - 3 - 3 - 3 - 3 - 3 - 3) (w - 18 - 18 - 18 - 18 - 18 - 18 - 18 - 18)).o]
      refine b2_L (k_tilt (hT g8 _ _) hA (show p + 1 ≤ A.N by omega)) ?_
      rw [if_pos rfl]
      refine clR_L (g' := g8) (by omega) (by omega) e9 ?_
      rw [rcv_o (hT g8 (c - 3 - 3 - 3 - 3 - 3 - 3 - 3 - 3 - 3) (w - 18 - 18 - 18 - 18 - 18 - 18 - 18 - 18 - 18)).o]
      refine b2_L (k_isCovered (hT g8 _ _) hA hm) ?_
      rw [if_pos rfl]
      refine E_of (a0 _ _ _ _) ?_
      rw [bd_eq]
      have hs : csR A.cl A.rw p + A.cl (A.rw p) = csR A.cl A.rw (p + 1) := rfl
      rw [hs]
      have hl : lgt A p - lgt A (p + 1) = lsA A p := rfl
      rw [hl]
      obtain ⟨-, l1, l2⟩ := lsA_rng hA hp
      by_cases hlt : mo < lsA A p
      · rw [if_pos hlt, bd_eq, bd_eq]
        refine ih (p + 1) f _ _ g8 _ _ (by omega) (by omega) h8 (Or.inr ⟨p, hp, rfl, rfl, by omega, ?_⟩) (by omega) (by omega)
        rcases hz with ⟨e, -⟩ | ⟨z, hz, z1, z2, z3, z4⟩
        · subst e
          rw [show d = A.N - 1 by omega]
        · rw [← z4]
          conv => rhs; unfold wstA
          rw [if_neg (Int32.not_le.mpr (by rw [← z2]; exact hlt))]
      · rw [if_neg hlt, bd_eq]
        rcases hz with ⟨e, em⟩ | ⟨z, hz, z1, z2, z3, z4⟩
        · exfalso
          apply hlt
          rw [em, Int32.lt_iff_toInt_lt, show (-1 : Int32).toInt = -1 from rfl]
          omega
        · refine ih (p + 1) f _ _ g8 _ _ (by omega) (by omega) h8 (Or.inr ⟨z, hz, z1, z2, by omega, ?_⟩) (by omega) (by omega)
          rw [← z4]
          conv => rhs; unfold wstA
          rw [if_pos (Int32.not_lt.mp (by rw [← z2]; exact hlt))]
    obtain ⟨x, S', k1, k2⟩ := key
    exact ⟨x, S', k1, k2.more (by omega) (by omega)⟩
theorem k_isSame {A : TA} {P : List OR4} {S : ZS} {t : Nat} (h : TT S t A) (hW : WW A) (hO : OA A.N S t P) (h0 : 0 < A.N) (hR : RC A P S.g) (hc : 350 ≤ S.c) (hw : 2100 ≤ S.w) : ∃ S', kX12_isSame t S = some (1, S') ∧ ∃ x, Lk A P S S.c S.w 345 2070 1 x S' := by
  have hN := hR.w.N9
  obtain ⟨x, S', k1, k2⟩ := same10 h hW hO h0 A.N 0 FU (-1) (-1) S.g S.c S.w (by omega) (by unfold FU; omega) hR (Or.inl ⟨rfl, rfl⟩) (by omega) (by omega)
  have k3 := k2.more (a' := 345) (b' := 2070) (by omega) (by omega)
  obtain ⟨e, g', c', w', q1, q2, q3, q4, q5, q6⟩ := id k3
  refine ⟨S', ?_, x, k3⟩
  unfold kX12_isSame
  rw [e] at k1
  refine chk_of k1 ?_ ?_
  · rw [q1]; exact q3
  · rw [q1]; exact q5
