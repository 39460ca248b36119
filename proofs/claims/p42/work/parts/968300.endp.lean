/-! two mirrors: the law's end holds -/
theorem two_wa {c o : Nat} (hc : c ≤ 100) (ho : o ≤ 100) : WA (twoA c o) := twoA_tr.wa (fun x hx => by
  rcases List.mem_cons.mp hx with z | z
  · rw [z]
    exact ⟨hc, Nat.zero_le 90⟩
  · rw [List.mem_singleton.mp z]
    exact ⟨ho, (by decide : 1 ≤ 90)⟩) (by show 2 ≤ 10; omega)
theorem two_l0 {c o : Nat} (hc : c ≤ 100) (ho : o ≤ 100) : lgt (twoA c o) 2 = nI (c * o) := two_lt (cl := (twoA c o).cl) (of := (twoA c o).of) hc ho rfl rfl rfl
theorem two_fin {c o m : Nat} : lcA (twoA c o) m = shL (clnV (twoA c o) m) (twoA c o).of (fun p => p) 60 (-1) 2 := by
  have e2 : finA (twoA c o) 0 m = ((twoA c o).sCl (clnV (twoA c o) m)).sBe (updI (twoA c o).be m (if 0 < (twoA c o).be m - 1 then (twoA c o).be m - 1 else 0)) := by
    unfold finA
    rw [if_pos rfl]
    rfl
  unfold lcA
  rw [e2]
  have ec : cov (((twoA c o).sCl (clnV (twoA c o) m)).sBe (updI (twoA c o).be m (if 0 < (twoA c o).be m - 1 then (twoA c o).be m - 1 else 0))) = -1 := by
    unfold cov
    exact if_pos (show (0 : Int32) ≤ 0 by decide)
  unfold lgt
  rw [ec]
  rfl
theorem btc_pos {A : TA} : ∀ d p f mo, p + d ≤ 10 → 0 ≤ f → 0 ≤ btcA A d p f mo := by
  intro d
  induction d with
  | zero => intro p f mo _ h; exact h
  | succ d ih =>
    intro p f mo h1 h2
    unfold btcA
    split
    · exact ih (p + 1) f mo (by omega) h2
    · refine ih (p + 1) (nI p) (lcA A p) (by omega) ?_
      rw [show (0 : Int32) = nI 0 from rfl, nI_leI (by omega) (by omega)]
      omega
theorem btc_no {A : TA} : ∀ d p f mo, p + d ≤ 10 → btcA A d p f mo = -1 → ∀ q, p ≤ q → q < p + d → lcA A q ≤ mo := by
  intro d
  induction d with
  | zero => intro p f mo _ _ q h1 h2; omega
  | succ d ih =>
    intro p f mo h1 h2 q hq hq2
    unfold btcA at h2
    by_cases e : lcA A p ≤ mo
    · rw [if_pos e] at h2
      rcases Nat.eq_or_lt_of_le hq with z | z
      · rw [← z]; exact e
      · exact ih (p + 1) f mo (by omega) h2 q (by omega) (by omega)
    · rw [if_neg e] at h2
      have h3 := btc_pos (A := A) d (p + 1) (nI p) (lcA A p) (by omega) (by
        rw [show (0 : Int32) = nI 0 from rfl, nI_leI (by omega) (by omega)]
        omega)
      rw [h2] at h3
      exact absurd h3 (by decide)
theorem btc_none {A : TA} {m : Nat} (hN : A.N ≤ 10) (h : btcA A A.N 0 (-1) (lgt A A.N) = -1) (hm : m < A.N) : lcA A m ≤ lgt A A.N := btc_no A.N 0 (-1) (lgt A A.N) (by omega) h m (by omega) (by omega)
theorem endP_all {c o : Nat} (hc : c ≤ 100) (h1 : 1 ≤ o) (ho : o ≤ 99) : endP c o := by
  have hA := two_wa (c := c) (o := o) hc (by omega)
  obtain ⟨B, hB⟩ : ∃ B, B = btcA (twoA c o) 2 0 (-1) (lgt (twoA c o) 2) := ⟨_, rfl⟩
  have hok : B = -1 ∨ ∃ m, m < 2 ∧ B = nI m ∧ lgt (twoA c o) 2 < lcA (twoA c o) m := by
    rw [hB]
    exact btc_ok (A := twoA c o)
  unfold endP
  rw [← hB]
  rcases hok with e | ⟨m, hm, e, hl⟩
  · refine Or.inl ⟨by rw [e]; decide, ?_⟩
    by_cases hc9 : c = 100
    · right
      rw [hc9]
      decide
    · exfalso
      have k0 : lgt (twoA c o) 2 < lcA (twoA c o) 0 := by
        rw [two_fin, two_l0 hc (by omega), two_lt (x := 100) (y := o) (by omega) (by omega) (by
          unfold clnV
          rw [updI_eq]
          show (if nI c < 100 then (100 : Int32) else nI c) = nI 100
          exact if_pos (by
            rw [show (100 : Int32) = nI 100 from rfl, nI_ltI (by omega) (by omega)]
            omega)) (by
          unfold clnV
          rw [updI_ne (by omega)]
          rfl) rfl]
        have b1 : c * o < 100 * o := by
          have b3 : (c + 1) * o ≤ 100 * o := Nat.mul_le_mul_right o (by omega)
          rw [Nat.succ_mul] at b3
          omega
        have b2 : 100 * o ≤ 9900 := by omega
        rw [nI_ltI (by omega) (by omega)]
        exact b1
      have k1 := btc_none (A := twoA c o) (m := 0) (by show 2 ≤ 10; omega) (hB.symm.trans e) (by show 0 < 2; omega)
      exact absurd k0 (Int32.not_lt.mpr k1)
  · refine Or.inr ?_
    have hcm : (twoA c o).cl m < 100 := btc_clean (A := twoA c o) hl
    obtain ⟨x, hx, ex⟩ : ∃ x, x ≤ 100 ∧ (twoA c o).cl m = nI x := by
      rcases (show m = 0 ∨ m = 1 by omega) with z | z
      · exact ⟨c, hc, by rw [z]; rfl⟩
      · exact ⟨o, by omega, by rw [z]; rfl⟩
    obtain ⟨A1, hA1⟩ : ∃ z, z = ordA (twoA c o) (nI 0) m := ⟨_, rfl⟩
    have q1 : A1.J = 1 ∧ A1.jk 0 = 0 ∧ A1.jm 0 = m ∧ A1.dn = 0 ∧ A1.cl = (twoA c o).cl ∧ A1.be = (twoA c o).be ∧ A1.of = (twoA c o).of ∧ A1.rw = (twoA c o).rw ∧ A1.W = 60 ∧ A1.go = 0 := by
      rw [hA1]
      exact ⟨rfl, rfl, rfl, rfl, rfl, rfl, rfl, rfl, rfl, rfl⟩
    obtain ⟨q1, q2, q3, q4, q5, q6, q7, q8, q9, q10⟩ := q1
    have hgo : goA A1 = nI ((100 - x) / 10 + 1) := by
      unfold goA
      rw [if_pos q10, q2, q3]
      unfold minsA
      rw [if_pos rfl, q5, ex]
      have e1 : (100 : Int32) - nI x = nI (100 - x) := nI_sub' hx
      have e2 : nI (100 - x) / 10 = nI ((100 - x) / 10) := nI_quo (k := 10) (by omega) (by omega)
      rw [e1, e2, nI_1]
    obtain ⟨⟨r1, r2, r3⟩, r4⟩ := run_d ((100 - x) / 10) A1 q1 q2 q3 hgo (by omega)
    have ec : clnV A1 m = clnV (twoA c o) m := by
      unfold clnV
      rw [q5, q6]
    have r5 := r4 1 (A1.dn + nI 0 + 1) 300 (by rw [q4]; decide) (by rw [q4]; decide) (by omega)
    refine ⟨m, (100 - x) / 10 + 1, ?_, hm, e, by omega, by omega, ?_, ?_, ?_, ?_⟩
    · rw [e, show (0 : Int32) = nI 0 from rfl, nI_ltI (by omega) (by omega)]
      omega
    · rw [← hA1, r5, Nat.add_comm]
    · rw [← hA1, r1, q4]
      decide
    · rw [← hA1, r3, ec, q7, q8, q9]
      rw [two_fin] at hl
      exact Int32.not_le.mpr hl
    · rw [← hA1, r2, ec]
      unfold clnV
      rw [updI_eq]
      exact if_pos hcm
