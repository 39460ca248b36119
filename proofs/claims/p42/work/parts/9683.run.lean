/-! a clean job that stands alone in the queue: its minutes -/
/-- what the law asks of two mirrors, as numbers -/
def endP (c o : Nat) : Prop := (btcA (twoA c o) 2 0 (-1) (lgt (twoA c o) 2) < 0 ∧ (lgt (twoA c o) 2 ≤ 0 ∨ 100 ≤ nI c)) ∨ ∃ m k, ¬ btcA (twoA c o) 2 0 (-1) (lgt (twoA c o) 2) < 0 ∧ m < 2 ∧ btcA (twoA c o) 2 0 (-1) (lgt (twoA c o) 2) = nI m ∧ 1 ≤ k ∧ k ≤ 100 ∧ mudA [] ((ordA (twoA c o) (nI 0) m).dn + nI 0 + 1) 300 1 (ordA (twoA c o) (nI 0) m) = nI k ∧ (minN [] k (ordA (twoA c o) (nI 0) m)).dn - (ordA (twoA c o) (nI 0) m).dn = 1 ∧ ¬ lgt (minN [] k (ordA (twoA c o) (nI 0) m)) 2 ≤ lgt (twoA c o) 2 ∧ (minN [] k (ordA (twoA c o) (nI 0) m)).cl m = 100
theorem nI_pre {d : Nat} : nI (d + 1) - 1 = nI d := by
  have e : nI (d + 1) = nI d + 1 := (nI_1 d).symm
  rw [e, Int32.add_sub_cancel]
theorem nI_quo {q k : Nat} (hq : q < 2 ^ 31) (hk2 : k < 2 ^ 31) : nI q / nI k = nI (q / k) := by
  have hd : q / k < 2 ^ 31 := Nat.lt_of_le_of_lt (Nat.div_le_self q k) hq
  apply Int32.toInt_inj.mp
  have e0 : Int.tdiv (q : Int) (k : Int) = ((q / k : Nat) : Int) := (Int.ofNat_tdiv q k).symm
  rw [Int32.toInt_div, nI_toInt hq, nI_toInt hk2, nI_toInt hd, e0]
  generalize q / k = d at hd
  exact Int.bmod_eq_of_le (by omega) (by omega)
/-- the clarity behind a clean job -/
def clnV (A : TA) (m : Nat) : Nat → Int32 := updI A.cl m (if A.cl m < A.be m then A.be m else A.cl m)
theorem run_d {m : Nat} : ∀ (d : Nat) (A : TA), A.J = 1 → A.jk 0 = 0 → A.jm 0 = m → goA A = nI (d + 1) → d < 30 → ((minN [] (d + 1) A).dn = A.dn + 1 ∧ (minN [] (d + 1) A).cl = clnV A m ∧ lgt (minN [] (d + 1) A) 2 = shL (clnV A m) A.of A.rw A.W (-1) 2) ∧ ∀ i v f, A.dn < v → ¬ A.dn + 1 < v → d < f → mudA [] v f i A = nI (i + d) := by
  intro d
  induction d with
  | zero =>
    intro A hJ hk hm hg _
    have ew : workA A = finA ((takeA A 0).sDn (A.dn + 1)) 0 m := by
      unfold workA
      rw [if_neg (by omega), if_pos (by rw [hg]; rfl), hk, hm]
    have e1 : minA [] A = (finA ((takeA A 0).sDn (A.dn + 1)) 0 m).sMi (A.mi + 1) := by
      unfold minA
      show (workA A).sMi (A.mi + 1) = _
      rw [ew]
    have e2 : finA ((takeA A 0).sDn (A.dn + 1)) 0 m = (((takeA A 0).sDn (A.dn + 1)).sCl (clnV A m)).sBe (updI A.be m (if 0 < A.be m - 1 then A.be m - 1 else 0)) := by
      unfold finA
      rw [if_pos rfl]
      rfl
    have e3 : minN [] 1 A = ((((takeA A 0).sDn (A.dn + 1)).sCl (clnV A m)).sBe (updI A.be m (if 0 < A.be m - 1 then A.be m - 1 else 0))).sMi (A.mi + 1) := by
      show minA [] A = _
      rw [e1, e2]
    refine ⟨?_, fun i v f h1 h2 h3 => ?_⟩
    · rw [e3]
      refine ⟨rfl, rfl, ?_⟩
      have ec : cov (((((takeA A 0).sDn (A.dn + 1)).sCl (clnV A m)).sBe (updI A.be m (if 0 < A.be m - 1 then A.be m - 1 else 0))).sMi (A.mi + 1)) = -1 := by
        unfold cov
        exact if_pos (show (0 : Int32) ≤ 0 by decide)
      unfold lgt
      rw [ec]
      rfl
    · obtain ⟨f, rfl⟩ : ∃ z, f = z + 1 := ⟨f - 1, by omega⟩
      have e4 : (minA [] A).dn = A.dn + 1 := by
        rw [e1, e2]
        rfl
      unfold mudA
      rw [e4, if_neg h2]
      rfl
  | succ d ih =>
    intro A hJ hk hm hg hd
    have hne : ¬ nI (d + 1) = 0 := nI_ne0 (by omega) (by omega)
    have e1 : minA [] A = (A.sGo (nI (d + 1))).sMi (A.mi + 1) := by
      unfold minA
      show (workA A).sMi (A.mi + 1) = _
      unfold workA
      rw [if_neg (by omega), hg, nI_pre, if_neg hne]
    obtain ⟨A', hA'⟩ : ∃ z, z = (A.sGo (nI (d + 1))).sMi (A.mi + 1) := ⟨_, rfl⟩
    have g1 : goA A' = nI (d + 1) := by
      rw [hA']
      exact if_neg hne
    have f1 : A'.J = A.J ∧ A'.jk = A.jk ∧ A'.jm = A.jm ∧ A'.dn = A.dn ∧ A'.cl = A.cl ∧ A'.be = A.be ∧ A'.of = A.of ∧ A'.rw = A.rw ∧ A'.W = A.W := by
      rw [hA']
      exact ⟨rfl, rfl, rfl, rfl, rfl, rfl, rfl, rfl, rfl⟩
    obtain ⟨f1, f2, f3, f4, f5, f6, f7, f8, f9⟩ := f1
    obtain ⟨⟨i1, i2, i3⟩, i4⟩ := ih A' (f1.trans hJ) (by rw [f2]; exact hk) (by rw [f3]; exact hm) g1 (by omega)
    have ec : clnV A' m = clnV A m := by
      unfold clnV
      rw [f5, f6]
    have en : minN [] (d + 1 + 1) A = minN [] (d + 1) A' := by
      show minN [] (d + 1) (minA [] A) = _
      rw [e1, hA']
    rw [en]
    refine ⟨⟨by rw [i1, f4], by rw [i2, ec], by rw [i3, ec, f7, f8, f9]⟩, fun i v f h1 h2 h3 => ?_⟩
    obtain ⟨f, rfl⟩ : ∃ z, f = z + 1 := ⟨f - 1, by omega⟩
    have h4 := i4 (i + 1) v f (by rw [f4]; exact h1) (by rw [f4]; exact h2) (by omega)
    unfold mudA
    rw [e1, ← hA', f4, if_pos h1, h4]
    rw [show i + 1 + d = i + (d + 1) by omega]
