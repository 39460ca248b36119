/-! the run's end: a train of two mirrors -/
def twoA (c o : Nat) : TA := (2, 60, 1000, fun m => if m = 0 then nI c else nI o, fun _ => 100, fun m => if m = 0 then 0 else 1, fun p => p, 0, fun _ => 0, fun _ => 0, 0, 0, 0)
theorem twoA_tr {c o : Nat} : TrM (twoA c o) [(c, false, 0), (o, false, 1)] 60 1000 := by
  refine ⟨rfl, rfl, rfl, fun m x h => ?_, fun p _ => rfl, rfl, rfl, rfl, rfl⟩
  cases m with
  | zero =>
    have : (c, false, 0) = x := by simpa using h
    rw [← this]
    exact ⟨rfl, rfl, rfl⟩
  | succ m =>
    cases m with
    | zero =>
      have : (o, false, 1) = x := by simpa using h
      rw [← this]
      exact ⟨rfl, rfl, rfl⟩
    | succ m => simp at h
/-- what the law asks of it -/
def endOK (c o : Nat) : Bool :=
  let A := twoA c o
  let l0 := lgt A 2
  let b := btcA A 2 0 (-1) l0
  if b < 0 then decide (l0 ≤ 0 ∨ 100 ≤ nI c) else
  let m := b.toNatClampNeg
  let A1 := ordA A (nI 0) m
  let n := mudA [] (A1.dn + nI 0 + 1) 300 1 A1
  let k := n.toNatClampNeg
  let A2 := minN [] k A1
  decide (m < 2) && decide (nI m = b) && decide (1 ≤ k) && decide (k ≤ 100) && decide (nI k = n) && decide (A2.dn - A1.dn = 1) && decide (¬ lgt A2 2 ≤ l0) && decide (A2.cl m = 100)
