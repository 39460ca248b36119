/-! the light behind two mirrors -/
/-- the light behind two mirrors -/
theorem two_lt {x y : Nat} {of : Nat → Int32} {cl : Nat → Int32} (hx : x ≤ 100) (hy : y ≤ 100) (h0 : cl 0 = nI x) (h1 : cl 1 = nI y) (h2 : of 0 = 0) : shL cl of (fun p => p) 60 (-1) 2 = nI (x * y) := by
  have w0 : ¬ wi 60 (shA of (fun p => p) 0) = 0 := by
    show ¬ wi 60 0 = 0
    decide
  have w1 : ¬ wi 60 (shA of (fun p => p) 1) = 0 := by
    show ¬ wi 60 (0 + 2 * of 0) = 0
    rw [h2]
    decide
  have n0 : ¬ nI 0 = -1 := by decide
  have n1 : ¬ nI 1 = -1 := by decide
  have b : x * y ≤ 100 * 100 := Nat.mul_le_mul hx hy
  show (if nI 1 = -1 then 0 else if wi 60 (shA of (fun p => p) 1) = 0 then 0 else (if nI 0 = -1 then 0 else if wi 60 (shA of (fun p => p) 0) = 0 then 0 else 10000 * cl 0 / 100) * cl 1 / 100) = _
  rw [if_neg n1, if_neg w1, if_neg n0, if_neg w0, h0, h1]
  have e1 : (10000 : Int32) * nI x / 100 = nI (100 * x) := by
    have e : (10000 : Int32) * nI x = nI (10000 * x) := nI_times
    rw [e]
    have e2 : nI (10000 * x) / 100 = nI (10000 * x / 100) := nI_quo (k := 100) (by omega) (by omega)
    rw [e2, show 10000 * x / 100 = 100 * x by omega]
  rw [e1, nI_times]
  have e3 : nI (100 * x * y) / 100 = nI (100 * x * y / 100) := nI_quo (k := 100) (by rw [Nat.mul_assoc]; omega) (by omega)
  rw [e3, Nat.mul_assoc, Nat.mul_div_cancel_left _ (by omega)]
