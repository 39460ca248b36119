/-! dust by hand -/
def holdV (x : Int64) (lo hi : Int32) : Int32 := (if (if x < hi.toInt64 then x else hi.toInt64) < lo.toInt64 then lo.toInt64 else (if x < hi.toInt64 then x else hi.toInt64)).toInt32
theorem k8_hold_eq {x : Int64} {lo hi : Int32} {g : G} : k8_hold x lo hi g = some (holdV x lo hi) := rfl
theorem dust_all : ((List.range 101).all fun i => (List.range 101).all fun j => decide (holdV ((nI i).toInt64 - (nI j).toInt64) 0 100 = (if 0 < nI i - nI j then nI i - nI j else 0) ∧ 0 ≤ (if 0 < nI i - nI j then nI i - nI j else 0) ∧ (if 0 < nI i - nI j then nI i - nI j else 0) ≤ 100)) = true := by decide +kernel
theorem dust_eq {c d : Int32} (hc : 0 ≤ c ∧ c ≤ 100) (hd : ¬ d < 0 ∧ d ≤ 100) : holdV (c.toInt64 - d.toInt64) 0 100 = (if 0 < c - d then c - d else 0) ∧ 0 ≤ (if 0 < c - d then c - d else 0) ∧ (if 0 < c - d then c - d else 0) ≤ 100 := by
  obtain ⟨i, hi, rfl⟩ := nI_of2 (M := 100) (n := 100) rfl (Int32.not_lt.mpr hc.1) hc.2
  obtain ⟨j, hj, rfl⟩ := nI_of2 (M := 100) (n := 100) rfl hd.1 hd.2
  exact of_decide_eq_true (List.all_eq_true.mp (List.all_eq_true.mp dust_all i (List.mem_range.mpr (by omega))) j (List.mem_range.mpr (by omega)))
