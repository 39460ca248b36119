def sT (i : Nat) : Term := .string (sG i).1 (sG i).2.1
def sF (i : Nat) : Term := .field (sT i) "java/lang/String" "value" "[B"
def sW (i : Nat) : List Cond := [.exactly (sT i) "java/lang/String", .eq (.field (sT i) "java/lang/String" "coder" "B") (.int 0), .arrayOf (sF i) .byte, .eq (.length (sF i)) (.int (Int32.ofNat (sL i)))] ++ (List.range (sL i)).map (fun j => Cond.eq (.elem (sF i) (.int (Int32.ofNat j))) (.int ((sB i).getD j 0)))
def flN : List Cond := flatC (Jvm.Cond.and given_1 narrow_1)
def sPm : List Nat := [82, 92, 103, 113, 122, 131, 140, 146, 154, 163, 172, 183, 191, 201, 210, 218, 226, 234, 242, 248, 256, 265, 272, 279, 285, 292, 299, 303, 664, 675, 687, 698, 708, 718, 728, 735, 744, 754, 764, 776, 785, 796, 806, 815, 824, 833, 842, 849, 858, 868, 876, 884, 891, 899, 320, 350, 390, 414, 441, 478, 511, 543, 580, 615, 640]
theorem sW_flat : ((List.range 65).all fun i => decide ((flN.drop (sPm.getD i 0)).take (4 + sL i) = sW i)) = true := by decide +kernel
def sRp : List Nat := [424, 425, 426, 427, 428, 429, 430, 431, 432, 433, 434, 435, 436, 437, 438, 439, 440, 441, 442, 443, 444, 445, 446, 447, 448, 449, 450, 524, 1906, 1907, 1908, 1909, 1910, 1911, 1912, 1913, 1914, 1915, 1916, 1917, 1918, 1919, 1920, 1921, 1922, 1923, 1924, 1925, 1926, 1927, 1928, 1929, 1930, 1931, 1028, 1075, 1089, 1115, 1178, 1191, 1206, 1208, 1225, 1234, 1258]
theorem sR_all : ((List.range 65).all fun i => decide (lw_tbl[sRp.getD i 0]? = some (Cond.stringRef (sG i).1 (sG i).2.1 (sG i).2.2.1))) = true := by decide +kernel
theorem wEl_all : ((List.range 26).all fun j => decide (flN[14 + j]? = some (Cond.eq (.elem (.static "PeriscopeTrainModel" "WORDS" "[Ljava/lang/String;") (.int (Int32.ofNat j))) (sT (28 + j))))) = true := by decide +kernel
theorem arr_int {args : Array Value} {s : State} (h : (Cond.arrayClass .int).before args s = true) : ∃ cA, ArrOfT s cA .int ∧ va_RA s cA .int := by
  obtain ⟨c, k, comp, h1, h2, h3⟩ := Cond.arrayClass_spec h
  exact ⟨c, fun n z => ⟨fun k h => (by cases h), k, h2, comp, h3⟩, h1⟩
theorem arr_byte {args : Array Value} {s : State} (h : (Cond.arrayClass .byte).before args s = true) : ∃ cA, ArrOfT s cA .byte ∧ va_RA s cA .byte := by
  obtain ⟨c, k, comp, h1, h2, h3⟩ := Cond.arrayClass_spec h
  exact ⟨c, fun n z => ⟨fun k h => (by cases h), k, h2, comp, h3⟩, h1⟩
theorem arr_long {args : Array Value} {s : State} (h : (Cond.arrayClass .long).before args s = true) : ∃ cA, ArrOfT s cA .long ∧ va_RA s cA .long := by
  obtain ⟨c, k, comp, h1, h2, h3⟩ := Cond.arrayClass_spec h
  exact ⟨c, fun n z => ⟨fun k h => (by cases h), k, h2, comp, h3⟩, h1⟩
theorem known_all {args : Array Value} {s : State} (hts : ∀ w ∈ TB, w.before args s = true) : ∃ (D : va_G) (tI tB tL : ClassId), va_K D vwCl (tysOf tI tB) s ∧ va_K D vwCl [(tL, .long)] s := by
  obtain ⟨c0, i0, K0⟩ := u_known (C := RX0) (T := TX0) (N := 3) (n := 3) hts KC0.2.1 (hts _ (mTBi 209 (by decide +kernel) rfl))
  obtain ⟨c1, i1, K1⟩ := u_known (C := RX1) (T := TX1) (N := 5) (n := 5) hts KC1.2.1 (hts _ (mTBi 225 (by decide +kernel) rfl))
  obtain ⟨c2, i2, K2⟩ := u_known (C := RX2) (T := TX2) (N := 9) (n := 9) hts KC2.2.1 (hts _ (mTBi 162 (by decide +kernel) rfl))
  obtain ⟨c3, i3, K3⟩ := u_known (C := RX3) (T := TX3) (N := 5) (n := 5) hts KC3.2.1 (hts _ (mTBi 305 (by decide +kernel) rfl))
  obtain ⟨c4, i4, K4⟩ := u_known (C := RX4) (T := TX4) (N := 14) (n := 14) hts KC4.2.1 (hts _ (mTBi 254 (by decide +kernel) rfl))
  obtain ⟨c5, i5, K5⟩ := u_known (C := RX5) (T := TX5) (N := 2) (n := 2) hts KC5.2.1 (hts _ (mTBi 119 (by decide +kernel) rfl))
  obtain ⟨c6, i6, K6⟩ := u_known (C := RX6) (T := TX6) (N := 6) (n := 6) hts KC6.2.1 (hts _ (mTBi 135 (by decide +kernel) rfl))
  obtain ⟨c7, i7, K7⟩ := u_known (C := RX7) (T := TX7) (N := 6) (n := 6) hts KC7.2.1 (hts _ (mTBi 248 (by decide +kernel) rfl))
  obtain ⟨c8, i8, K8⟩ := u_known (C := RX8) (T := TX8) (N := 9) (n := 9) hts KC8.2.1 (hts _ (mTBi 111 (by decide +kernel) rfl))
  obtain ⟨c9, i9, K9⟩ := u_known (C := RX9) (T := TX9) (N := 10) (n := 10) hts KC9.2.1 (hts _ (mTBi 1365 (by decide +kernel) rfl))
  obtain ⟨c10, i10, K10⟩ := u_known (C := RX10) (T := TX10) (N := 16) (n := 16) hts KC10.2.1 (hts _ (mTBi 1291 (by decide +kernel) rfl))
  obtain ⟨c11, i11, K11⟩ := u_known (C := RX11) (T := TX11) (N := 24) (n := 24) hts KC11.2.1 (hts _ (mTBi 1285 (by decide +kernel) rfl))
  obtain ⟨tI, a1, a2⟩ := arr_int (hts _ (mTBi 160 (by decide +kernel) rfl))
  obtain ⟨tB, b1, b2⟩ := arr_byte (hts _ (mTBi 133 (by decide +kernel) rfl))
  obtain ⟨tL, l1, l2⟩ := arr_long (hts _ (mTBi 1902 (by decide +kernel) rfl))
  have hc : ∀ (k : Nat) (q : vw_C), vwCl[k]? = some q → u_Kn s q.1 q.2.1 q.2.2 ([c0, c1, c2, c3, c4, c5, c6, c7, c8, c9, c10, c11].getD k c0) ([i0, i1, i2, i3, i4, i5, i6, i7, i8, i9, i10, i11].getD k i0) := by
    intro k q hq
    match k, hq with
    | 0, hq => cases hq; exact K0
    | 1, hq => cases hq; exact K1
    | 2, hq => cases hq; exact K2
    | 3, hq => cases hq; exact K3
    | 4, hq => cases hq; exact K4
    | 5, hq => cases hq; exact K5
    | 6, hq => cases hq; exact K6
    | 7, hq => cases hq; exact K7
    | 8, hq => cases hq; exact K8
    | 9, hq => cases hq; exact K9
    | 10, hq => cases hq; exact K10
    | 11, hq => cases hq; exact K11
    | k + 12, hq => exact absurd (List.getElem?_eq_some_iff.mp hq).1 (by show ¬ k + 12 < 12; omega)
  refine ⟨(fun k => [c0, c1, c2, c3, c4, c5, c6, c7, c8, c9, c10, c11].getD k c0, fun k => [i0, i1, i2, i3, i4, i5, i6, i7, i8, i9, i10, i11].getD k i0), tI, tB, tL, ⟨hc, fun k q hq => ?_⟩, ⟨hc, fun k q hq => ?_⟩⟩
  · match k, hq with
    | 0, hq => cases hq; exact ⟨a1, a2⟩
    | 1, hq => cases hq; exact ⟨b1, b2⟩
    | k + 2, hq => exact absurd (List.getElem?_eq_some_iff.mp hq).1 (by show ¬ k + 2 < 2; omega)
  · match k, hq with
    | 0, hq => cases hq; exact ⟨l1, l2⟩
    | k + 1, hq => exact absurd (List.getElem?_eq_some_iff.mp hq).1 (by show ¬ k + 1 < 1; omega)
theorem fl_of {args : Array Value} {s : State} (h : (Jvm.Cond.and given_1 narrow_1).before args s = true) {w : Cond} (i : Nat) (hi : flN[i]? = some w) : w.before args s = true := flat_of_before _ h w (List.mem_of_getElem? hi)
theorem sW_of {args : Array Value} {s : State} (h : (Jvm.Cond.and given_1 narrow_1).before args s = true) {i : Nat} (hi : i < 65) {w : Cond} (hw : w ∈ sW i) : w.before args s = true := by
  refine flat_of_before _ h w ?_
  have h1 := of_decide_eq_true (List.all_eq_true.mp sW_flat i (List.mem_range.mpr hi))
  rw [← h1] at hw
  exact List.mem_of_mem_drop (List.mem_of_mem_take hw)
theorem xk_of {args : Array Value} {s : State} (h : (Jvm.Cond.and given_1 narrow_1).before args s = true) : XK s := by
  have key : ∀ (i : Nat) (a b : Nat), flN[i]? = some (Cond.not (.castable (exN a) (exN b))) → va_Nc (exN a) (exN b) s := fun i a b hi => va_Nc.of (fl_of h i hi)
  intro a b ha ha4 hb hb4 hab
  rcases (show (a = 1 ∧ b = 2) ∨ (a = 1 ∧ b = 3) ∨ (a = 2 ∧ b = 1) ∨ (a = 2 ∧ b = 3) ∨ (a = 3 ∧ b = 1) ∨ (a = 3 ∧ b = 2) by omega) with ⟨rfl, rfl⟩ | ⟨rfl, rfl⟩ | ⟨rfl, rfl⟩ | ⟨rfl, rfl⟩ | ⟨rfl, rfl⟩ | ⟨rfl, rfl⟩
  · exact key 66 1 2 (by decide +kernel)
  · exact key 80 1 3 (by decide +kernel)
  · exact key 52 2 1 (by decide +kernel)
  · exact key 81 2 3 (by decide +kernel)
  · exact key 53 3 1 (by decide +kernel)
  · exact key 67 3 2 (by decide +kernel)
theorem oo_of {args : Array Value} {s : State} (hts : ∀ w ∈ lw_tbl, w.before args s = true) (h : (Jvm.Cond.and given_1 narrow_1).before args s = true) : ∃ (aK aV : Nat → Nat) (tW : Nat), OOx s.heap.size aK aV tW s s.heap := by
  have hA : ∀ a : Nat, a < s.heap.size → ¬ A0 s.heap.size a := fun a ha h9 => Nat.not_le.mpr ha h9
  have h0 : ∀ i : Nat, ∃ q : Nat × Nat, i < 65 → (sT i).eval args s none [] s = some (.ref q.1) ∧ va_O "java/lang/String" q.1 (A0 s.heap.size) s s.heap ∧ va_OF "java/lang/String" "coder" "B" (.int 0) q.1 (A0 s.heap.size) s s.heap ∧ va_OF "java/lang/String" "value" "[B" (.ref q.2) q.1 (A0 s.heap.size) s s.heap ∧ va_T .byte q.2 (sL i) (fun j => .int ((sB i).getD j 0)) (A0 s.heap.size) s s.heap := by
    intro i
    by_cases hi : i < 65
    · obtain ⟨a, c, cA, kA, q1, q2, q3, q4, q5, q6, -⟩ := Cond.exactly_spec (args := args) (first := s) (o := none) (s := s) (idx := []) (t := sT i) (cls := "java/lang/String") (sW_of h hi (by simp [sW]))
      have hN : sL i < 2 ^ 31 := by
        have : ((List.range 65).all fun i => decide (sL i < 2 ^ 31)) = true := by decide +kernel
        exact of_decide_eq_true (List.all_eq_true.mp this i (List.mem_range.mpr hi))
      obtain ⟨t, ht, hT⟩ := va_Tof (f := fun j => .int ((sB i).getD j 0)) (A := A0 s.heap.size) hN (sW_of h hi (w := .arrayOf (sF i) .byte) (by simp [sW])) (va_eqt (sW_of h hi (by simp [sW]))) (fun j hj => va_eqt (sW_of h hi (by
        refine List.mem_append_right _ (List.mem_map.mpr ⟨j, List.mem_range.mpr hj, rfl⟩)))) hA
      exact ⟨(a, t), fun _ => ⟨q1, ⟨cA, q3, q5, by rw [q6]; exact q2, hA a (Array.getElem?_eq_some_iff.mp q3).1⟩, vk_OFof q1 (va_eqt (sW_of h hi (by simp [sW]))) hA, vk_OFof q1 ht hA, hT⟩⟩
    · exact ⟨(0, 0), fun h => absurd h hi⟩
  obtain ⟨ad, had⟩ := Classical.axiomOfChoice h0
  obtain ⟨tW, htW, hTW⟩ := va_Tof (tm := .static "PeriscopeTrainModel" "WORDS" "[Ljava/lang/String;") (ty := .object "java/lang/String") (N := 26) (f := fun j => .ref (ad (28 + j)).1) (A := A0 s.heap.size) (by decide) (fl_of h 12 (by decide +kernel)) (va_eqt (fl_of h 13 (by decide +kernel))) (fun j hj => va_eqv (fl_of h (14 + j) (of_decide_eq_true (List.all_eq_true.mp wEl_all j (List.mem_range.mpr hj)))) (had (28 + j) (by omega)).1) hA
  refine ⟨fun i => (ad i).1, fun i => (ad i).2, tW, ?_, ?_, ?_, ?_, ?_, hTW, fun i hi => ⟨(had i hi).2, ?_⟩⟩
  · exact va_Zof (hts _ (List.mem_of_getElem? (i := 464) (by decide +kernel))) (hts _ (List.mem_of_getElem? (i := 102) (by decide +kernel))) (va_eqi (fl_of h 4 (by decide +kernel))) hA
  · exact va_Zqof (hts _ (List.mem_of_getElem? (i := 480) (by decide +kernel))) (hts _ (List.mem_of_getElem? (i := 104) (by decide +kernel))) (fl_of h 5 (by decide +kernel)) hA
  · exact vx_Zqof (hts _ (List.mem_of_getElem? (i := 1014) (by decide +kernel))) (hts _ (List.mem_of_getElem? (i := 97) (by decide +kernel))) (fl_of h 9 (by decide +kernel)) hA
  · exact vx_Zqof (hts _ (List.mem_of_getElem? (i := 1016) (by decide +kernel))) (hts _ (List.mem_of_getElem? (i := 97) (by decide +kernel))) (fl_of h 10 (by decide +kernel)) hA
  · exact va_Zof (hts _ (List.mem_of_getElem? (i := 1538) (by decide +kernel))) (hts _ (List.mem_of_getElem? (i := 94) (by decide +kernel))) htW hA
  · exact vk_R.of (hts _ (List.mem_of_getElem? (of_decide_eq_true (List.all_eq_true.mp sR_all i (List.mem_range.mpr hi))))) (had i hi).1
theorem nk_of {args : Array Value} {s : State} (hts : ∀ w ∈ lw_tbl, w.before args s = true) : NK s := by
  intro w hw
  have hn := nestNB hw
  have h1 := hts w (List.mem_append_right _ (List.mem_filter.mp hw).1)
  cases w <;> first | exact va_Nw.of rfl h1 | cases hn
