/-! the start: what the statement gives of classes, Strings, static rows -/
def sT (i : Nat) : Term := .string (sG i).1 (sG i).2.1
def sFl (i : Nat) : Term := .field (sT i) "java/lang/String" "value" "[B"
def sW (i : Nat) : List Cond := [.exactly (sT i) "java/lang/String", .eq (.field (sT i) "java/lang/String" "coder" "B") (.int 0), .arrayOf (sFl i) .byte, .eq (.length (sFl i)) (.int (Int32.ofNat (sL i)))] ++ (List.range (sL i)).map (fun j => Cond.eq (.elem (sFl i) (.int (Int32.ofNat j))) (.int ((sB i).getD j 0)))
def flN : List Cond := flatC (Jvm.Cond.and given_1 narrow_1)
def sPm : List Nat := [584, 594, 605, 615, 624, 633, 642, 648, 656, 665, 674, 685, 693, 703, 712, 720, 728, 736, 744, 750, 758, 767, 774, 781, 787, 794, 801, 805, 265, 289, 316, 353, 386, 418, 455, 490, 514, 544, 1055, 1197, 1208, 1218, 1227, 1240, 1254, 1265, 1276, 1287, 891, 1292, 1297, 1302, 1307, 1312, 1317, 1323, 1146, 1156, 1166, 1178, 1188, 822, 832, 838, 848, 854, 866, 879, 896, 901, 1080, 1101, 1132, 926, 933, 939, 947, 952, 957, 965, 972, 981, 992, 1000, 1005, 1014, 1019, 1027, 1034, 906, 912, 918, 1039, 1049]
theorem sW_flat : ((List.range 94).all fun i => decide ((flN.drop (sPm.getD i 0)).take (4 + sL i) = sW i)) = true := by decide +kernel
def sRp : List Nat := [1012, 1013, 1014, 1015, 1016, 1017, 1018, 1019, 1020, 1021, 1022, 1023, 1024, 1025, 1026, 1027, 1028, 1029, 1030, 1031, 1032, 1033, 1034, 1035, 1036, 1037, 1038, 1066, 432, 479, 526, 544, 574, 585, 595, 607, 960, 969, 1639, 1677, 1678, 1679, 1680, 1681, 1682, 1683, 1684, 1685, 1442, 1686, 1687, 1688, 1689, 1690, 1691, 1692, 1671, 1672, 1673, 1674, 1675, 1311, 1432, 1433, 1434, 1439, 1440, 1441, 1443, 1445, 1658, 1659, 1660, 1535, 1595, 1597, 1598, 1599, 1600, 1601, 1602, 1603, 1604, 1605, 1606, 1607, 1608, 1611, 1612, 1525, 1527, 1528, 1616, 1617]
theorem sR_all : ((List.range 94).all fun i => decide (lw_tbl[sRp.getD i 0]? = some (Cond.stringRef (sG i).1 (sG i).2.1 (sG i).2.2.1))) = true := by decide +kernel
def stP : List Nat := [226, 237, 218]
theorem stE_all : ((List.range 3).all fun k => (List.range (stG k).2.2.1).all fun j => decide (flN[stP.getD k 0 + 2 + j]? = some (Cond.eq (.elem (.static (stG k).1 (stG k).2.1 "[Ljava/lang/String;") (.int (Int32.ofNat j))) (sT ((stG k).2.2.2 + j))))) = true := by decide +kernel
theorem dg1_all : ((List.range 100).all fun j => decide (flN[14 + j]? = some (Cond.eq (.elem (.static "java/lang/Integer" "DigitOnes" "[B") (.int (Int32.ofNat j))) (.int (nI (48 + j % 10)))))) = true := by decide +kernel
theorem dg2_all : ((List.range 100).all fun j => decide (flN[117 + j]? = some (Cond.eq (.elem (.static "java/lang/Integer" "DigitTens" "[B") (.int (Int32.ofNat j))) (.int (nI (48 + j / 10)))))) = true := by decide +kernel
theorem arr_int {args : Array Value} {s : State} (h : (Cond.arrayClass .int).before args s = true) : ∃ cA, ArrOfT s cA .int ∧ va_RA s cA .int := by
  obtain ⟨c, k, comp, h1, h2, h3⟩ := Cond.arrayClass_spec h
  exact ⟨c, fun n z => ⟨fun k h => (by cases h), k, h2, comp, h3⟩, h1⟩
theorem arr_byte {args : Array Value} {s : State} (h : (Cond.arrayClass .byte).before args s = true) : ∃ cA, ArrOfT s cA .byte ∧ va_RA s cA .byte := by
  obtain ⟨c, k, comp, h1, h2, h3⟩ := Cond.arrayClass_spec h
  exact ⟨c, fun n z => ⟨fun k h => (by cases h), k, h2, comp, h3⟩, h1⟩
theorem arr_bool {args : Array Value} {s : State} (h : (Cond.arrayClass .boolean).before args s = true) : ∃ cA, ArrOfT s cA .boolean ∧ va_RA s cA .boolean := by
  obtain ⟨c, k, comp, h1, h2, h3⟩ := Cond.arrayClass_spec h
  exact ⟨c, fun n z => ⟨fun k h => (by cases h), k, h2, comp, h3⟩, h1⟩
theorem arr_ints {s : State} (h : (Cond.arrayOver (.array .int)).before #[] s = true) : ∃ cA, ArrOfT s cA (.array .int) ∧ va_RA s cA (.array .int) := by
  obtain ⟨comp, c, k, h0, h1, h2, h3, h4⟩ := arrayOverA_spec h
  exact ⟨c, fun n z => ⟨fun k h => (by cases h), k, h2, comp, h3⟩, h4⟩
theorem arr_ords {s : State} (h : (Cond.arrayOver (.object "PeriscopeTrainLaw$Order")).before #[] s = true) : ∃ cA, ArrOfT s cA (.object "PeriscopeTrainLaw$Order") ∧ va_RA s cA (.object "PeriscopeTrainLaw$Order") := by
  obtain ⟨comp, c, k, h0, h1, h2, h3, h4⟩ := Cond.arrayOver_spec h
  exact ⟨c, fun n z => ⟨fun k h => (by cases h), k, h2, comp, h3⟩, k, comp, h2, h3, h0, h4⟩
theorem nk_of {args : Array Value} {s : State} (hts : ∀ w ∈ lw_tbl, w.before args s = true) : NK s := by
  intro w hw
  have hn := nestNB hw
  have h1 := hts w (List.mem_append_right _ (List.mem_filter.mp hw).1)
  cases w <;> first | exact va_Nw.of rfl h1 | (cases hn; done) | exact h1
theorem known_all {args : Array Value} {s : State} (hts : ∀ w ∈ TB, w.before args s = true) (hN : NK s) : ∃ (D : va_G) (tI tB : ClassId) (tX : Nat → ClassId), va_K D vwCl (tysOf tI tB) s ∧ va_K D vwCl [(tI, .int), (tB, .byte), (tX 0, .boolean), (tX 1, .array .int), (tX 2, .object "PeriscopeTrainLaw$Order")] s := by
  obtain ⟨c0, i0, K0⟩ := u_known (C := RJ0) (T := TJ0) (N := 4) (n := 4) hts KP0.2.1 (hts _ (mTBi 1543 (by decide +kernel) rfl))
  obtain ⟨c1, i1, K1⟩ := u_known (C := RJ4) (T := TJ4) (N := 4) (n := 4) hts KP1.2.1 (hts _ (mTBi 1502 (by decide +kernel) rfl))
  obtain ⟨c2, i2, K2⟩ := u_known (C := RX0) (T := TX0) (N := 3) (n := 3) hts KC0.2.1 (hts _ (mTBi 170 (by decide +kernel) rfl))
  obtain ⟨c3, i3, K3⟩ := u_known (C := RX1) (T := TX1) (N := 5) (n := 5) hts KC1.2.1 (hts _ (mTBi 186 (by decide +kernel) rfl))
  obtain ⟨c4, i4, K4⟩ := u_known (C := RX2) (T := TX2) (N := 9) (n := 9) hts KC2.2.1 (hts _ (mTBi 123 (by decide +kernel) rfl))
  obtain ⟨c5, i5, K5⟩ := u_known (C := RX3) (T := TX3) (N := 5) (n := 5) hts KC3.2.1 (hts _ (mTBi 266 (by decide +kernel) rfl))
  obtain ⟨c6, i6, K6⟩ := u_known (C := RX4) (T := TX4) (N := 14) (n := 14) hts KC4.2.1 (hts _ (mTBi 215 (by decide +kernel) rfl))
  obtain ⟨c7, i7, K7⟩ := u_known (C := RX5) (T := TX5) (N := 2) (n := 2) hts KC5.2.1 (hts _ (mTBi 80 (by decide +kernel) rfl))
  obtain ⟨c8, i8, K8⟩ := u_known (C := RX6) (T := TX6) (N := 6) (n := 6) hts KC6.2.1 (hts _ (mTBi 96 (by decide +kernel) rfl))
  obtain ⟨c9, i9, K9⟩ := u_known (C := RX7) (T := TX7) (N := 6) (n := 6) hts KC7.2.1 (hts _ (mTBi 209 (by decide +kernel) rfl))
  obtain ⟨c10, i10, K10⟩ := u_known (C := RX8) (T := TX8) (N := 9) (n := 9) hts KC8.2.1 (hts _ (mTBi 72 (by decide +kernel) rfl))
  obtain ⟨c11, i11, K11⟩ := u_known (C := RX9) (T := TX9) (N := 1) (n := 1) hts KP11.2.1 (hts _ (mTBi 791 (by decide +kernel) rfl))
  obtain ⟨c12, i12, K12⟩ := u_known (C := RX10) (T := TX10) (N := 4) (n := 4) hts KP12.2.1 (hts _ (mTBi 1454 (by decide +kernel) rfl))
  obtain ⟨c13, i13, K13⟩ := u_known (C := RX11) (T := TX11) (N := 4) (n := 4) hts KP13.2.1 (hts _ (mTBi 1447 (by decide +kernel) rfl))
  obtain ⟨c14, i14, K14⟩ := u_known (C := RX12) (T := TX12) (N := 9) (n := 9) hts KP14.2.1 (hts _ (mTBi 1266 (by decide +kernel) rfl))
  obtain ⟨tI, a1, a2⟩ := arr_int (hts _ (mTBi 121 (by decide +kernel) rfl))
  obtain ⟨tB, b1, b2⟩ := arr_byte (hts _ (mTBi 94 (by decide +kernel) rfl))
  obtain ⟨t0, d1, d2⟩ := arr_bool (hts _ (mTBi 1661 (by decide +kernel) rfl))
  obtain ⟨t1, e1, e2⟩ := arr_ints (hN _ LAO)
  obtain ⟨t2, f1, f2⟩ := arr_ords (hN _ LAOQ)
  have hc : ∀ (k : Nat) (q : vw_C), vwCl[k]? = some q → u_Kn s q.1 q.2.1 q.2.2 ([c0, c1, c2, c3, c4, c5, c6, c7, c8, c9, c10, c11, c12, c13, c14].getD k c0) ([i0, i1, i2, i3, i4, i5, i6, i7, i8, i9, i10, i11, i12, i13, i14].getD k i0) := by
    intro k q hq
    match k, hq with
    | 0, hq => cases hq; exact K0
    | 1, hq => cases hq; exact K1
    | 2, hq => cases hq; exact K2
    | 3, hq => cases hq; exact K3
    | 4, hq => cases hq; exact K4
    | 5, hq => cases hq; exact K5
    | 6, hq => cases hq; exact K6
    | 7, hq => cases hq; exact K7
    | 8, hq => cases hq; exact K8
    | 9, hq => cases hq; exact K9
    | 10, hq => cases hq; exact K10
    | 11, hq => cases hq; exact K11
    | 12, hq => cases hq; exact K12
    | 13, hq => cases hq; exact K13
    | 14, hq => cases hq; exact K14
    | k + 15, hq => exact absurd (List.getElem?_eq_some_iff.mp hq).1 (by show ¬ k + 15 < 15; omega)
  refine ⟨(fun k => [c0, c1, c2, c3, c4, c5, c6, c7, c8, c9, c10, c11, c12, c13, c14].getD k c0, fun k => [i0, i1, i2, i3, i4, i5, i6, i7, i8, i9, i10, i11, i12, i13, i14].getD k i0), tI, tB, (fun k => [t0, t1, t2].getD k t0), ⟨hc, fun k q hq => ?_⟩, ⟨hc, fun k q hq => ?_⟩⟩
  · match k, hq with
    | 0, hq => cases hq; exact ⟨a1, a2⟩
    | 1, hq => cases hq; exact ⟨b1, b2⟩
    | k + 2, hq => exact absurd (List.getElem?_eq_some_iff.mp hq).1 (by show ¬ k + 2 < 2; omega)
  · match k, hq with
    | 0, hq => cases hq; exact ⟨a1, a2⟩
    | 1, hq => cases hq; exact ⟨b1, b2⟩
    | 2, hq => cases hq; exact ⟨d1, d2⟩
    | 3, hq => cases hq; exact ⟨e1, e2⟩
    | 4, hq => cases hq; exact ⟨f1, f2⟩
    | k + 5, hq => exact absurd (List.getElem?_eq_some_iff.mp hq).1 (by show ¬ k + 5 < 5; omega)
theorem fl_of {args : Array Value} {s : State} (h : (Jvm.Cond.and given_1 narrow_1).before args s = true) {w : Cond} (i : Nat) (hi : flN[i]? = some w) : w.before args s = true := flat_of_before _ h w (List.mem_of_getElem? hi)
theorem sW_of {args : Array Value} {s : State} (h : (Jvm.Cond.and given_1 narrow_1).before args s = true) {i : Nat} (hi : i < 94) {w : Cond} (hw : w ∈ sW i) : w.before args s = true := by
  refine flat_of_before _ h w ?_
  have h1 := of_decide_eq_true (List.all_eq_true.mp sW_flat i (List.mem_range.mpr hi))
  rw [← h1] at hw
  exact List.mem_of_mem_drop (List.mem_of_mem_take hw)
theorem strs_of {args : Array Value} {s : State} (h : (Jvm.Cond.and given_1 narrow_1).before args s = true) (i : Nat) : ∃ q : Nat × Nat, i < 94 → (sT i).eval args s none [] s = some (.ref q.1) ∧ va_O "java/lang/String" q.1 (A0 s.heap.size) s s.heap ∧ va_OF "java/lang/String" "coder" "B" (.int 0) q.1 (A0 s.heap.size) s s.heap ∧ va_OF "java/lang/String" "value" "[B" (.ref q.2) q.1 (A0 s.heap.size) s s.heap ∧ va_T .byte q.2 (sL i) (fun j => .int ((sB i).getD j 0)) (A0 s.heap.size) s s.heap := by
  have hA : ∀ a : Nat, a < s.heap.size → ¬ A0 s.heap.size a := fun a ha h9 => Nat.not_le.mpr ha h9
  by_cases hi : i < 94
  · obtain ⟨a, c, cA, kA, q1, q2, q3, q4, q5, q6, -⟩ := Cond.exactly_spec (args := args) (first := s) (o := none) (s := s) (idx := []) (t := sT i) (cls := "java/lang/String") (sW_of h hi (by simp [sW]))
    have hN : sL i < 2 ^ 31 := by
      have : ((List.range 94).all fun i => decide (sL i < 2 ^ 31)) = true := by decide +kernel
      exact of_decide_eq_true (List.all_eq_true.mp this i (List.mem_range.mpr hi))
    obtain ⟨t, ht, hT⟩ := va_Tof (f := fun j => .int ((sB i).getD j 0)) (A := A0 s.heap.size) hN (sW_of h hi (w := .arrayOf (sFl i) .byte) (by simp [sW])) (va_eqt (sW_of h hi (by simp [sW]))) (fun j hj => va_eqt (sW_of h hi (by
      refine List.mem_append_right _ (List.mem_map.mpr ⟨j, List.mem_range.mpr hj, rfl⟩)))) hA
    exact ⟨(a, t), fun _ => ⟨q1, ⟨cA, q3, q5, by rw [q6]; exact q2, hA a (Array.getElem?_eq_some_iff.mp q3).1⟩, vk_OFof q1 (va_eqt (sW_of h hi (by simp [sW]))) hA, vk_OFof q1 ht hA, hT⟩⟩
  · exact ⟨(0, 0), fun h => absurd h hi⟩
theorem st0_of {args : Array Value} {s : State} (hts : ∀ w ∈ lw_tbl, w.before args s = true) (h : (Jvm.Cond.and given_1 narrow_1).before args s = true) (aK : Nat → Nat) (hK : ∀ i, i < 94 → (sT i).eval args s none [] s = some (.ref (aK i))) : ∃ t : Nat, va_Z "PeriscopeTrainLaw" "WORDS" "[Ljava/lang/String;" (.ref t) (A0 s.heap.size) s s.heap ∧ va_T (.object "java/lang/String") t 8 (fun i => .ref (aK (39 + i))) (A0 s.heap.size) s s.heap := by
  have hA : ∀ a : Nat, a < s.heap.size → ¬ A0 s.heap.size a := fun a ha h9 => Nat.not_le.mpr ha h9
  have hE : ∀ j, j < 8 → flN[228 + j]? = some (Cond.eq (.elem (.static "PeriscopeTrainLaw" "WORDS" "[Ljava/lang/String;") (.int (Int32.ofNat j))) (sT (39 + j))) := fun j hj => of_decide_eq_true (List.all_eq_true.mp (List.all_eq_true.mp stE_all 0 (List.mem_range.mpr (by decide))) j (List.mem_range.mpr hj))
  obtain ⟨t, ht, hT⟩ := va_Tof (tm := .static "PeriscopeTrainLaw" "WORDS" "[Ljava/lang/String;") (ty := .object "java/lang/String") (N := 8) (f := fun j => .ref (aK (39 + j))) (A := A0 s.heap.size) (by decide) (fl_of h 226 (by decide +kernel)) (va_eqt (fl_of h 227 (by decide +kernel))) (fun j hj => va_eqv (fl_of h (228 + j) (hE j hj)) (hK (39 + j) (by omega))) hA
  exact ⟨t, va_Zof (hts _ (List.mem_of_getElem? (i := 1610) (by decide +kernel))) (hts _ (List.mem_of_getElem? (i := 39) (by decide +kernel))) ht hA, hT⟩
theorem st1_of {args : Array Value} {s : State} (hts : ∀ w ∈ lw_tbl, w.before args s = true) (h : (Jvm.Cond.and given_1 narrow_1).before args s = true) (aK : Nat → Nat) (hK : ∀ i, i < 94 → (sT i).eval args s none [] s = some (.ref (aK i))) : ∃ t : Nat, va_Z "PeriscopeTrainLaw" "SIGNS" "[Ljava/lang/String;" (.ref t) (A0 s.heap.size) s s.heap ∧ va_T (.object "java/lang/String") t 9 (fun i => .ref (aK (47 + i))) (A0 s.heap.size) s s.heap := by
  have hA : ∀ a : Nat, a < s.heap.size → ¬ A0 s.heap.size a := fun a ha h9 => Nat.not_le.mpr ha h9
  have hE : ∀ j, j < 9 → flN[239 + j]? = some (Cond.eq (.elem (.static "PeriscopeTrainLaw" "SIGNS" "[Ljava/lang/String;") (.int (Int32.ofNat j))) (sT (47 + j))) := fun j hj => of_decide_eq_true (List.all_eq_true.mp (List.all_eq_true.mp stE_all 1 (List.mem_range.mpr (by decide))) j (List.mem_range.mpr hj))
  obtain ⟨t, ht, hT⟩ := va_Tof (tm := .static "PeriscopeTrainLaw" "SIGNS" "[Ljava/lang/String;") (ty := .object "java/lang/String") (N := 9) (f := fun j => .ref (aK (47 + j))) (A := A0 s.heap.size) (by decide) (fl_of h 237 (by decide +kernel)) (va_eqt (fl_of h 238 (by decide +kernel))) (fun j hj => va_eqv (fl_of h (239 + j) (hE j hj)) (hK (47 + j) (by omega))) hA
  exact ⟨t, va_Zof (hts _ (List.mem_of_getElem? (i := 1614) (by decide +kernel))) (hts _ (List.mem_of_getElem? (i := 39) (by decide +kernel))) ht hA, hT⟩
theorem st2_of {args : Array Value} {s : State} (hts : ∀ w ∈ lw_tbl, w.before args s = true) (h : (Jvm.Cond.and given_1 narrow_1).before args s = true) (aK : Nat → Nat) (hK : ∀ i, i < 94 → (sT i).eval args s none [] s = some (.ref (aK i))) : ∃ t : Nat, va_Z "PeriscopeTrainLaw$Order" "DOES" "[Ljava/lang/String;" (.ref t) (A0 s.heap.size) s s.heap ∧ va_T (.object "java/lang/String") t 5 (fun i => .ref (aK (56 + i))) (A0 s.heap.size) s s.heap := by
  have hA : ∀ a : Nat, a < s.heap.size → ¬ A0 s.heap.size a := fun a ha h9 => Nat.not_le.mpr ha h9
  have hE : ∀ j, j < 5 → flN[220 + j]? = some (Cond.eq (.elem (.static "PeriscopeTrainLaw$Order" "DOES" "[Ljava/lang/String;") (.int (Int32.ofNat j))) (sT (56 + j))) := fun j hj => of_decide_eq_true (List.all_eq_true.mp (List.all_eq_true.mp stE_all 2 (List.mem_range.mpr (by decide))) j (List.mem_range.mpr hj))
  obtain ⟨t, ht, hT⟩ := va_Tof (tm := .static "PeriscopeTrainLaw$Order" "DOES" "[Ljava/lang/String;") (ty := .object "java/lang/String") (N := 5) (f := fun j => .ref (aK (56 + j))) (A := A0 s.heap.size) (by decide) (fl_of h 218 (by decide +kernel)) (va_eqt (fl_of h 219 (by decide +kernel))) (fun j hj => va_eqv (fl_of h (220 + j) (hE j hj)) (hK (56 + j) (by omega))) hA
  exact ⟨t, va_Zof (hts _ (List.mem_of_getElem? (i := 1523) (by decide +kernel))) (hts _ (List.mem_of_getElem? (i := 62) (by decide +kernel))) ht hA, hT⟩
theorem dg1_of {args : Array Value} {s : State} (hts : ∀ w ∈ lw_tbl, w.before args s = true) (h : (Jvm.Cond.and given_1 narrow_1).before args s = true) : ∃ t : Nat, va_Z "java/lang/Integer" "DigitOnes" "[B" (.ref t) (A0 s.heap.size) s s.heap ∧ va_T .byte t 100 (fun j => .int (nI (48 + j % 10))) (A0 s.heap.size) s s.heap := by
  have hA : ∀ a : Nat, a < s.heap.size → ¬ A0 s.heap.size a := fun a ha h9 => Nat.not_le.mpr ha h9
  obtain ⟨t, ht, hT⟩ := va_Tof (tm := .static "java/lang/Integer" "DigitOnes" "[B") (ty := .byte) (N := 100) (f := fun j => .int (nI (48 + j % 10))) (A := A0 s.heap.size) (by decide) (fl_of h 12 (by decide +kernel)) (va_eqt (fl_of h 13 (by decide +kernel))) (fun j hj => va_eqt (fl_of h (14 + j) (of_decide_eq_true (List.all_eq_true.mp dg1_all j (List.mem_range.mpr hj))))) hA
  exact ⟨t, va_Zof (hts _ (List.mem_of_getElem? (i := 1421) (by decide +kernel))) (hts _ (List.mem_of_getElem? (i := 61) (by decide +kernel))) ht hA, hT⟩
theorem dg2_of {args : Array Value} {s : State} (hts : ∀ w ∈ lw_tbl, w.before args s = true) (h : (Jvm.Cond.and given_1 narrow_1).before args s = true) : ∃ t : Nat, va_Z "java/lang/Integer" "DigitTens" "[B" (.ref t) (A0 s.heap.size) s s.heap ∧ va_T .byte t 100 (fun j => .int (nI (48 + j / 10))) (A0 s.heap.size) s s.heap := by
  have hA : ∀ a : Nat, a < s.heap.size → ¬ A0 s.heap.size a := fun a ha h9 => Nat.not_le.mpr ha h9
  obtain ⟨t, ht, hT⟩ := va_Tof (tm := .static "java/lang/Integer" "DigitTens" "[B") (ty := .byte) (N := 100) (f := fun j => .int (nI (48 + j / 10))) (A := A0 s.heap.size) (by decide) (fl_of h 115 (by decide +kernel)) (va_eqt (fl_of h 116 (by decide +kernel))) (fun j hj => va_eqt (fl_of h (117 + j) (of_decide_eq_true (List.all_eq_true.mp dg2_all j (List.mem_range.mpr hj))))) hA
  exact ⟨t, va_Zof (hts _ (List.mem_of_getElem? (i := 1423) (by decide +kernel))) (hts _ (List.mem_of_getElem? (i := 61) (by decide +kernel))) ht hA, hT⟩
theorem oo_of {args : Array Value} {s : State} (hts : ∀ w ∈ lw_tbl, w.before args s = true) (h : (Jvm.Cond.and given_1 narrow_1).before args s = true) : ∃ (aK aV tW : Nat → Nat), OOx s.heap.size aK aV tW s s.heap := by
  have hA : ∀ a : Nat, a < s.heap.size → ¬ A0 s.heap.size a := fun a ha h9 => Nat.not_le.mpr ha h9
  obtain ⟨ad, had⟩ := Classical.axiomOfChoice (strs_of h)
  have hK : ∀ i, i < 94 → (sT i).eval args s none [] s = some (.ref (ad i).1) := fun i hi => (had i hi).1
  obtain ⟨w0, a0, b0⟩ := st0_of hts h (fun i => (ad i).1) hK
  obtain ⟨w1, a1, b1⟩ := st1_of hts h (fun i => (ad i).1) hK
  obtain ⟨w2, a2, b2⟩ := st2_of hts h (fun i => (ad i).1) hK
  obtain ⟨w3, a3, b3⟩ := dg1_of hts h
  obtain ⟨w4, a4, b4⟩ := dg2_of hts h
  refine ⟨fun i => (ad i).1, fun i => (ad i).2, fun k => [w0, w1, w2, w3, w4].getD k 0, ?_, ?_, ?_, ?_, fun j hj => ?_, ⟨⟨a3, b3⟩, ⟨a4, b4⟩⟩, fun i hi => ⟨(had i hi).2, ?_⟩⟩
  · exact va_Zof (hts _ (List.mem_of_getElem? (i := 917) (by decide +kernel))) (hts _ (List.mem_of_getElem? (i := 52) (by decide +kernel))) (va_eqi (fl_of h 6 (by decide +kernel))) hA
  · exact va_Zqof (hts _ (List.mem_of_getElem? (i := 933) (by decide +kernel))) (hts _ (List.mem_of_getElem? (i := 59) (by decide +kernel))) (fl_of h 7 (by decide +kernel)) hA
  · exact vx_Zqof (hts _ (List.mem_of_getElem? (i := 418) (by decide +kernel))) (hts _ (List.mem_of_getElem? (i := 64) (by decide +kernel))) (fl_of h 4 (by decide +kernel)) hA
  · exact vx_Zqof (hts _ (List.mem_of_getElem? (i := 420) (by decide +kernel))) (hts _ (List.mem_of_getElem? (i := 64) (by decide +kernel))) (fl_of h 5 (by decide +kernel)) hA
  · match j, hj with
    | 0, _ => exact ⟨a0, b0⟩
    | 1, _ => exact ⟨a1, b1⟩
    | 2, _ => exact ⟨a2, b2⟩
    | j + 3, hj => exact absurd hj (by omega)
  · exact vk_R.of (hts _ (List.mem_of_getElem? (of_decide_eq_true (List.all_eq_true.mp sR_all i (List.mem_range.mpr hi))))) (hK i hi)
