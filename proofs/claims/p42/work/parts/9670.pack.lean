/-! four bytes in a number -/
theorem nI_times {a b : Nat} : nI a * nI b = nI (a * b) := (Int32.ofNat_mul _ _).symm
theorem nI_nat {n : Nat} (h : n < 2 ^ 32) : (nI n).toBitVec.toNat = n := by
  show (BitVec.ofNat 32 n).toNat = n
  rw [BitVec.toNat_ofNat]
  exact Nat.mod_eq_of_lt h
theorem i32_nat {x : Int32} {n : Nat} (h : x.toBitVec.toNat = n) : x = nI n := by
  apply Int32.toBitVec_inj.mp
  apply BitVec.eq_of_toNat_eq
  rw [h]
  have : n < 2 ^ 32 := by rw [← h]; exact x.toBitVec.isLt
  exact (nI_nat this).symm
theorem pack1 {a b : Nat} (ha : a < 2 ^ 23) (hb : b < 256) : (nI a <<< (8 &&& 31)) ||| nI b = nI (a * 256 + b) := by
  apply i32_nat
  have e8 : ((8 &&& 31 : Int32)).toBitVec = 8#32 := by decide
  have e1 : (nI a <<< (8 &&& 31)).toBitVec = (nI a).toBitVec <<< (8 : Nat) := by
    rw [Int32.toBitVec_shiftLeft, e8]
    rfl
  rw [Int32.toBitVec_or, BitVec.toNat_or, e1, BitVec.toNat_shiftLeft, nI_nat (by omega), nI_nat (by omega), Nat.mod_eq_of_lt (by rw [Nat.shiftLeft_eq]; omega), ← Nat.shiftLeft_add_eq_or_of_lt (by omega), Nat.shiftLeft_eq]
def byteO (a s : Int32) : Int32 := ((a >>> (s &&& 31)).toInt8.toInt32).toInt8.toInt32
theorem byte8_all : ((List.range 128).all fun n => decide (((nI n).toInt8.toInt32).toInt8.toInt32 = nI n)) = true := by decide +kernel
theorem byteO_n {x k : Nat} {s : Int32} (hx : x < 2 ^ 31) (hk : k < 32) (hs : (s &&& 31).toBitVec = BitVec.ofNat 32 k) {n : Nat} (hn : n < 128) (he : x / 2 ^ k % 256 = n) : byteO (nI x) s = nI n := by
  have e1 : (nI x >>> (s &&& 31)) = nI (x / 2 ^ k) := by
    apply i32_nat
    rw [Int32.toBitVec_shiftRight, hs]
    have e2 : BitVec.smod (BitVec.ofNat 32 k) 32 = BitVec.ofNat 32 k := by
      revert hk
      revert k
      intro k _ _ hk
      have : ∀ k, k < 32 → BitVec.smod (BitVec.ofNat 32 k) 32 = BitVec.ofNat 32 k := by decide +kernel
      exact this k hk
    rw [e2]
    show ((nI x).toBitVec.sshiftRight (BitVec.ofNat 32 k).toNat).toNat = _
    rw [BitVec.sshiftRight_eq_of_msb_false (by rw [BitVec.msb_eq_decide, nI_nat (by omega)]; exact decide_eq_false (by omega)), BitVec.toNat_ushiftRight, nI_nat (by omega), BitVec.toNat_ofNat, Nat.mod_eq_of_lt (show k < 2 ^ 32 by omega), Nat.shiftRight_eq_div_pow]
  have hy : x / 2 ^ k < 2 ^ 31 := Nat.lt_of_le_of_lt (Nat.div_le_self _ _) hx
  unfold byteO
  rw [e1]
  have e3 : (nI (x / 2 ^ k)).toInt8 = (nI n).toInt8 := by
    apply Int8.toBitVec_inj.mp
    rw [Int32.toBitVec_toInt8, Int32.toBitVec_toInt8]
    rw [BitVec.signExtend_eq_setWidth_of_le _ (by decide), BitVec.signExtend_eq_setWidth_of_le _ (by decide)]
    apply BitVec.eq_of_toNat_eq
    rw [BitVec.toNat_setWidth, BitVec.toNat_setWidth, nI_nat (by omega), nI_nat (by omega)]
    show x / 2 ^ k % 256 = n % 256
    omega
  rw [e3]
  exact of_decide_eq_true (List.all_eq_true.mp byte8_all n (List.mem_range.mpr hn))
/-- the text's byte at j, a blank behind its end -/
def pd (w : List Int32) (j : Nat) : Int32 := if j < w.length then w.getD j 0 else 32
theorem pd_n {w : List Int32} (h : byT w) (j : Nat) : ∃ n, n < 128 ∧ pd w j = nI n := by
  unfold pd
  by_cases e : j < w.length
  · rw [if_pos e]; exact h.at e
  · rw [if_neg e]; exact ⟨32, by decide, rfl⟩
def pkF (w : List Int32) : Nat → Nat → Int32 → Int32
  | _, 0, a => a
  | p, d + 1, a => pkF w (p + 1) d ((a <<< (8 &&& 31)) ||| pd w p)
theorem pk_byte {w : List Int32} (h : byT w) (p : Nat) : byteO (pkF w p 4 0) 24 = pd w p ∧ byteO (pkF w p 4 0) 16 = pd w (p + 1) ∧ byteO (pkF w p 4 0) 8 = pd w (p + 2) ∧ byteO (pkF w p 4 0) 0 = pd w (p + 3) := by
  obtain ⟨b0, h0, e0⟩ := pd_n h p
  obtain ⟨b1, h1, e1⟩ := pd_n h (p + 1)
  obtain ⟨b2, h2, e2⟩ := pd_n h (p + 2)
  obtain ⟨b3, h3, e3⟩ := pd_n h (p + 3)
  have e : pkF w p 4 0 = nI (((b0 * 256 + b1) * 256 + b2) * 256 + b3) := by
    show ((((((((nI 0) <<< (8 &&& 31)) ||| pd w p) <<< (8 &&& 31)) ||| pd w (p + 1)) <<< (8 &&& 31)) ||| pd w (p + 2)) <<< (8 &&& 31)) ||| pd w (p + 3) = _
    rw [e0, e1, e2, e3, pack1 (by omega) (by omega), pack1 (by omega) (by omega), pack1 (by omega) (by omega), pack1 (by omega) (by omega), Nat.zero_mul, Nat.zero_add]
  rw [e, e0, e1, e2, e3]
  exact ⟨byteO_n (k := 24) (by omega) (by decide) (by decide) h0 (by omega), byteO_n (k := 16) (by omega) (by decide) (by decide) h1 (by omega), byteO_n (k := 8) (by omega) (by decide) (by decide) h2 (by omega), byteO_n (k := 0) (by omega) (by decide) (by decide) h3 (by omega)⟩
/-- what has been fed -/
def FeD (w : List Int32) (k : Nat) (g : G) : Prop := g 1 1 = nI k ∧ ∀ j, j < k → g 2 j = pd w j
theorem app1 {f T : Nat} {a s : Int32} {g : G} (hs : ¬ s < 0) (hT : g 1 1 = nI T) (h : T < 2000) : k5_append_3 (f + 1) a s g = k5_append_3 f a (s + (-8)) (up (up g 2 T (byteO a s)) 1 1 (nI (T + 1))) := by
  conv => lhs; unfold k5_append_3
  rw [if_neg hs, hT, if_neg (by rw [show (2000 : Int32) = nI 2000 from rfl, nI_leI (by omega) (by omega)]; omega), sto_n (by omega) (by omega), up_other (by decide), hT, nI_1, bd_eq, bd_eq]
  rfl
theorem FeD.put {w : List Int32} {k : Nat} {b : Int32} {g : G} (h : FeD w k g) (hb : b = pd w k) : FeD w (k + 1) (up (up g 2 k b) 1 1 (nI (k + 1))) := ⟨up_self, fun j hj => by
  rw [up_other (by decide)]
  by_cases e : j = k
  · rw [e, up_self, hb]
  · rw [up_slot' e]; exact h.2 j (by omega)⟩
theorem fed4 {w : List Int32} {k : Nat} {g : G} (hw : byT w) (h : FeD w k g) (hk : k + 4 ≤ 2000) : ∃ g', k5_append (pkF w k 4 0) g = some g' ∧ FeD w (k + 4) g' := by
  obtain ⟨b0, b1, b2, b3⟩ := pk_byte hw k
  have h1 := h.put b0
  have h2 := h1.put b1
  have h3 := h2.put b2
  have h4 := h3.put b3
  refine ⟨_, ?_, h4⟩
  unfold k5_append
  show k5_append_3 (99995 + 1 + 1 + 1 + 1 + 1) _ 24 g = _
  rw [app1 (by decide) h.1 (by omega), show ((24 : Int32) + -8) = 16 by decide, app1 (by decide) h1.1 (by omega), show ((16 : Int32) + -8) = 8 by decide, app1 (by decide) h2.1 (by omega), show ((8 : Int32) + -8) = 0 by decide, app1 (by decide) h3.1 (by omega)]
  unfold k5_append_3
  rw [if_pos (by decide)]
theorem feed_ok {w : List Int32} {k : Nat} {g : G} (hw : byT w) (h : FeD w k g) (hk : k ≤ 1980) : ∃ g', k8_feed (pkF w (k + 4 * 0) 4 0) (pkF w (k + 4 * 1) 4 0) (pkF w (k + 4 * 2) 4 0) (pkF w (k + 4 * 3) 4 0) (pkF w (k + 4 * 4) 4 0) g = some (0, nI (k + 20), g') ∧ FeD w (k + 20) g' := by
  obtain ⟨g1, a1, f1⟩ := fed4 hw h (by omega)
  obtain ⟨g2, a2, f2⟩ := fed4 hw f1 (by omega)
  obtain ⟨g3, a3, f3⟩ := fed4 hw f2 (by omega)
  obtain ⟨g4, a4, f4⟩ := fed4 hw f3 (by omega)
  obtain ⟨g5, a5, f5⟩ := fed4 hw f4 (by omega)
  refine ⟨g5, ?_, f5⟩
  unfold k8_feed
  rw [h.1, if_pos (show nI k ≤ 1980 from (nI_leI (b := 1980) (by omega) (by omega)).mpr hk)]
  show (k5_append (pkF w k 4 0) g).bind _ = _
  rw [a1, some_bind]
  show (k5_append (pkF w (k + 4) 4 0) g1).bind _ = _
  rw [a2, some_bind]
  show (k5_append (pkF w (k + 4 + 4) 4 0) g2).bind _ = _
  rw [a3, some_bind]
  show (k5_append (pkF w (k + 4 + 4 + 4) 4 0) g3).bind _ = _
  rw [a4, some_bind]
  show (k5_append (pkF w (k + 4 + 4 + 4 + 4) 4 0) g4).bind _ = _
  rw [a5, some_bind, f5.1]
