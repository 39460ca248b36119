/-! the class's tape: bytes, words, numbers -/
def TP (W : List Int32) (g : G) : Prop := g 1 1 = nI W.length ∧ W.length ≤ 2000 ∧ byT W ∧ ∀ j, j < W.length → g 2 j = W.getD j 0
def bAt (W : List Int32) (p : Nat) : Int32 := if p < W.length then W.getD p 0 else -1
theorem and255_all : ((List.range 128).all fun n => decide (nI n &&& 255 = nI n)) = true := by decide +kernel
theorem byteAt_n {W : List Int32} {g : G} {p : Nat} (h : TP W g) (hp : p < 2 ^ 31) : k5_byteAt (nI p) g = some (bAt W p) := by
  obtain ⟨h1, h2, h3, h4⟩ := h
  unfold k5_byteAt bAt
  rw [if_neg (nI_pos hp), h1]
  by_cases e : p < W.length
  · rw [if_neg (by rw [nI_leI (by omega) hp]; omega), ld_n (by omega) (by omega), if_pos e, h4 p e]
    obtain ⟨n, hn, en⟩ := h3.at e
    rw [en]
    exact congrArg some (of_decide_eq_true (List.all_eq_true.mp and255_all n (List.mem_range.mpr hn)))
  · rw [if_pos ((nI_leI (by omega) hp).mpr (by omega)), if_neg e]
def letV (b : Int32) : Int32 := if b < 97 then 0 else if 122 < b then 0 else 1
def digV (b : Int32) : Int32 := if b < 48 then 0 else if 57 < b then 0 else 1
def blaV (b : Int32) : Int32 := if b = 32 then 1 else if b = 10 then 1 else 0
theorem k5_let {b : Int32} {g : G} : k5_isLetter b g = some (letV b) := by
  unfold k5_isLetter letV
  split
  · rfl
  · split <;> rfl
theorem k5_dig {b : Int32} {g : G} : k5_isDigit b g = some (digV b) := by
  unfold k5_isDigit digV
  split
  · rfl
  · split <;> rfl
theorem k5_bla {b : Int32} {g : G} : k5_isBlank b g = some (blaV b) := by
  unfold k5_isBlank blaV
  split
  · rfl
  · split <;> rfl
theorem m1_V : letV (-1) = 0 ∧ digV (-1) = 0 ∧ blaV (-1) = 0 := by decide
theorem bAt_end {W : List Int32} {p : Nat} (h : W.length ≤ p) : bAt W p = -1 := if_neg (by omega)
theorem skipB {W : List Int32} {g : G} {p s : Nat} (h : TP W g) (hl : p + s ≤ W.length) (hs : ∀ i, i < s → blaV (bAt W (p + i)) = 1) (he : blaV (bAt W (p + s)) = 0) : ∀ d i f, s = i + d → d < f → k5_skipBlanks_2 g f (nI (p + i)) = some (nI (p + s)) := by
  have h2 := h.2.1
  intro d
  induction d with
  | zero =>
    intro i f hd hf
    obtain ⟨f, rfl⟩ : ∃ z, f = z + 1 := ⟨f - 1, by omega⟩
    obtain rfl : s = i := by omega
    unfold k5_skipBlanks_2
    rw [h.1]
    by_cases e : W.length ≤ p + s
    · rw [if_pos ((nI_leI (by omega) (by omega)).mpr e)]
    · rw [if_neg (by rw [nI_leI (by omega) (by omega)]; exact e), byteAt_n h (by omega), some_bind, k5_bla, some_bind, he, if_pos rfl]
  | succ d ih =>
    intro i f hd hf
    obtain ⟨f, rfl⟩ : ∃ z, f = z + 1 := ⟨f - 1, by omega⟩
    unfold k5_skipBlanks_2
    rw [h.1, if_neg (by rw [nI_leI (by omega) (by omega)]; omega), byteAt_n h (by omega), some_bind, k5_bla, some_bind, hs i (by omega), if_neg (by decide), bd_eq, nI_1]
    exact ih (i + 1) f (by omega) (by omega)
theorem skipD {W : List Int32} {g : G} {p s : Nat} (h : TP W g) (hl : p + s ≤ W.length) (hs : ∀ i, i < s → digV (bAt W (p + i)) = 1) (he : digV (bAt W (p + s)) = 0) : ∀ d i f, s = i + d → d < f → k5_skipDigits_2 g f (nI (p + i)) = some (nI (p + s)) := by
  have h2 := h.2.1
  intro d
  induction d with
  | zero =>
    intro i f hd hf
    obtain ⟨f, rfl⟩ : ∃ z, f = z + 1 := ⟨f - 1, by omega⟩
    obtain rfl : s = i := by omega
    unfold k5_skipDigits_2
    rw [h.1]
    by_cases e : W.length ≤ p + s
    · rw [if_pos ((nI_leI (by omega) (by omega)).mpr e)]
    · rw [if_neg (by rw [nI_leI (by omega) (by omega)]; exact e), byteAt_n h (by omega), some_bind, k5_dig, some_bind, he, if_pos rfl]
  | succ d ih =>
    intro i f hd hf
    obtain ⟨f, rfl⟩ : ∃ z, f = z + 1 := ⟨f - 1, by omega⟩
    unfold k5_skipDigits_2
    rw [h.1, if_neg (by rw [nI_leI (by omega) (by omega)]; omega), byteAt_n h (by omega), some_bind, k5_dig, some_bind, hs i (by omega), if_neg (by decide), bd_eq, nI_1]
    exact ih (i + 1) f (by omega) (by omega)
theorem skipW {W : List Int32} {g : G} {p s : Nat} (h : TP W g) (hl : p + s ≤ W.length) (hs : ∀ i, i < s → letV (bAt W (p + i)) = 1 ∨ (letV (bAt W (p + i)) = 0 ∧ digV (bAt W (p + i)) = 1)) (he : letV (bAt W (p + s)) = 0 ∧ digV (bAt W (p + s)) = 0) : ∀ d i f, s = i + d → d < f → k5_skipLettersAndDigits_2 g f (nI (p + i)) = some (nI (p + s)) := by
  have h2 := h.2.1
  intro d
  induction d with
  | zero =>
    intro i f hd hf
    obtain ⟨f, rfl⟩ : ∃ z, f = z + 1 := ⟨f - 1, by omega⟩
    obtain rfl : s = i := by omega
    unfold k5_skipLettersAndDigits_2
    rw [h.1]
    by_cases e : W.length ≤ p + s
    · rw [if_pos ((nI_leI (by omega) (by omega)).mpr e)]
    · rw [if_neg (by rw [nI_leI (by omega) (by omega)]; exact e), byteAt_n h (by omega), some_bind, k5_let, some_bind, he.1, if_pos rfl, some_bind, k5_dig, some_bind, he.2, if_pos rfl]
  | succ d ih =>
    intro i f hd hf
    obtain ⟨f, rfl⟩ : ∃ z, f = z + 1 := ⟨f - 1, by omega⟩
    unfold k5_skipLettersAndDigits_2
    rw [h.1, if_neg (by rw [nI_leI (by omega) (by omega)]; omega), byteAt_n h (by omega), some_bind, k5_let, some_bind]
    rcases hs i (by omega) with z | ⟨z1, z2⟩
    · rw [z, if_neg (by decide), bd_eq, nI_1]
      exact ih (i + 1) f (by omega) (by omega)
    · rw [z1, if_pos rfl, some_bind, k5_dig, some_bind, z2, if_neg (by decide), bd_eq, nI_1]
      exact ih (i + 1) f (by omega) (by omega)
/-- the word w stands at p -/
def AtW (W : List Int32) (p : Nat) (w : List Int32) : Prop := p + w.length ≤ W.length ∧ ∀ i, i < w.length → bAt W (p + i) = w.getD i 0
/-! keywords -/
theorem chr_all : ((List.range 26).all fun i => (List.range (sL i)).all fun j => decide (((((sB i).getD j 0) &&& 255).toUInt32 % 65536).toInt32 = (sB i).getD j 0 ∧ 0 ≤ (sB i).getD j 0 ∧ (sB i).getD j 0 ≤ 65535)) = true := by decide +kernel
theorem charAt_n {i j : Nat} {g : G} (hi : i < 26) (hj : j < sL i) (hs : sL i < 2 ^ 31) : kJ0_charAt_5068e i (nI j) g = some ((sB i).getD j 0) := by
  obtain ⟨h1, h2, h3⟩ := of_decide_eq_true (List.all_eq_true.mp (List.all_eq_true.mp chr_all i (List.mem_range.mpr hi)) j (List.mem_range.mpr hj))
  have hN : i < NS := by show i < 94; omega
  have hz : zcP ((sB i).getD j 0) = some ((sB i).getD j 0) := if_pos ⟨h2, h3⟩
  unfold kJ0_charAt_5068e kJ0_isLatin1_aae02 kJ1_charAt_3b067 kJ0_checkIndex_df160 kJ3_checkIndex ckS sld
  rw [if_pos hN, if_pos hN, some_bind, if_neg (by decide), if_pos hN, if_pos hN, if_neg (nI_pos (by omega)), if_pos ((nI_ltI (by omega) hs).mpr hj), some_bind, some_bind, if_pos hN, if_neg (nI_in hj hs), nI_clamp (by omega)]
  show (zcP (((((sB i).getD j 0) &&& 255).toUInt32 % 65536).toInt32)).bind (fun u3 => zcP u3) = _
  rw [h1, hz, some_bind, hz]
