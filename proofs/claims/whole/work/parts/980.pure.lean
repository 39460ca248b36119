/-! teach: the bytes of the tape, as both read them -/
def TapeC (T : Nat) (B : Nat → Int32) (g : G) : Prop := g 1 1 = nI T ∧ ∀ p, p < T → g 2 p &&& 255 = B p ∧ g 2 p = (B p).toInt8.toInt32
def TapeM (T : Nat) (B : Nat → Int32) (g : G) : Prop := g 47 2 = nI T ∧ ∀ p, p < T → g 48 p = B p
def Bok (T : Nat) (B : Nat → Int32) : Prop := T ≤ 2000 ∧ (∀ p, p < T → ∃ x, x < 256 ∧ B p = nI x) ∧ ∀ p, T ≤ p → B p = -1
theorem byte_and : ((List.range 256).all fun x => decide ((nI x).toInt8.toInt32 &&& 255 = nI x)) = true := by decide +kernel
theorem RelT.tape {g : G} (h : RelT g) : ∃ T B, Bok T B ∧ TapeC T B g ∧ TapeM T B g := by
  obtain ⟨T, t1, t2, t3, t4⟩ := h
  refine ⟨T, fun p => if p < T then g 48 p else -1, ⟨t1, fun p hp => ?_, fun p hp => if_neg (by omega)⟩, ⟨t2, fun p hp => ?_⟩, t3, fun p hp => (if_pos hp).symm⟩
  · obtain ⟨x, x1, x2, -⟩ := t4 p hp
    exact ⟨x, x1, by dsimp only; rw [if_pos hp, x2]⟩
  · obtain ⟨x, x1, x2, x3⟩ := t4 p hp
    dsimp only
    rw [if_pos hp, x3, x2]
    exact ⟨of_decide_eq_true (List.all_eq_true.mp byte_and x (List.mem_range.mpr x1)), rfl⟩
theorem byteC {T p : Nat} {B : Nat → Int32} {g : G} (hB : Bok T B) (h : TapeC T B g) (hp : p < 2 ^ 31) : k5_byteAt (nI p) g = some (B p) := by
  have hT := hB.1
  unfold k5_byteAt
  rw [if_neg (nI_pos hp), h.1]
  by_cases e : p < T
  · rw [if_neg (by rw [nI_leI (by omega) hp]; omega), ld_n (by omega) (by omega), (h.2 p e).1]
  · rw [if_pos (by rw [nI_leI (by omega) hp]; omega), hB.2.2 p (by omega)]
theorem byteM {T p : Nat} {B : Nat → Int32} {g : G} (hB : Bok T B) (h : TapeM T B g) (hp : p < 2 ^ 31) : k11_byteAt (nI p) g = some (B p) := by
  have hT := hB.1
  unfold k11_byteAt
  rw [h.1]
  by_cases e : p < T
  · rw [if_neg (by rw [nI_leI (by omega) hp]; omega), ld_n (by omega) (by omega), h.2 p e]
  · rw [if_pos (by rw [nI_leI (by omega) hp]; omega), hB.2.2 p (by omega)]
/-! signs -/
def letV (b : Int32) : Int32 := if b < 97 then 0 else if 122 < b then 0 else 1
def digV (b : Int32) : Int32 := if b < 48 then 0 else if 57 < b then 0 else 1
theorem letV_01 (b : Int32) : letV b = 0 ∨ letV b = 1 := by
  unfold letV
  split
  · exact Or.inl rfl
  · split
    · exact Or.inl rfl
    · exact Or.inr rfl
theorem digV_01 (b : Int32) : digV b = 0 ∨ digV b = 1 := by
  unfold digV
  split
  · exact Or.inl rfl
  · split
    · exact Or.inl rfl
    · exact Or.inr rfl
theorem k5_let {b : Int32} {g : G} : k5_isLetter b g = some (letV b) := by
  unfold k5_isLetter letV
  split
  · rfl
  · split <;> rfl
theorem k5_dig {b : Int32} {g : G} : k5_isDigit b g = some (digV b) := by
  unfold k5_isDigit digV
  split
  · rfl
  · split <;> rfl
theorem k11_let {b : Int32} {g : G} : k11_isLetter b g = some (letV b) := by
  unfold k11_isLetter
  rw [k11_isIn_n, some_bind]
  exact if_pos (letV_01 b)
theorem k11_dig {b : Int32} {g : G} : k11_isDigit b g = some (digV b) := by
  unfold k11_isDigit
  rw [k11_isIn_n, some_bind]
  exact if_pos (digV_01 b)
theorem Bok.end {T p : Nat} {B : Nat → Int32} (hB : Bok T B) (hp : T ≤ p) : B p = -1 := hB.2.2 p hp
/-- blanks passed over -/
theorem skip2 {T : Nat} {B : Nat → Int32} (hB : Bok T B) : ∀ (d p : Nat), T = p + d → ∃ q, p ≤ q ∧ q ≤ T ∧ (∀ gc f, TapeC T B gc → d < f → k5_skipBlanks_2 gc f (nI p) = some (nI q)) ∧ (∀ gm f, TapeM T B gm → d < f → k11_skip_2 gm f (nI p) = some (nI q)) := by
  have hT := hB.1
  intro d
  induction d with
  | zero =>
    intro p hd
    obtain rfl : T = p := by omega
    refine ⟨T, Nat.le_refl _, Nat.le_refl _, fun gc f hc hf => ?_, fun gm f hm hf => ?_⟩
    · obtain ⟨f, rfl⟩ : ∃ z, f = z + 1 := ⟨f - 1, by omega⟩
      unfold k5_skipBlanks_2
      rw [hc.1, if_pos (by rw [nI_leI (by omega) (by omega)]; omega)]
    · obtain ⟨f, rfl⟩ : ∃ z, f = z + 1 := ⟨f - 1, by omega⟩
      unfold k11_skip_2
      rw [byteM hB hm (by omega), some_bind, hB.end (Nat.le_refl _), if_neg (by decide), some_bind, if_neg (by decide)]
  | succ d ih =>
    intro p hd
    by_cases e : B p = 32 ∨ B p = 10
    · obtain ⟨q, q1, q2, q3, q4⟩ := ih (p + 1) (by omega)
      refine ⟨q, by omega, q2, fun gc f hc hf => ?_, fun gm f hm hf => ?_⟩
      · obtain ⟨f, rfl⟩ : ∃ z, f = z + 1 := ⟨f - 1, by omega⟩
        rw [← q3 gc f hc (by omega)]
        conv => lhs; unfold k5_skipBlanks_2 k5_isBlank
        rw [hc.1, if_neg (by rw [nI_leI (by omega) (by omega)]; omega), byteC hB hc (by omega), some_bind]
        rcases e with e | e
        · rw [e, if_pos rfl, some_bind, if_neg (by decide), bd_eq, nI_1]
        · rw [e, if_neg (by decide), if_pos rfl, some_bind, if_neg (by decide), bd_eq, nI_1]
      · obtain ⟨f, rfl⟩ : ∃ z, f = z + 1 := ⟨f - 1, by omega⟩
        rw [← q4 gm f hm (by omega)]
        conv => lhs; unfold k11_skip_2
        rw [byteM hB hm (by omega), some_bind]
        rcases e with e | e
        · rw [e, if_pos rfl, bd_eq, nI_1]
        · rw [e, if_neg (by decide), some_bind, if_pos rfl, bd_eq, nI_1]
    · have e1 : ¬ B p = 32 := fun z => e (Or.inl z)
      have e2 : ¬ B p = 10 := fun z => e (Or.inr z)
      refine ⟨p, Nat.le_refl _, by omega, fun gc f hc hf => ?_, fun gm f hm hf => ?_⟩
      · obtain ⟨f, rfl⟩ : ∃ z, f = z + 1 := ⟨f - 1, by omega⟩
        unfold k5_skipBlanks_2 k5_isBlank
        rw [hc.1, if_neg (by rw [nI_leI (by omega) (by omega)]; omega), byteC hB hc (by omega), some_bind, if_neg e1, if_neg e2, some_bind, if_pos rfl]
      · obtain ⟨f, rfl⟩ : ∃ z, f = z + 1 := ⟨f - 1, by omega⟩
        unfold k11_skip_2
        rw [byteM hB hm (by omega), some_bind, if_neg e1, some_bind, if_neg e2]
/-! words -/
def chr (i j : Nat) : Int32 := ((((sB i).getD j 0) &&& 255).toUInt32 % 65536).toInt32
theorem chr_ok : ((List.range 54).all fun i => (List.range (sL i)).all fun j => decide (0 ≤ chr i j ∧ chr i j ≤ 65535)) = true := by decide +kernel
theorem words_same : ((List.range 26).all fun i => decide (sL (28 + i) = sL i ∧ sL i ≤ 10) && (List.range (sL i)).all fun j => decide (chr (28 + i) j = chr i j)) = true := by decide +kernel
theorem charAt_n {i j : Nat} {g : G} (hi : i < 54) (hj : j < sL i) (hs : sL i < 2 ^ 31) : kJ0_charAt_5068e i (nI j) g = some (chr i j) := by
  have h := of_decide_eq_true (List.all_eq_true.mp (List.all_eq_true.mp chr_ok i (List.mem_range.mpr hi)) j (List.mem_range.mpr hj))
  have hz : zcP (chr i j) = some (chr i j) := if_pos h
  have hN : i < NS := by show i < 65; omega
  unfold kJ0_charAt_5068e kJ0_isLatin1_aae02 kJ1_charAt_3b067 kJ0_checkIndex_df160 kJ3_checkIndex ckS sld
  rw [if_pos hN, if_pos hN, some_bind, if_neg (by decide), if_pos hN, if_pos hN, if_neg (nI_pos (by omega)), if_pos ((nI_ltI (by omega) hs).mpr hj), some_bind, some_bind, if_pos hN, if_neg (nI_in hj hs), nI_clamp (by omega)]
  show (zcP (chr i j)).bind (fun u3 => zcP u3) = _
  rw [hz, some_bind, hz]
theorem length_n {i : Nat} {g : G} (hi : i < 54) : kJ0_length_8abf5 i g = some (nI (sL i)) := by
  have hN : i < NS := by show i < 65; omega
  unfold kJ0_length_8abf5 kJ0_coder_7d493 ckS
  rw [if_pos hN, if_pos hN, if_pos hN, if_pos hN, some_bind, show ((0 : Int32) &&& 31) = 0 from rfl]
  congr 1
  exact Int32.shiftRight_zero
/-- the word i stands at p, z signs long: how far both look -/
theorem text2 {T p i : Nat} {B : Nat → Int32} (hB : Bok T B) (hi : i < 26) : ∀ (d j : Nat), sL i = j + d → p + sL i ≤ T → ∃ u : Int32, (u = 0 ∨ u = 1) ∧ (∀ gc f, TapeC T B gc → d < f → k5_holdsText_13 gc f i (nI p) (nI (sL i)) (nI j) = some u) ∧ (∀ gm f, TapeM T B gm → d < f → k11_isWord_13 gm f (nI p) (nI (sL i)) (28 + i) (nI j) = some u) := by
  have hT := hB.1
  have hw := List.all_eq_true.mp words_same i (List.mem_range.mpr hi)
  rw [Bool.and_eq_true] at hw
  obtain ⟨w1, w2⟩ := hw
  obtain ⟨w0, w10⟩ := of_decide_eq_true w1
  have hch : ∀ j, j < sL i → chr (28 + i) j = chr i j := fun j hj => of_decide_eq_true (List.all_eq_true.mp w2 j (List.mem_range.mpr hj))
  have hN : ∀ i, i < 54 → ∀ {ρ : Type} (x : Option ρ), ckS i x = x := fun i hi ρ x => if_pos (show i < 65 by omega)
  intro d
  induction d with
  | zero =>
    intro j hd hp
    refine ⟨1, Or.inr rfl, fun gc f hc hf => ?_, fun gm f hm hf => ?_⟩
    · obtain ⟨f, rfl⟩ : ∃ z, f = z + 1 := ⟨f - 1, by omega⟩
      unfold k5_holdsText_13
      rw [if_pos (by rw [nI_leI (by omega) (by omega)]; omega)]
    · obtain ⟨f, rfl⟩ : ∃ z, f = z + 1 := ⟨f - 1, by omega⟩
      unfold k11_isWord_13
      rw [if_pos (by rw [nI_leI (by omega) (by omega)]; omega)]
  | succ d ih =>
    intro j hd hp
    by_cases e : B (p + j) = chr i j
    · obtain ⟨u, u1, u2, u3⟩ := ih (j + 1) (by omega) hp
      refine ⟨u, u1, fun gc f hc hf => ?_, fun gm f hm hf => ?_⟩
      · obtain ⟨f, rfl⟩ : ∃ z, f = z + 1 := ⟨f - 1, by omega⟩
        unfold k5_holdsText_13
        rw [if_neg (by rw [nI_leI (by omega) (by omega)]; omega), nI_add, byteC hB hc (by omega), some_bind, hN i (by omega), charAt_n (by omega) (by omega) (by omega), some_bind, if_pos e, bd_eq, nI_1]
        exact u2 gc f hc (by omega)
      · obtain ⟨f, rfl⟩ : ∃ z, f = z + 1 := ⟨f - 1, by omega⟩
        unfold k11_isWord_13
        rw [if_neg (by rw [nI_leI (by omega) (by omega)]; omega), hN (28 + i) (by omega), charAt_n (by omega) (by omega) (by omega), some_bind, nI_add, ld_n (by omega) (by omega), hm.2 _ (by omega), hch j (by omega), if_pos e.symm, bd_eq, nI_1]
        exact u3 gm f hm (by omega)
    · refine ⟨0, Or.inl rfl, fun gc f hc hf => ?_, fun gm f hm hf => ?_⟩
      · obtain ⟨f, rfl⟩ : ∃ z, f = z + 1 := ⟨f - 1, by omega⟩
        unfold k5_holdsText_13
        rw [if_neg (by rw [nI_leI (by omega) (by omega)]; omega), nI_add, byteC hB hc (by omega), some_bind, hN i (by omega), charAt_n (by omega) (by omega) (by omega), some_bind, if_neg e]
      · obtain ⟨f, rfl⟩ : ∃ z, f = z + 1 := ⟨f - 1, by omega⟩
        unfold k11_isWord_13
        rw [if_neg (by rw [nI_leI (by omega) (by omega)]; omega), hN (28 + i) (by omega), charAt_n (by omega) (by omega) (by omega), some_bind, nI_add, ld_n (by omega) (by omega), hm.2 _ (by omega), hch j (by omega), if_neg (fun z => e z.symm)]
theorem word2 {T p z i : Nat} {B : Nat → Int32} (hB : Bok T B) (hi : i < 26) (hp : p + z ≤ T) : ∃ u : Int32, (u = 0 ∨ u = 1) ∧ (10 < z → u = 0) ∧ (∀ gc, TapeC T B gc → k5_holdsText i (nI p) (nI z) gc = some u) ∧ (∀ gm, TapeM T B gm → k11_isWord (nI p) (nI z) (28 + i) gm = some u) := by
  have hT := hB.1
  have hw := List.all_eq_true.mp words_same i (List.mem_range.mpr hi)
  rw [Bool.and_eq_true] at hw
  obtain ⟨w0, w10⟩ := of_decide_eq_true hw.1
  have hN : ∀ i, i < 54 → ∀ {ρ : Type} (x : Option ρ), ckS i x = x := fun i hi ρ x => if_pos (show i < 65 by omega)
  by_cases e : sL i = z
  · subst e
    obtain ⟨u, u1, u2, u3⟩ := text2 (p := p) hB hi (sL i) 0 (by omega) hp
    refine ⟨u, u1, fun _ => by omega, fun gc hc => ?_, fun gm hm => ?_⟩
    · unfold k5_holdsText
      rw [hN i (by omega), length_n (by omega), some_bind, if_pos rfl]
      exact u2 gc FU hc (by unfold FU; omega)
    · unfold k11_isWord
      rw [hN (28 + i) (by omega), length_n (by omega), some_bind, w0, if_pos rfl]
      exact u3 gm FU hm (by unfold FU; omega)
  · have ne : ¬ nI (sL i) = nI z := fun q => e ((nI_eq (by omega) (by omega)).mp q)
    refine ⟨0, Or.inl rfl, fun _ => rfl, fun gc hc => ?_, fun gm hm => ?_⟩
    · unfold k5_holdsText
      rw [hN i (by omega), length_n (by omega), some_bind, if_neg ne]
    · unfold k11_isWord
      rw [hN (28 + i) (by omega), length_n (by omega), some_bind, w0, if_neg ne]
