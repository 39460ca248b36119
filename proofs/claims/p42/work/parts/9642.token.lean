/-! a word, a number, a symbol is read -/
def g_0 : G := fun _ _ => 0
theorem kw_all : ((List.range 26).all fun i => decide (k6_keyword (nI (128 + i)) g_0 = some i)) = true := by decide +kernel
theorem kw_n {i : Nat} (h : i < 26) (g : G) : k6_keyword (nI (128 + i)) g = some i := by
  have e : k6_keyword (nI (128 + i)) g = k6_keyword (nI (128 + i)) g_0 := rfl
  rw [e]
  exact of_decide_eq_true (List.all_eq_true.mp kw_all i (List.mem_range.mpr h))
theorem word26 {W w : List Int32} {g : G} {p : Nat} (h : TP W g) (ha : AtW W p w) {kd : Nat} : ∀ d i f, 26 = i + d → d + 2 < f → ((∃ s, i ≤ s ∧ s < 26 ∧ sB s = w ∧ kd = 128 + s ∧ ∀ j, j < s → sB j ≠ w) ∨ ((∀ j, j < 26 → sB j ≠ w) ∧ kd = 2)) → k6_readWord_26 f (nI p) (nI (p + w.length)) 2 (nI (128 + i)) g = k6_readWord_67 (nI p) (nI (p + w.length)) (nI kd) g := by
  intro d
  have ha1 := ha.1
  have h2 := h.2.1
  induction d with
  | zero =>
    intro i f hd hf hk
    obtain ⟨f, rfl⟩ : ∃ z, f = z + 1 := ⟨f - 1, by omega⟩
    obtain rfl : 26 = i := by omega
    rcases hk with ⟨s, h1, h2, -⟩ | ⟨-, rfl⟩
    · omega
    · unfold k6_readWord_26
      rw [if_pos (show (153 : Int32) < nI (128 + 26) by decide)]
      rfl
  | succ d ih =>
    intro i f hd hf hk
    obtain ⟨f, rfl⟩ : ∃ z, f = z + 1 := ⟨f - 1, by omega⟩
    have hi : i < 26 := by omega
    unfold k6_readWord_26
    rw [if_neg (by rw [show (153 : Int32) = nI 153 from rfl, nI_ltI (by omega) (by omega)]; omega), if_pos rfl, kw_n hi, some_bind, nI_sub, holds_n h ha hi, some_bind]
    by_cases e : sB i = w
    · have hs : kd = 128 + i := by
        rcases hk with ⟨s, a1, a2, a3, a4, a5⟩ | ⟨a1, -⟩
        · rcases Nat.lt_or_ge i s with z | z
          · exact absurd e (a5 i z)
          · omega
        · exact absurd e (a1 i hi)
      rw [if_pos e, if_neg (by decide), bd_eq, hs, nI_1]
      obtain ⟨f, rfl⟩ : ∃ z, f = z + 1 := ⟨f - 1, by omega⟩
      unfold k6_readWord_26
      by_cases z : (153 : Int32) < nI (128 + i + 1)
      · rw [if_pos z]
      · rw [if_neg z, if_neg (by rw [show (2 : Int32) = nI 2 from rfl, nI_eq (by omega) (by omega)]; omega)]
    · rw [if_neg e, if_pos rfl, bd_eq, nI_1]
      refine ih (i + 1) f (by omega) (by omega) ?_
      rcases hk with ⟨s, a1, a2, a3, a4, a5⟩ | z
      · refine Or.inl ⟨s, ?_, a2, a3, a4, a5⟩
        rcases Nat.lt_or_ge i s with z | z
        · omega
        · exact absurd (by rw [show i = s by omega]; exact a3) e
      · exact Or.inr z
def symL : List Nat := [40, 41, 91, 93, 59, 44, 43, 45, 42, 47, 60, 62, 61]
/-- words that are tokens -/
def GK (x : It) : Prop := (∃ s, s < 26 ∧ x = (128 + s, sB s)) ∨ (∃ n, n < 10 ∧ x = nmI n) ∨ x = (2, [97]) ∨ x = (2, [98]) ∨ (∃ n, n < 1000000 ∧ x = numI n) ∨ (∃ b, b ∈ symL ∧ x = (b, [nI b])) ∨ x = (4, [60, 61]) ∨ x = (5, [62, 61])
def isW (k : Nat) : Prop := k = 2 ∨ k = 3 ∨ (128 ≤ k ∧ k < 154)
/-- the byte behind a word -/
def nextOK (k : Nat) (b : Int32) : Prop := (isW k → letV b = 0 ∧ digV b = 0) ∧ (k = 60 ∨ k = 62 → b ≠ 61)
def vI (x : It) : Int32 := if x.1 = 3 then x.2.foldl (fun a b => a * 10 + (b - 48)) 0 else 0
def wOK (w : List Int32) : Bool := decide (1 ≤ w.length ∧ w.length ≤ 10 ∧ letV (w.getD 0 0) = 1) && (List.range w.length).all fun i => decide (letV (w.getD i 0) = 1 ∨ (letV (w.getD i 0) = 0 ∧ digV (w.getD i 0) = 1))
theorem kws_all : ((List.range 26).all fun s => wOK (sB s) && (List.range 26).all fun j => decide (sB j = sB s → j = s)) = true := by decide +kernel
theorem nms_all : ((List.range 10).all fun n => wOK (109 :: dc n) && (List.range 26).all fun j => decide (sB j ≠ 109 :: dc n)) = true := by decide +kernel
theorem ab_all : (wOK [97] && wOK [98]) = true ∧ ((List.range 26).all fun j => decide (sB j ≠ [97] ∧ sB j ≠ [98])) = true := ⟨by decide +kernel, by decide +kernel⟩
theorem word_tok {W w : List Int32} {g : G} {p k kd : Nat} (h : TP W g) (ha : AtW W p w) (hw : wOK w = true) (hk : (∃ s, s < 26 ∧ sB s = w ∧ kd = 128 + s ∧ ∀ j, j < s → sB j ≠ w) ∨ ((∀ j, j < 26 → sB j ≠ w) ∧ kd = 2)) (hn : letV (bAt W (p + w.length)) = 0 ∧ digV (bAt W (p + w.length)) = 0) (h3 : g 3 5 = nI k) (hk4 : k ≤ 400) : ∃ g', k6_readToken (nI p) g = some (nI (p + w.length), g') ∧ tokE g g' k kd p w.length 0 := by
  have h2 := h.2.1
  have ha1 := ha.1
  unfold wOK at hw
  rw [Bool.and_eq_true] at hw
  obtain ⟨w1, w2⟩ := hw
  obtain ⟨w3, w4, w5⟩ := of_decide_eq_true w1
  have hb0 : bAt W p = w.getD 0 0 := ha.2 0 (by omega)
  have hs : k5_skipLettersAndDigits (nI p) g = some (nI (p + w.length)) := by
    have := skipW h ha1 (fun i hi => by
      rw [ha.2 i hi]
      exact of_decide_eq_true (List.all_eq_true.mp w2 i (List.mem_range.mpr hi))) hn w.length 0 FU (by omega) (by unfold FU; omega)
    exact this
  have hkd : kd < 154 := by
    rcases hk with ⟨s, a1, -, a3, -⟩ | ⟨-, a⟩ <;> omega
  refine ⟨addT k (nI kd) (nI p) (nI w.length) g, ?_, addT_E⟩
  unfold k6_readToken
  rw [byteAt_n h (by omega), some_bind, k5_let, some_bind, hb0, w5, if_neg (by decide)]
  have e : k6_readWord (nI p) g = some (nI (p + w.length), addT k (nI kd) (nI p) (nI w.length) g) := by
    unfold k6_readWord
    rw [hs, some_bind, nI_sub, if_pos (by rw [show (10 : Int32) = nI 10 from rfl, nI_leI (by omega) (by omega)]; exact w4)]
    have := word26 h ha (kd := kd) 26 0 FU (by omega) (by unfold FU; omega) (hk.imp (fun ⟨s, a1, a2, a3, a4⟩ => ⟨s, Nat.zero_le _, a1, a2, a3, a4⟩) id)
    refine Eq.trans this ?_
    unfold k6_readWord_67
    rw [k6_add_n hk4 h3, nI_sub, some_bind]
  rw [e, some_bind]
theorem foldN {w : List Int32} {b : Int32} : (w ++ [b]).foldl (fun a b => a * 10 + (b - 48)) 0 = w.foldl (fun a b => a * 10 + (b - 48)) 0 * 10 + (b - 48) := by
  rw [List.foldl_append]
  rfl
theorem nI48 {d : Nat} : nI (48 + d) - 48 = nI d := nI_sub (a := 48)
theorem decF_val : ∀ f n, n < 10 ^ f → n < 2 ^ 31 → (decF f n).foldl (fun a b => a * 10 + (b - 48)) 0 = nI n := by
  intro f
  induction f with
  | zero =>
    intro n h h2
    have : n = 0 := by
      have h : n < 1 := h
      omega
    rw [this]
    rfl
  | succ f ih =>
    intro n h h2
    show (if n < 10 then [nI (48 + n)] else decF f (n / 10) ++ [nI (48 + n % 10)]).foldl (fun a b => a * 10 + (b - 48)) 0 = nI n
    by_cases e : n < 10
    · rw [if_pos e]
      show 0 * 10 + (nI (48 + n) - 48) = nI n
      rw [nI48, Int32.zero_mul, Int32.zero_add]
    · rw [if_neg e, foldN, ih (n / 10) (by rw [Nat.pow_succ] at h; omega) (by omega), nI48]
      have e1 : nI (n / 10) * 10 = nI (n / 10 * 10) := (Int32.ofNat_mul (n / 10) 10).symm
      rw [e1, nI_plus]
      congr 1
      omega
theorem dc_val {n : Nat} (h : n < 1000000) : (dc n).foldl (fun a b => a * 10 + (b - 48)) 0 = nI n := decF_val 7 n (by omega) (by omega)
def isDg (w : List Int32) : Prop := ∀ b, b ∈ w → digV b = 1 ∧ letV b = 0
theorem dg_all : ((List.range 10).all fun d => decide (digV (nI (48 + d)) = 1 ∧ letV (nI (48 + d)) = 0)) = true := by decide +kernel
theorem decF_dg : ∀ f n, isDg (decF f n) := by
  intro f
  induction f with
  | zero => intro n b hb; cases hb
  | succ f ih =>
    intro n b hb
    have hd : ∀ d, d < 10 → digV (nI (48 + d)) = 1 ∧ letV (nI (48 + d)) = 0 := fun d hd => of_decide_eq_true (List.all_eq_true.mp dg_all d (List.mem_range.mpr hd))
    have hb : b ∈ (if n < 10 then [nI (48 + n)] else decF f (n / 10) ++ [nI (48 + n % 10)]) := hb
    by_cases e : n < 10
    · rw [if_pos e] at hb
      rw [List.mem_singleton.mp hb]
      exact hd n e
    · rw [if_neg e] at hb
      rcases List.mem_append.mp hb with z | z
      · exact ih _ b z
      · rw [List.mem_singleton.mp z]
        exact hd _ (by omega)
theorem isDg.at' {w : List Int32} (h : isDg w) {i : Nat} (hi : i < w.length) : digV (w.getD i 0) = 1 ∧ letV (w.getD i 0) = 0 := by
  rw [List.getD_eq_getElem?_getD, List.getElem?_eq_getElem hi]
  exact h _ (List.getElem_mem hi)
theorem take_succ' {w : List Int32} {i : Nat} (h : i < w.length) : w.take (i + 1) = w.take i ++ [w.getD i 0] := by
  rw [List.getD_eq_getElem?_getD, List.getElem?_eq_getElem h]
  exact List.take_succ_eq_append_getElem h
theorem num24 {W w : List Int32} {g : G} {p k : Nat} (h : TP W g) (ha : AtW W p w) (h3 : g 3 5 = nI k) (hk4 : k ≤ 400) : ∀ d i f, w.length = i + d → d < f → k6_readNumber_24 f (nI p) (nI (p + w.length)) ((w.take i).foldl (fun a b => a * 10 + (b - 48)) 0) (nI (p + i)) g = some (nI (p + w.length), up (addT k (nI 3) (nI p) (nI w.length) g) 7 k (w.foldl (fun a b => a * 10 + (b - 48)) 0)) := by
  intro d
  have h2 := h.2.1
  have ha1 := ha.1
  induction d with
  | zero =>
    intro i f hd hf
    obtain ⟨f, rfl⟩ : ∃ z, f = z + 1 := ⟨f - 1, by omega⟩
    obtain rfl : w.length = i := by omega
    unfold k6_readNumber_24
    have e3 : (3 : Int32) = nI 3 := rfl
    rw [if_pos (Int32.le_refl _), e3, k6_add_n hk4 h3, nI_sub, some_bind, List.take_length]
    have e5 : (addT k (nI 3) (nI p) (nI w.length) g) 3 5 = nI (k + 1) := addT_E.2.2.1
    have e6 : nI (k + 1) - 1 = nI k := nI_pred k
    unfold k6_setValue
    rw [e5, e6, if_neg (nI_pos (by omega)), if_neg (by rw [nI_leI (by omega) (by omega)]; omega), sto_n (by omega) (by omega), some_bind]
  | succ d ih =>
    intro i f hd hf
    obtain ⟨f, rfl⟩ : ∃ z, f = z + 1 := ⟨f - 1, by omega⟩
    unfold k6_readNumber_24
    rw [if_neg (by rw [nI_leI (by omega) (by omega)]; omega), byteAt_n h (by omega), some_bind, ha.2 i (by omega), bd_eq, bd_eq, nI_1]
    have := ih (i + 1) f (by omega) (by omega)
    rw [take_succ' (by omega), foldN] at this
    exact this
theorem num_tok {W : List Int32} {g : G} {p k n : Nat} (h : TP W g) (ha : AtW W p (dc n)) (hn6 : n < 1000000) (hn : digV (bAt W (p + (dc n).length)) = 0) (h3 : g 3 5 = nI k) (hk4 : k ≤ 400) : ∃ g', k6_readToken (nI p) g = some (nI (p + (dc n).length), g') ∧ tokE g g' k 3 p (dc n).length (nI n) := by
  have h2 := h.2.1
  have ha1 := ha.1
  have hl := dc_len hn6
  have hdg : isDg (dc n) := decF_dg 7 n
  have hs : k5_skipDigits (nI p) g = some (nI (p + (dc n).length)) := by
    have := skipD h ha1 (fun i hi => by
      rw [ha.2 i hi]
      exact (hdg.at' hi).1) hn (dc n).length 0 FU (by omega) (by unfold FU; omega)
    exact this
  have hb0 : bAt W p = (dc n).getD 0 0 := ha.2 0 (by omega)
  obtain ⟨b1, b2⟩ := hdg.at' (i := 0) (by omega)
  refine ⟨up (addT k (nI 3) (nI p) (nI (dc n).length) g) 7 k (nI n), ?_, setT_E⟩
  unfold k6_readToken
  rw [byteAt_n h (by omega), some_bind, k5_let, some_bind, hb0, b2, if_pos rfl, k5_dig, some_bind, b1, if_neg (by decide)]
  have e : k6_readNumber (nI p) g = some (nI (p + (dc n).length), up (addT k (nI 3) (nI p) (nI (dc n).length) g) 7 k (nI n)) := by
    unfold k6_readNumber
    rw [hs, some_bind, nI_sub, if_pos (by rw [show (6 : Int32) = nI 6 from rfl, nI_leI (by omega) (by omega)]; omega)]
    have := num24 h ha h3 hk4 (dc n).length 0 FU (by omega) (by unfold FU; omega)
    rw [dc_val hn6] at this
    exact this
  rw [e, some_bind]
