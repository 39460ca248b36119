/-! numbers are appended -/
def decF : Nat → Nat → List Int32
  | 0, _ => []
  | f + 1, n => if n < 10 then [nI (48 + n)] else decF f (n / 10) ++ [nI (48 + n % 10)]
def dc (n : Nat) : List Int32 := decF 7 n
theorem decF_fuel : ∀ f n, n < 10 ^ (f + 1) → decF (f + 2) n = decF (f + 1) n := by
  intro f
  induction f with
  | zero =>
    intro n h
    have h : n < 10 := h
    show (if n < 10 then _ else _) = (if n < 10 then _ else _)
    rw [if_pos h, if_pos h]
  | succ f ih =>
    intro n h
    show (if n < 10 then [nI (48 + n)] else decF (f + 2) (n / 10) ++ [nI (48 + n % 10)]) = (if n < 10 then [nI (48 + n)] else decF (f + 1) (n / 10) ++ [nI (48 + n % 10)])
    rw [ih (n / 10) (by
      rw [Nat.pow_succ] at h
      omega)]
theorem dec_5 {q : Nat} (h : q < 10000) : decF 5 q = dc q := by
  unfold dc
  rw [decF_fuel 5 q (by omega), decF_fuel 4 q (by omega)]
theorem dc_100 {m : Nat} (h : 100 ≤ m) (h2 : m < 1000000) : dc m = dc (m / 100) ++ [nI (48 + m % 100 / 10), nI (48 + m % 100 % 10)] := by
  rw [← dec_5 (q := m / 100) (by omega)]
  show (if m < 10 then _ else decF 6 (m / 10) ++ _) = _
  rw [if_neg (by omega)]
  show (if m / 10 < 10 then _ else decF 5 (m / 10 / 10) ++ _) ++ _ = _
  rw [if_neg (by omega), List.append_assoc, Nat.div_div_eq_div_mul]
  congr 1
  show [nI (48 + m / 10 % 10), nI (48 + m % 10)] = _
  rw [show m / 10 % 10 = m % 100 / 10 by omega, show m % 10 = m % 100 % 10 by omega]
theorem dc_lo {m : Nat} (h : m < 10) : dc m = [nI (48 + m)] := if_pos h
theorem dc_mid {m : Nat} (h : 10 ≤ m) (h2 : m < 100) : dc m = [nI (48 + m / 10), nI (48 + m % 10)] := by
  show (if m < 10 then _ else decF 6 (m / 10) ++ _) = _
  rw [if_neg (by omega)]
  show (if m / 10 < 10 then [nI (48 + m / 10)] else _) ++ _ = _
  rw [if_pos (by omega)]
  rfl
theorem dc_len : ∀ {m : Nat}, m < 1000000 → 1 ≤ (dc m).length ∧ (dc m).length ≤ 6 ∧ (dc m).length = (if m < 10 then 1 else if m < 100 then 2 else if m < 1000 then 3 else if m < 10000 then 4 else if m < 100000 then 5 else 6) := by
  intro m h
  have l2 : ∀ q, q < 100 → (dc q).length = if q < 10 then 1 else 2 := by
    intro q hq
    by_cases e : q < 10
    · rw [dc_lo e, if_pos e]; rfl
    · rw [dc_mid (by omega) hq, if_neg e]; rfl
  have l4 : ∀ q, q < 10000 → (dc q).length = if q < 10 then 1 else if q < 100 then 2 else if q < 1000 then 3 else 4 := by
    intro q hq
    by_cases e : q < 100
    · rw [l2 q e]
      by_cases e2 : q < 10
      · rw [if_pos e2, if_pos e2]
      · rw [if_neg e2, if_neg e2, if_pos e]
    · rw [dc_100 (by omega) (by omega), List.length_append, l2 _ (show q / 100 < 100 by omega)]
      rw [if_neg (show ¬ q < 10 by omega), if_neg e]
      by_cases e2 : q < 1000
      · rw [if_pos e2, if_pos (show q / 100 < 10 by omega)]; rfl
      · rw [if_neg e2, if_neg (show ¬ q / 100 < 10 by omega)]; rfl
  have key : (dc m).length = (if m < 10 then 1 else if m < 100 then 2 else if m < 1000 then 3 else if m < 10000 then 4 else if m < 100000 then 5 else 6) := by
    by_cases e : m < 10000
    · rw [l4 m e]
      rw [if_pos e]
    · rw [dc_100 (by omega) (by omega), List.length_append, l4 _ (show m / 100 < 10000 by omega), if_neg (show ¬ m / 100 < 10 by omega), if_neg (show ¬ m < 10 by omega), if_neg (show ¬ m < 100 by omega), if_neg (show ¬ m < 1000 by omega), if_neg e]
      by_cases e2 : m < 100000
      · rw [if_pos e2]
        rw [if_neg (show ¬ m / 100 < 100 by omega), if_pos (show m / 100 < 1000 by omega)]; rfl
      · rw [if_neg e2]
        rw [if_neg (show ¬ m / 100 < 100 by omega), if_neg (show ¬ m / 100 < 1000 by omega)]; rfl
  rw [key]
  refine ⟨?_, ?_, rfl⟩
  · repeat' split
    all_goals omega
  · repeat' split
    all_goals omega
theorem dig_n (d : Nat) (h : d < 10) : (nI (48 + d)).toInt8.toInt32 = nI (48 + d) ∧ fitB (nI (48 + d)) = true := by
  have all : ((List.range 10).all fun d => decide ((nI (48 + d)).toInt8.toInt32 = nI (48 + d) ∧ fitB (nI (48 + d)) = true)) = true := by decide +kernel
  exact of_decide_eq_true (List.all_eq_true.mp all d (List.mem_range.mpr h))
theorem dcF_by : ∀ f m, byT (decF f m) := by
  intro f
  induction f with
  | zero => intro m; exact byT.nil
  | succ f ih =>
    intro m b hb
    have hb : b ∈ (if m < 10 then [nI (48 + m)] else decF f (m / 10) ++ [nI (48 + m % 10)]) := hb
    by_cases e : m < 10
    · rw [if_pos e] at hb
      exact ⟨48 + m, by omega, List.mem_singleton.mp hb⟩
    · rw [if_neg e] at hb
      rcases List.mem_append.mp hb with h | h
      · exact ih _ b h
      · exact ⟨48 + m % 10, by omega, List.mem_singleton.mp h⟩
theorem dc_by {m : Nat} : byT (dc m) := dcF_by 7 m
theorem nI_neg {a : Nat} (h : a < 2 ^ 31) : (-nI a).toInt = -(a : Int) := by
  rw [Int32.toInt_neg, nI_toInt h, Int.bmod_eq_of_le (by omega) (by omega)]
theorem neg_le {a b : Nat} (ha : a < 2 ^ 31) (hb : b < 2 ^ 31) : -nI a ≤ -nI b ↔ b ≤ a := by
  rw [Int32.le_iff_toInt_le, nI_neg ha, nI_neg hb]
  omega
theorem neg_lt {a b : Nat} (ha : a < 2 ^ 31) (hb : b < 2 ^ 31) : -nI a < -nI b ↔ b < a := by
  rw [Int32.lt_iff_toInt_lt, nI_neg ha, nI_neg hb]
  omega
theorem mul10 {p : Nat} : 10 * -nI p = -nI (10 * p) := by
  rw [Int32.mul_neg, show (10 : Int32) = nI 10 from rfl]
  congr 1
  exact (Int32.ofNat_mul 10 p).symm
theorem size_step {n p d f : Nat} {S : ZS} (hn : n < 2 ^ 31) (hp : p < 2 ^ 31) (hd : d < 10) : kJ6_stringSize_0f7a4_16 (f + 1) (-nI n) 0 (-nI p) (nI d) S = if p ≤ n then kJ6_stringSize_0f7a4_16 f (-nI n) 0 (-nI (10 * p)) (nI (d + 1)) S else some (nI d, S) := by
  rw [kJ6_stringSize_0f7a4_16]
  rw [if_neg (by rw [show (10 : Int32) = nI 10 from rfl, nI_leI (by omega) (by omega)]; omega), bd_eq, bd_eq, mul10, nI_1, Int32.add_zero]
  by_cases e : p ≤ n
  · rw [if_pos ((neg_le hn hp).mpr e), if_pos e]
  · rw [if_neg (fun z => e ((neg_le hn hp).mp z)), if_neg e]
theorem k_size {n : Nat} {S : ZS} (hn : n < 1000000) : kJ6_stringSize_0f7a4 (nI n) S = some (nI (dc n).length, S) := by
  unfold kJ6_stringSize_0f7a4 kJ6_stringSize_0f7a4_11
  refine chk_of ?_ (Nat.le_refl _) (Nat.le_refl _)
  rw [if_neg (nI_pos (by omega)), bd_eq, (dc_len hn).2.2]
  have e1 : (-10 : Int32) = -nI 10 := rfl
  have e2 : (1 : Int32) = nI 1 := rfl
  have e3 : FU = 99994 + 1 + 1 + 1 + 1 + 1 + 1 := rfl
  rw [e1, e2, e3, size_step (by omega) (by omega) (by omega), size_step (by omega) (by omega) (by omega), size_step (by omega) (by omega) (by omega), size_step (by omega) (by omega) (by omega), size_step (by omega) (by omega) (by omega), size_step (by omega) (by omega) (by omega)]
  by_cases h1 : n < 10
  · rw [if_neg (by omega), if_pos h1]
  · rw [if_pos (by omega), if_neg h1]
    by_cases h2 : n < 100
    · rw [if_neg (by omega), if_pos h2]
    · rw [if_pos (by omega), if_neg h2]
      by_cases h3 : n < 1000
      · rw [if_neg (by omega), if_pos h3]
      · rw [if_pos (by omega), if_neg h3]
        by_cases h4 : n < 10000
        · rw [if_neg (by omega), if_pos h4]
        · rw [if_pos (by omega), if_neg h4]
          by_cases h5 : n < 100000
          · rw [if_neg (by omega), if_pos h5]
          · rw [if_pos (by omega), if_neg h5, if_neg (by omega)]
theorem wi_wa {S : ZS} {o k : Nat} {v : Int32} : S.wi o k v = S.wa o (upd (S.i o) k v) := by
  have e : up S.i o k v = fun o' => if o' = o then upd (S.i o) k v else S.i o' := by
    funext o'
    by_cases z : o' = o
    · rw [if_pos z, z]
      exact up_eq
    · rw [if_neg z]
      exact up_ne z
  show (S.g, S.n, S.K, up S.i o k v, S.r, S.c, S.w) = (S.g, S.n, S.K, (fun o' => if o' = o then upd (S.i o) k v else S.i o'), S.r, S.c, S.w)
  rw [e]
theorem wa_wa {S : ZS} {o : Nat} {f f' : Nat → Int32} : (S.wa o f).wa o f' = S.wa o f' := by
  have e : (fun o' => if o' = o then f' else (S.wa o f).i o') = fun o' => if o' = o then f' else S.i o' := by
    funext o'
    by_cases z : o' = o
    · rw [if_pos z, if_pos z]
    · rw [if_neg z, if_neg z]
      exact wa_ne z
  show (S.g, S.n, S.K, (fun o' => if o' = o then f' else (S.wa o f).i o'), S.r, S.c, S.w) = (S.g, S.n, S.K, (fun o' => if o' = o then f' else S.i o'), S.r, S.c, S.w)
  rw [e]
def ovl (f : Nat → Int32) (p : Nat) (w : List Int32) : Nat → Int32 := va_cpy (fun j => w.getD j 0) f 0 p w.length
theorem ovl_two {f : Nat → Int32} {p : Nat} {w : List Int32} {a b : Int32} : ovl (upd (upd f (p + w.length + 1) b) (p + w.length) a) p w = ovl f p (w ++ [a, b]) := by
  funext j
  unfold ovl va_cpy
  rw [List.length_append]
  show _ = if p ≤ j ∧ j < p + (w.length + 2) then _ else _
  by_cases h1 : p ≤ j ∧ j < p + w.length
  · rw [if_pos h1, if_pos (by omega)]
    exact (getD_l (by omega)).symm
  · rw [if_neg h1]
    by_cases h2 : j = p + w.length
    · subst h2
      rw [if_pos (by omega), show 0 + (p + w.length - p) = w.length + 0 by omega]
      show _ = (w ++ [a, b]).getD (w.length + 0) 0
      rw [getD_r]
      show upd _ _ _ _ = a
      simp [upd]
    · by_cases h3 : j = p + w.length + 1
      · subst h3
        rw [if_pos (by omega), show 0 + (p + w.length + 1 - p) = w.length + 1 by omega]
        show _ = (w ++ [a, b]).getD (w.length + 1) 0
        rw [getD_r]
        show upd _ _ _ _ = b
        simp [upd]
      · rw [if_neg (by omega)]
        simp [upd, h2, h3]
theorem ovl_one {f : Nat → Int32} {p : Nat} {a : Int32} : upd f p a = ovl f p [a] := by
  funext j
  unfold ovl va_cpy
  show _ = if p ≤ j ∧ j < p + 1 then _ else _
  by_cases h : j = p
  · subst h
    rw [if_pos (by omega), Nat.sub_self]
    show upd _ _ _ _ = a
    simp [upd]
  · rw [if_neg (by omega)]
    simp [upd, h]
theorem ovl_nil2 {f : Nat → Int32} {p : Nat} {a b : Int32} : upd (upd f (p + 1) b) p a = ovl f p [a, b] := by
  have h := ovl_two (f := f) (p := p) (w := []) (a := a) (b := b)
  rw [List.nil_append] at h
  rw [← h]
  funext j
  unfold ovl va_cpy
  show _ = if p ≤ j ∧ j < p + 0 then _ else _
  rw [if_neg (by omega)]
  rfl
theorem nI_m1 {a : Nat} : nI (a + 1) + (-1) = nI a := nI_dec a
theorem dgO_n {ρ : Type} {i : Nat} {f : Int32 → Option ρ} (h : i < 100) : dgO (nI i) f = f (nI (48 + i % 10)) := by
  unfold dgO
  rw [nI_clamp (by omega), if_pos]
  rintro (z | z)
  · exact nI_pos (by omega) z
  · omega
theorem dgT_n {ρ : Type} {i : Nat} {f : Int32 → Option ρ} (h : i < 100) : dgT (nI i) f = f (nI (48 + i / 10)) := by
  unfold dgT
  rw [nI_clamp (by omega), if_pos]
  rintro (z | z)
  · exact nI_pos (by omega) z
  · omega
theorem gc_104 {a : Nat} {x : Int32} {S : ZS} : kJ6_getChars_ba4f3_104 a x 0 S = some (x, S) := if_pos rfl
theorem neg_div100 {m : Nat} (h : m < 1000000) : (-nI m) / 100 = -nI (m / 100) := by
  rw [← Int32.toInt_inj, Int32.toInt_div, nI_neg (by omega), nI_neg (by omega), show (100 : Int32).toInt = 100 from rfl]
  have e : (-(m : Int)).tdiv 100 = -((m / 100 : Nat) : Int) := by
    rw [Int.neg_tdiv]
    congr 1
  rw [e, Int.bmod_eq_of_le (by omega) (by omega)]
theorem rest100 {m : Nat} : (-nI (m / 100)) * 100 - -nI m = nI (m % 100) := by
  have e1 : nI (m / 100) * 100 = nI (m / 100 * 100) := (Int32.ofNat_mul (m / 100) 100).symm
  rw [Int32.neg_mul, e1, Int32.sub_neg, Int32.add_comm, ← Int32.sub_eq_add_neg, nI_sub' (by omega)]
  congr 1
  omega
/-- the digits of a number below 100 -/
theorem gc_low {S : ZS} {a cap m p f : Nat} (ha : AR S a 200000 cap) (hm : m < 100) (hp : (dc m).length ≤ p) (hp2 : p ≤ cap) : kJ6_getChars_ba4f3_22 (f + 1) (-nI m) a (nI p) 0 S = some (nI (p - (dc m).length), S.wa (a / 2) (ovl (S.i (a / 2)) (p - (dc m).length) (dc m))) := by
  have hcap := ha.2.2.2
  have h1 := (dc_len (m := m) (by omega)).1
  obtain ⟨p, rfl⟩ : ∃ z, p = z + 1 := ⟨p - 1, by omega⟩
  rw [kJ6_getChars_ba4f3_22]
  have e0 : (-100 : Int32) < -nI m := by
    rw [show (-100 : Int32) = -nI 100 from rfl, neg_lt (by omega) (by omega)]
    exact hm
  obtain ⟨d1, -⟩ := dig_n (m % 10) (by omega)
  rw [if_pos e0, bd_eq, nI_m1, Int32.neg_neg, dgO_n hm, d1, aP_n ha (by omega)]
  by_cases e : m < 10
  · have e1 : (-9 : Int32) ≤ -nI m := by
      rw [show (-9 : Int32) = -nI 9 from rfl, neg_le (by omega) (by omega)]
      omega
    rw [if_pos e1, gc_104, dc_lo e, wi_wa, Nat.mod_eq_of_lt e, ovl_one]
    rfl
  · have e1 : ¬ (-9 : Int32) ≤ -nI m := by
      rw [show (-9 : Int32) = -nI 9 from rfl, neg_le (by omega) (by omega)]
      omega
    have hl : (dc m).length = 2 := by rw [dc_mid (by omega) hm]; rfl
    obtain ⟨p, rfl⟩ : ∃ z, p = z + 1 := ⟨p - 1, by omega⟩
    obtain ⟨d2, -⟩ := dig_n (m / 10) (by omega)
    have ha1 : AR (S.wi (a / 2) (p + 1) (nI (48 + m % 10))) a 200000 cap := ha
    rw [if_neg e1, bd_eq, nI_m1, dgT_n hm, d2, aP_n ha1 (by omega), gc_104, hl, dc_mid (by omega) hm, wi_wa, wi_wa, wa_wa, wa_eq, ovl_nil2]
    rfl
theorem gc_all {a cap : Nat} : ∀ (r m p f : Nat) (S : ZS), AR S a 200000 cap → m < 100 ^ (r + 1) → m < 1000000 → (dc m).length ≤ p → p ≤ cap → kJ6_getChars_ba4f3_22 (f + 1 + r) (-nI m) a (nI p) 0 S = some (nI (p - (dc m).length), S.wa (a / 2) (ovl (S.i (a / 2)) (p - (dc m).length) (dc m))) := by
  intro r
  induction r with
  | zero =>
    intro m p f S ha h1 h2 h3 h4
    exact gc_low ha (by omega) h3 h4
  | succ r ih =>
    intro m p f S ha h1 h2 h3 h4
    by_cases e : m < 100
    · rw [show f + 1 + (r + 1) = (f + (r + 1)) + 1 by omega]
      exact gc_low (f := f + (r + 1)) ha e h3 h4
    · have hcap := ha.2.2.2
      have hq : m / 100 < 100 ^ (r + 1) := by
        rw [Nat.pow_succ] at h1
        exact Nat.div_lt_of_lt_mul (by rw [Nat.mul_comm]; exact h1)
      have hd := dc_100 (m := m) (by omega) h2
      have hl : (dc m).length = (dc (m / 100)).length + 2 := by rw [hd, List.length_append]; rfl
      obtain ⟨p, rfl⟩ : ∃ z, p = z + 2 := ⟨p - 2, by omega⟩
      rw [show f + 1 + (r + 1) = (f + 1 + r) + 1 by omega, kJ6_getChars_ba4f3_22]
      have e0 : ¬ (-100 : Int32) < -nI m := by
        rw [show (-100 : Int32) = -nI 100 from rfl, neg_lt (by omega) (by omega)]
        exact e
      obtain ⟨d1, -⟩ := dig_n (m % 100 % 10) (by omega)
      obtain ⟨d2, -⟩ := dig_n (m % 100 / 10) (by omega)
      have ha1 : AR (S.wi (a / 2) (p + 1) (nI (48 + m % 100 % 10))) a 200000 cap := ha
      have ha2 : AR ((S.wi (a / 2) (p + 1) (nI (48 + m % 100 % 10))).wi (a / 2) p (nI (48 + m % 100 / 10))) a 200000 cap := ha
      rw [if_neg e0, dv_100, neg_div100 h2, bd_eq, rest100, bd_eq, show p + 2 = p + 1 + 1 from rfl, nI_m1, dgO_n (by omega), d1, aP_n ha (by omega), bd_eq, nI_m1, dgT_n (by omega), d2, aP_n ha1 (by omega), ih (m / 100) p f _ ha2 hq (by omega) (by omega) (by omega)]
      have hp : p + 1 + 1 - (dc m).length = p - (dc (m / 100)).length := by omega
      obtain ⟨k, hk⟩ : ∃ k, p = k + (dc (m / 100)).length := ⟨p - (dc (m / 100)).length, by omega⟩
      rw [hp, wi_wa, wi_wa, wa_wa, wa_wa, wa_eq, wa_eq, hk, Nat.add_sub_cancel, ovl_two, ← hd]
theorem k_chars {S : ZS} {a cap n p : Nat} (ha : AR S a 200000 cap) (hn : n < 1000000) (hp : (dc n).length ≤ p) (hp2 : p ≤ cap) : kJ6_getChars_ba4f3 (nI n) (nI p) a S = some (nI (p - (dc n).length), S.wa (a / 2) (ovl (S.i (a / 2)) (p - (dc n).length) (dc n))) := by
  unfold kJ6_getChars_ba4f3 kJ6_getChars_ba4f3_12
  refine chk_of ?_ (Nat.le_refl _) (Nat.le_refl _)
  rw [if_pos (nI_pos' (by omega)), bd_eq, if_pos rfl, bd_eq]
  have h := gc_all 2 n p 99997 S ha (by omega) hn hp hp2
  rw [show 99997 + 1 + 2 = FU from rfl] at h
  exact h
theorem k_appI {S : ZS} {c n cap : Nat} {w : List Int32} (hb : BX S c w cap) (hcap : cap ≤ 2 * w.length + 16) (hn : n < 1000000) (hl : w.length < 19000) (hc : 1 ≤ S.c) (hw : 2 * (w.length + (dc n).length) ≤ S.w) : ∃ S', kJ4_append_bf812 c (nI n) S = some (c, S') ∧ BE c (w ++ dc n) 1 (2 * (w.length + (dc n).length)) S S' := by
  have hL := dc_len hn
  obtain ⟨S1, cap', e1, bb, n1, n2, f1, o1⟩ := k_ensure (need := w.length + (dc n).length) hb (by omega) (by omega) hcap hc hw
  have a3 := hb.2.2.1
  have o1' : OB S1 c 1 := bb.o
  obtain ⟨q1, q2, q3, q4, q5, q6, q7, q8⟩ := id bb
  have hE : nI w.length + nI (dc n).length = nI (w.length + (dc n).length) := nI_plus
  have hch := k_chars (n := n) (p := w.length + (dc n).length) q4 hn (by omega) n1
  rw [Nat.add_sub_cancel] at hch
  have hcE : BE c (w ++ dc n) 1 (2 * (w.length + (dc n).length)) S ((S1.wa (S1.r (c / 2) 0 / 2) (ovl (S1.i (S1.r (c / 2) 0 / 2)) w.length (dc n))).wi (c / 2) 3 (nI (w.length + (dc n).length))) :=
    ⟨⟨cap', bb.put dc_by n1 (fun j hj => cpy_lo hj) (fun j hj => cpy_in hj) (cpy_all (fun j hj => dc_by.fit hj) q8), by rw [List.length_append]; omega⟩, (f1.trans (Fb.put bb)).mono (by omega) (by omega)⟩
  obtain ⟨S8, e8⟩ : ∃ z, z = S1.wa (S1.r (c / 2) 0 / 2) (ovl (S1.i (S1.r (c / 2) 0 / 2)) w.length (dc n)) := ⟨_, rfl⟩
  rw [← e8] at hch hcE
  have o8 : OB S8 c 1 := by rw [e8]; exact o1'
  obtain ⟨S9, e9⟩ : ∃ z, z = S8.wi (c / 2) 3 (nI (w.length + (dc n).length)) := ⟨_, rfl⟩
  rw [← e9] at hcE
  have hle1 : S1.c ≤ S.c ∧ S1.w ≤ S.w := ⟨f1.2.2.2.2.1, f1.2.2.2.2.2.2.1⟩
  have hle8 : S9.c ≤ S8.c ∧ S9.w ≤ S8.w := by rw [e9]; exact ⟨Nat.le_refl _, Nat.le_refl _⟩
  have hle9 : S9.c ≤ S1.c ∧ S9.w ≤ S1.w := by rw [e9, e8]; exact ⟨Nat.le_refl _, Nat.le_refl _⟩
  have hle : S9.c ≤ S.c ∧ S9.w ≤ S.w := ⟨Nat.le_trans hle9.1 hle1.1, Nat.le_trans hle9.2 hle1.2⟩
  refine ⟨S9, ?_, hcE⟩
  unfold kJ4_append_bf812 kJ5_append_c97b9 kJ5_append_c97b9_48
  refine chk_of ?_ hle.1 hle.2
  have hlat : kJ5_isLatin1_aae02 c S1 = some (1, S1) := by
    unfold kJ5_isLatin1_aae02
    refine chk_of ?_ (Nat.le_refl _) (Nat.le_refl _)
    rw [gI_o q1, q2, if_pos rfl]
  have e3 : chk Prod.snd S (gI S c 1 3 fun x2 => b2 Prod.snd (kJ6_stringSize_0f7a4 (nI n) S) fun x5 S3 => bd (x2 + x5) fun x6 => rcv S3 c 1 <| b1 Prod.snd (kJ5_ensureCapacityInternal_d00df c x6 S3) fun S7 => rcv S7 c 1 <| b2 Prod.snd (kJ5_isLatin1_aae02 c S7) fun x11 S9 => if x11 = 0 then gN S9 c 1 0 fun c13 => none else gN S9 c 1 0 fun c14 => b2 Prod.snd (kJ6_getChars_ba4f3 (nI n) x6 c14 S9) fun x17 S15 => pI S15 c 1 3 x6 fun S1 => some (c, S1)) = some (c, S9) := by
    refine chk_of ?_ hle.1 hle.2
    rw [gI_o hb.o, a3, k_size hn, b2_s]
    refine chk_of ?_ hle.1 hle.2
    rw [bd_eq, hE, rcv_o hb.o, e1, b1_s]
    refine chk_of ?_ hle9.1 hle9.2
    rw [rcv_o o1', hlat, b2_s]
    refine chk_of ?_ hle9.1 hle9.2
    rw [if_neg (by decide), gN_o o1' q4.ne0, hch, b2_s]
    refine chk_of ?_ hle8.1 hle8.2
    rw [pI_o o8, ← e9]
  rw [rcv_o hb.o, e3, b2_s]
  exact chk_of rfl (Nat.le_refl _) (Nat.le_refl _)
