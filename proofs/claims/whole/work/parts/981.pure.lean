/-! teach: one token read by both -/
theorem nI_sub {a q : Nat} (h : a ≤ q) (hq : q < 2 ^ 31) : nI q - nI a = nI (q - a) := by
  apply Int32.toInt_inj.mp
  rw [Int32.toInt_sub, nI_toInt (by omega), nI_toInt (by omega), nI_toInt (by omega), Int.bmod_eq_of_le (by omega) (by omega)]
  omega
/-- the class's kinds for the reference's -/
def kap (s : Nat) : Nat := if s < 26 then 128 + s else if s = 30 then 2 else if s = 31 then 3 else if s = 32 then 1 else if s = 33 then 0 else if s = 40 then 43 else if s = 41 then 45 else if s = 42 then 42 else if s = 43 then 47 else if s = 44 then 60 else if s = 45 then 62 else if s = 46 then 61 else if s = 47 then 4 else if s = 48 then 5 else if s = 49 then 40 else if s = 50 then 41 else if s = 51 then 91 else if s = 52 then 93 else if s = 53 then 59 else 44
def okS (s : Nat) : Prop := s < 26 ∨ s = 30 ∨ s = 31 ∨ (40 ≤ s ∧ s ≤ 54)
def addT (k : Nat) (c a z : Int32) (g : G) : G := up (up (up (up (up g 4 k c) 5 k a) 6 k z) 7 k 0) 3 5 (nI (k + 1))
theorem k6_add_n {k : Nat} {c a b : Int32} {g : G} (hk : k ≤ 400) (h : g 3 5 = nI k) : k6_add c a b g = some (addT k c a (b - a) g) := by
  unfold k6_add
  rw [h, if_pos ((le_lit (M := 400) (k := 400) rfl (by omega) (by omega)).mpr hk), sto_n (by omega) (by omega), up_other (by decide), h, sto_n (by omega) (by omega), up_other (by decide), up_other (by decide), h, sto_n (by omega) (by omega), up_other (by decide), up_other (by decide), up_other (by decide), h, sto_n (by omega) (by omega), bd_eq, up_other (by decide), up_other (by decide), up_other (by decide), up_other (by decide), h, nI_1]
  rfl
/-- a token more -/
def tokE (g g' : G) (k c p z v : Nat) : Prop := (∀ a, a < 3 ∨ 7 < a → g' a = g a) ∧ (∀ a i, 4 ≤ a → a ≤ 7 → i ≠ k → g' a i = g a i) ∧ (∀ i, i ≠ 5 → g' 3 i = g 3 i) ∧ g' 3 5 = nI (k + 1) ∧ g' 4 k = nI c ∧ g' 5 k = nI p ∧ g' 6 k = nI z ∧ g' 7 k = nI v
theorem addT_E {k c p z : Nat} {g : G} : tokE g (addT k (nI c) (nI p) (nI z) g) k c p z 0 := by
  unfold addT
  refine ⟨fun a ha => ?_, fun a i a1 a2 hi => ?_, fun i hi => ?_, up_self, ?_, ?_, ?_, ?_⟩
  · rw [up_ne (by omega), up_ne (by omega), up_ne (by omega), up_ne (by omega), up_ne (by omega)]
  · rw [up_other (by omega), up_app, up_app, up_app, up_app, if_neg (fun z => hi z.2), if_neg (fun z => hi z.2), if_neg (fun z => hi z.2), if_neg (fun z => hi z.2)]
  · rw [up_slot hi, up_other (by decide), up_other (by decide), up_other (by decide), up_other (by decide)]
  · rw [up_other (by decide), up_other (by decide), up_other (by decide), up_other (by decide), up_self]
  · rw [up_other (by decide), up_other (by decide), up_other (by decide), up_self]
  · rw [up_other (by decide), up_other (by decide), up_self]
  · rw [up_other (by decide), up_self]; rfl
theorem setT_E {k c p z v : Nat} {g : G} : tokE g (up (addT k (nI c) (nI p) (nI z) g) 7 k (nI v)) k c p z v := by
  obtain ⟨e1, e2, e3, e4, e5, e6, e7, e8⟩ := addT_E (k := k) (c := c) (p := p) (z := z) (g := g)
  refine ⟨fun a ha => ?_, fun a i a1 a2 hi => ?_, fun i hi => ?_, ?_, ?_, ?_, ?_, up_self⟩
  · rw [up_ne (by omega)]; exact e1 a ha
  · rw [up_app, if_neg (fun z => hi z.2)]; exact e2 a i a1 a2 hi
  · rw [up_other (by decide)]; exact e3 i hi
  · rw [up_other (by decide)]; exact e4
  · rw [up_other (by decide)]; exact e5
  · rw [up_other (by decide)]; exact e6
  · rw [up_other (by decide)]; exact e7
theorem tokE.tape {g g' : G} {k c p z v T : Nat} {B : Nat → Int32} (h : tokE g g' k c p z v) (hc : TapeC T B g) : TapeC T B g' := by
  obtain ⟨h1, h2⟩ := hc
  exact ⟨by rw [h.1 1 (by omega)]; exact h1, fun p hp => by rw [h.1 2 (by omega)]; exact h2 p hp⟩
theorem addT_tape {k T : Nat} {c a z : Int32} {B : Nat → Int32} {g : G} (h : TapeC T B g) : TapeC T B (addT k c a z g) := by
  obtain ⟨h1, h2⟩ := h
  unfold addT
  exact ⟨by rw [up_other (by decide), up_other (by decide), up_other (by decide), up_other (by decide), up_other (by decide)]; exact h1, fun p hp => by rw [up_other (by decide), up_other (by decide), up_other (by decide), up_other (by decide), up_other (by decide)]; exact h2 p hp⟩
/-! a word -/
theorem kw2 {T p z : Nat} {B : Nat → Int32} (hB : Bok T B) (hp : p + z ≤ T) : ∀ (d i : Nat), 26 = i + d → ∃ s c, ((s < 26 ∧ c = 128 + s) ∨ (s = 30 ∧ c = 2)) ∧ (10 < z → s = 30) ∧ (∀ gc f, TapeC T B gc → d + 2 < f → k6_readWord_26 f (nI p) (nI (p + z)) 2 (nI (128 + i)) gc = k6_readWord_67 (nI p) (nI (p + z)) (nI c) gc) ∧ (∀ gm f, TapeM T B gm → d < f → k11_keyword_2 gm f (nI p) (nI z) (nI i) = some (if s = 30 ∧ 10 < z then 32 else nI s)) := by
  have hT := hB.1
  intro d
  induction d with
  | zero =>
    intro i hd
    obtain rfl : i = 26 := by omega
    refine ⟨30, 2, Or.inr ⟨rfl, rfl⟩, fun _ => rfl, fun gc f hc hf => ?_, fun gm f hm hf => ?_⟩
    · obtain ⟨f, rfl⟩ : ∃ z, f = z + 1 := ⟨f - 1, by omega⟩
      unfold k6_readWord_26
      rw [if_pos (by decide)]
      rfl
    · obtain ⟨f, rfl⟩ : ∃ z, f = z + 1 := ⟨f - 1, by omega⟩
      unfold k11_keyword_2
      rw [if_pos (by decide)]
      by_cases e : z ≤ 10
      · rw [if_pos ((le_lit (M := 10) (k := 10) rfl (by omega) (by omega)).mpr e), if_neg (by omega)]; rfl
      · rw [if_neg (by rw [le_lit (M := 10) (k := 10) rfl (by omega) (by omega)]; exact e), if_pos ⟨rfl, by omega⟩]
  | succ d ih =>
    intro i hd
    obtain ⟨u, u1, u2, u3, u4⟩ := word2 (p := p) (z := z) hB (show i < 26 by omega) hp
    have hkw : ∀ g : G, k6_keyword (nI (128 + i)) g = some i := by
      intro g
      have : ∀ i, i < 26 → k6_keyword (nI (128 + i)) (fun _ _ => 0) = some i := by decide +kernel
      exact this i (by omega)
    have h153 : ¬ (153 : Int32) < nI (128 + i) := Int32.not_lt.mpr ((le_lit (M := 153) (k := 153) rfl (by omega) (by omega)).mpr (by omega))
    have h26 : ¬ (26 : Int32) ≤ nI i := fun q => absurd ((lit_le (M := 26) (k := 26) rfl (by omega) (by omega)).mp q) (by omega)
    have hl : ∀ {ρ : Type} (F : Nat → Option ρ), lwd (nI i) F = F (28 + i) := by
      intro ρ F
      unfold lwd
      rw [if_neg (nI_in (by omega) (by omega)), nI_clamp (by omega)]
    rcases u1 with rfl | rfl
    · obtain ⟨s, c, s1, s2, s3, s4⟩ := ih (i + 1) (by omega)
      refine ⟨s, c, s1, s2, fun gc f hc hf => ?_, fun gm f hm hf => ?_⟩
      · obtain ⟨f, rfl⟩ : ∃ z, f = z + 1 := ⟨f - 1, by omega⟩
        rw [← s3 gc f hc (by omega)]
        conv => lhs; unfold k6_readWord_26
        rw [if_neg h153, if_pos rfl, hkw, some_bind, nI_sub (by omega) (by omega), show p + z - p = z by omega, u3 gc hc, some_bind, if_pos rfl, bd_eq, nI_1]
        rfl
      · obtain ⟨f, rfl⟩ : ∃ z, f = z + 1 := ⟨f - 1, by omega⟩
        rw [← s4 gm f hm (by omega)]
        conv => lhs; unfold k11_keyword_2
        rw [if_neg h26, hl, u4 gm hm, some_bind, if_pos rfl, bd_eq, nI_1]
    · refine ⟨i, 128 + i, Or.inl ⟨by omega, rfl⟩, fun q => absurd (u2 q) (by decide), fun gc f hc hf => ?_, fun gm f hm hf => ?_⟩
      · obtain ⟨f, rfl⟩ : ∃ z, f = z + 1 := ⟨f - 1, by omega⟩
        obtain ⟨f, rfl⟩ : ∃ z, f = z + 1 := ⟨f - 1, by omega⟩
        unfold k6_readWord_26
        rw [if_neg h153, if_pos rfl, hkw, some_bind, nI_sub (by omega) (by omega), show p + z - p = z by omega, u3 gc hc, some_bind, if_neg (by decide), bd_eq, nI_1]
        unfold k6_readWord_26
        by_cases e : (153 : Int32) < nI (128 + i + 1)
        · rw [if_pos e]
        · rw [if_neg e, if_neg (show ¬ nI (128 + i) = 2 from fun q => absurd ((nI_eq (a := 128 + i) (b := 2) (by omega) (by omega)).mp q) (by omega))]
      · obtain ⟨f, rfl⟩ : ∃ z, f = z + 1 := ⟨f - 1, by omega⟩
        unfold k11_keyword_2
        rw [if_neg h26, hl, u4 gm hm, some_bind, if_neg (by decide), if_neg (by omega)]
theorem lad2 {T : Nat} {B : Nat → Int32} (hB : Bok T B) : ∀ (d p : Nat), T = p + d → ∃ q, p ≤ q ∧ q ≤ T ∧ (∀ gc f, TapeC T B gc → d < f → k5_skipLettersAndDigits_2 gc f (nI p) = some (nI q)) ∧ (∀ gm f (a k : Int32), TapeM T B gm → d < f → k11_read_26 f a k (nI p) gm = (k11_keyword a (nI q - a) gm).bind fun u9 => sto gm 49 402 k u9 fun g10 => k11_read_239 a k (nI q) g10) := by
  have hT := hB.1
  intro d
  induction d with
  | zero =>
    intro p hd
    obtain rfl : T = p := by omega
    have e := hB.end (Nat.le_refl T)
    refine ⟨T, Nat.le_refl _, Nat.le_refl _, fun gc f hc hf => ?_, fun gm f a k hm hf => ?_⟩
    · obtain ⟨f, rfl⟩ : ∃ z, f = z + 1 := ⟨f - 1, by omega⟩
      unfold k5_skipLettersAndDigits_2
      rw [hc.1, if_pos (by rw [nI_leI (by omega) (by omega)]; omega)]
    · obtain ⟨f, rfl⟩ : ∃ z, f = z + 1 := ⟨f - 1, by omega⟩
      unfold k11_read_26
      rw [byteM hB hm (by omega), some_bind, k11_let, some_bind, e, if_pos (by decide), some_bind, k11_dig, some_bind, if_pos (by decide)]
  | succ d ih =>
    intro p hd
    by_cases e : letV (B p) = 0 ∧ digV (B p) = 0
    · refine ⟨p, Nat.le_refl _, by omega, fun gc f hc hf => ?_, fun gm f a k hm hf => ?_⟩
      · obtain ⟨f, rfl⟩ : ∃ z, f = z + 1 := ⟨f - 1, by omega⟩
        unfold k5_skipLettersAndDigits_2
        rw [hc.1, if_neg (by rw [nI_leI (by omega) (by omega)]; omega), byteC hB hc (by omega), some_bind, k5_let, some_bind, if_pos e.1, some_bind, k5_dig, some_bind, if_pos e.2]
      · obtain ⟨f, rfl⟩ : ∃ z, f = z + 1 := ⟨f - 1, by omega⟩
        unfold k11_read_26
        rw [byteM hB hm (by omega), some_bind, k11_let, some_bind, if_pos e.1, some_bind, k11_dig, some_bind, if_pos e.2]
    · obtain ⟨q, q1, q2, q3, q4⟩ := ih (p + 1) (by omega)
      refine ⟨q, by omega, q2, fun gc f hc hf => ?_, fun gm f a k hm hf => ?_⟩
      · obtain ⟨f, rfl⟩ : ∃ z, f = z + 1 := ⟨f - 1, by omega⟩
        rw [← q3 gc f hc (by omega)]
        conv => lhs; unfold k5_skipLettersAndDigits_2
        rw [hc.1, if_neg (by rw [nI_leI (by omega) (by omega)]; omega), byteC hB hc (by omega), some_bind, k5_let, some_bind]
        by_cases e1 : letV (B p) = 0
        · rw [if_pos e1, some_bind, k5_dig, some_bind, if_neg (fun z => e ⟨e1, z⟩), bd_eq, nI_1]
        · rw [if_neg e1, bd_eq, nI_1]
      · obtain ⟨f, rfl⟩ : ∃ z, f = z + 1 := ⟨f - 1, by omega⟩
        rw [← q4 gm f a k hm (by omega)]
        conv => lhs; unfold k11_read_26
        rw [byteM hB hm (by omega), some_bind, k11_let, some_bind]
        by_cases e1 : letV (B p) = 0
        · rw [if_pos e1, some_bind, k11_dig, some_bind, if_neg (fun z => e ⟨e1, z⟩), bd_eq, nI_1]
        · rw [if_neg e1, bd_eq, nI_1]
/-! a number -/
def numV (B : Nat → Int32) (a : Nat) : Nat → Int32
  | 0 => 0
  | n + 1 => numV B a n * 10 + (B (a + n) - 48)
theorem dig_n {b : Int32} (h : digV b = 1) : ∃ x, x < 10 ∧ b - 48 = nI x := by
  unfold digV at h
  by_cases e1 : b < 48
  · rw [if_pos e1] at h; cases h
  · rw [if_neg e1] at h
    by_cases e2 : 57 < b
    · rw [if_pos e2] at h; cases h
    · have h0 : ¬ b < 0 := fun z => e1 (Int32.lt_trans z (by decide))
      obtain ⟨y, hy, rfl⟩ := (in_le (N := 57) (by omega)).mp ⟨h0, Int32.not_lt.mp e2⟩
      have : ¬ y < 48 := fun z => e1 ((nI_ltI (b := 48) (by omega) (by omega)).mpr z)
      refine ⟨y - 48, by omega, ?_⟩
      rw [show (48 : Int32) = nI 48 from rfl, nI_sub (by omega) (by omega)]
theorem numV_n {B : Nat → Int32} {a : Nat} : ∀ n, (∀ i, i < n → digV (B (a + i)) = 1) → ∃ v, v < 10 ^ n ∧ numV B a n = nI v := by
  intro n
  induction n with
  | zero => intro _; exact ⟨0, by omega, rfl⟩
  | succ n ih =>
    intro h
    obtain ⟨v, v1, v2⟩ := ih (fun i hi => h i (by omega))
    obtain ⟨x, x1, x2⟩ := dig_n (h n (by omega))
    refine ⟨v * 10 + x, by rw [Nat.pow_succ]; omega, ?_⟩
    unfold numV
    rw [v2, x2, show (10 : Int32) = nI 10 from rfl, nI_mul, nI_add]
theorem num_ring (v b : Int32) : ((10 * v) + b) - 48 = v * 10 + (b - 48) := by
  rw [Int32.mul_comm 10 v, Int32.sub_eq_add_neg, Int32.sub_eq_add_neg, Int32.add_assoc]
theorem dig2 {T a : Nat} {B : Nat → Int32} (hB : Bok T B) : ∀ (d n : Nat), T = a + n + d → (∀ i, i < n → digV (B (a + i)) = 1) → ∃ m, n ≤ m ∧ a + m ≤ T ∧ (∀ i, i < m → digV (B (a + i)) = 1) ∧ (∀ gc f, TapeC T B gc → d < f → k5_skipDigits_2 gc f (nI (a + n)) = some (nI (a + m))) ∧ (∀ gm f (k : Int32), 0 < n → TapeM T B gm → d < f → k11_read_87 f (nI a) k (nI (a + n)) (numV B a (min n 7)) gm = sto gm 50 402 k (numV B a (min m 7)) fun g17 => if (nI (a + m) - nI a) ≤ 6 then k11_read_165 (nI a) k (nI (a + m)) 31 k g17 else k11_read_165 (nI a) k (nI (a + m)) 32 k g17) := by
  have hT := hB.1
  intro d
  induction d with
  | zero =>
    intro n hd hn
    refine ⟨n, Nat.le_refl _, by omega, hn, fun gc f hc hf => ?_, fun gm f k h0 hm hf => ?_⟩
    · obtain ⟨f, rfl⟩ : ∃ z, f = z + 1 := ⟨f - 1, by omega⟩
      unfold k5_skipDigits_2
      rw [hc.1, if_pos (by rw [nI_leI (by omega) (by omega)]; omega)]
    · obtain ⟨f, rfl⟩ : ∃ z, f = z + 1 := ⟨f - 1, by omega⟩
      unfold k11_read_87
      rw [byteM hB hm (by omega), some_bind, k11_dig, some_bind, hB.end (by omega), if_pos (by decide)]
  | succ d ih =>
    intro n hd hn
    by_cases e : digV (B (a + n)) = 0
    · refine ⟨n, Nat.le_refl _, by omega, hn, fun gc f hc hf => ?_, fun gm f k h0 hm hf => ?_⟩
      · obtain ⟨f, rfl⟩ : ∃ z, f = z + 1 := ⟨f - 1, by omega⟩
        unfold k5_skipDigits_2
        rw [hc.1, if_neg (by rw [nI_leI (by omega) (by omega)]; omega), byteC hB hc (by omega), some_bind, k5_dig, some_bind, if_pos e]
      · obtain ⟨f, rfl⟩ : ∃ z, f = z + 1 := ⟨f - 1, by omega⟩
        unfold k11_read_87
        rw [byteM hB hm (by omega), some_bind, k11_dig, some_bind, if_pos e]
    · have e1 : digV (B (a + n)) = 1 := (digV_01 _).resolve_left e
      obtain ⟨m, m1, m2, m3, m4, m5⟩ := ih (n + 1) (by omega) (fun i hi => by
        by_cases q : i = n
        · rw [q]; exact e1
        · exact hn i (by omega))
      refine ⟨m, by omega, m2, m3, fun gc f hc hf => ?_, fun gm f k h0 hm hf => ?_⟩
      · obtain ⟨f, rfl⟩ : ∃ z, f = z + 1 := ⟨f - 1, by omega⟩
        rw [← m4 gc f hc (by omega)]
        conv => lhs; unfold k5_skipDigits_2
        rw [hc.1, if_neg (by rw [nI_leI (by omega) (by omega)]; omega), byteC hB hc (by omega), some_bind, k5_dig, some_bind, if_neg e, bd_eq, nI_1]
        rfl
      · obtain ⟨f, rfl⟩ : ∃ z, f = z + 1 := ⟨f - 1, by omega⟩
        rw [← m5 gm f k (by omega) hm (by omega)]
        conv => lhs; unfold k11_read_87
        rw [byteM hB hm (by omega), some_bind, k11_dig, some_bind, if_neg e, nI_sub (by omega) (by omega), show a + n - a = n by omega]
        unfold k11_read_128
        by_cases e7 : 7 ≤ n
        · rw [if_pos ((lit_le (M := 7) (k := 7) rfl (by omega) (by omega)).mpr e7), bd_eq, nI_1, show min n 7 = 7 by omega, show min (n + 1) 7 = 7 by omega]
          rfl
        · rw [if_neg (fun z => e7 ((lit_le (M := 7) (k := 7) rfl (by omega) (by omega)).mp z)), some_bind, bd_eq, nI_1, show min n 7 = n by omega, show min (n + 1) 7 = n + 1 by omega, num_ring]
          rfl
theorem num24 {T a m : Nat} {B : Nat → Int32} (hB : Bok T B) (hm : a + m ≤ T) : ∀ (d n : Nat), m = n + d → ∀ gc f, TapeC T B gc → d < f → k6_readNumber_24 f (nI a) (nI (a + m)) (numV B a n) (nI (a + n)) gc = (k6_add 3 (nI a) (nI (a + m)) gc).bind fun g2 => (k6_setValue ((g2 3 5) - 1) (numV B a m) g2).bind fun g3 => some (nI (a + m), g3) := by
  have hT := hB.1
  intro d
  induction d with
  | zero =>
    intro n hd gc f hc hf
    obtain ⟨f, rfl⟩ : ∃ z, f = z + 1 := ⟨f - 1, by omega⟩
    obtain rfl : m = n := by omega
    unfold k6_readNumber_24
    rw [if_pos (by rw [nI_leI (by omega) (by omega)]; omega)]
  | succ d ih =>
    intro n hd gc f hc hf
    obtain ⟨f, rfl⟩ : ∃ z, f = z + 1 := ⟨f - 1, by omega⟩
    rw [← ih (n + 1) (by omega) gc f hc (by omega)]
    conv => lhs; unfold k6_readNumber_24
    rw [if_neg (by rw [nI_leI (by omega) (by omega)]; omega), byteC hB hc (by omega), some_bind, bd_eq, bd_eq, nI_1]
    rfl
