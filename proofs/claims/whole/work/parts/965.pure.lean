/-! the checksum of both -/
theorem shine_lit {o : Nat} {g : G} (h : g o 13 = 1) : k4_shine o g = some g := by
  unfold k4_shine
  rw [if_neg (by rw [h]; decide)]
def mx (h : Int64) (x : Int32) : Int64 := h * 31 + x.toInt64
def fold8 (h : Int64) (v : Nat → Int32) : Int64 := mx (mx (mx (mx (mx (mx (mx (mx h (v 0)) (v 1)) (v 2)) (v 3)) (v 4)) (v 5)) (v 6)) (v 7)
def fold7 (h : Int64) (v : Nat → Int32) : Int64 := mx (mx (mx (mx (mx (mx (mx h (v 0)) (v 1)) (v 2)) (v 3)) (v 4)) (v 5)) (v 6)
def vals (cl be of : Nat → Int32) (q : Nat) (b l a : Nat → Int32) (cov : Int32) (m : Nat) (i : Nat) : Int32 := if i = 0 then cl m else if i = 1 then be m else if i = 2 then of m else if i = 3 then nI q else if i = 4 then b m else if i = 5 then l m else if i = 6 then a m else cov
theorem tld_n {ρ : Type} {t : Nat → Int32} {n j : Nat} {f : Int32 → Option ρ} (h : j < n) (hn : n ≤ 3000) : tld t n (nI j) f = f (t j) := by
  unfold tld
  rw [if_neg (nI_in h (by omega)), nI_clamp (by omega)]
theorem tsto_n {ρ : Type} {t : Nat → Int32} {n j : Nat} {v : Int32} {f : (Nat → Int32) → Option ρ} (h : j < n) (hn : n ≤ 3000) : tsto t n (nI j) v f = f (upd t j v) := by
  unfold tsto
  rw [if_neg (nI_in h (by omega)), nI_clamp (by omega)]
theorem d264_1 {K : Int64 → Int32 → G → Option (Int64 × G)} {f i : Nat} {wa : Nat → Int32} {h : Int64} {v5 : Int32} {g : G} (hi : i < 8) : k11_digest_264 K (f + 1) wa h v5 8 (nI i) g = k11_digest_264 K f wa (mx h (wa i)) v5 8 (nI (i + 1)) g := by
  conv => lhs; unfold k11_digest_264
  rw [if_neg (fun z => absurd ((lit_le (M := 8) (k := 8) rfl (by omega) (by omega)).mp z) (by omega)), tld_n hi (by omega), bd_eq, bd_eq, nI_1]
  rfl
theorem d264 {K : Int64 → Int32 → G → Option (Int64 × G)} {wa : Nat → Int32} {h : Int64} {v5 : Int32} {g : G} : k11_digest_264 K FU wa h v5 8 0 g = K (fold8 h wa) (v5 + 1) g := by
  show k11_digest_264 K (99991 + 1 + 1 + 1 + 1 + 1 + 1 + 1 + 1 + 1) wa h v5 8 (nI 0) g = _
  rw [d264_1 (by omega), d264_1 (by omega), d264_1 (by omega), d264_1 (by omega), d264_1 (by omega), d264_1 (by omega), d264_1 (by omega), d264_1 (by omega)]
  conv => lhs; unfold k11_digest_264
  rw [if_pos (by decide), bd_eq]
  rfl
theorem d93_1 {f i : Nat} {wa : Nat → Int32} {h : Int64} {g : G} (hi : i < 7) : k11_digest_93 (f + 1) wa h 7 (nI i) g = k11_digest_93 f wa (mx h (wa i)) 7 (nI (i + 1)) g := by
  conv => lhs; unfold k11_digest_93
  rw [if_neg (fun z => absurd ((lit_le (M := 7) (k := 7) rfl (by omega) (by omega)).mp z) (by omega)), tld_n hi (by omega), bd_eq, bd_eq, nI_1]
  rfl
theorem d93 {wa : Nat → Int32} {h : Int64} {g : G} : k11_digest_93 FU wa h 7 0 g = k11_digest_126 11 (fold7 h wa) 0 g := by
  show k11_digest_93 (99992 + 1 + 1 + 1 + 1 + 1 + 1 + 1 + 1) wa h 7 (nI 0) g = _
  rw [d93_1 (by omega), d93_1 (by omega), d93_1 (by omega), d93_1 (by omega), d93_1 (by omega), d93_1 (by omega), d93_1 (by omega)]
  conv => lhs; unfold k11_digest_93
  rw [if_pos (by decide)]
  rfl
/-- a mirror, in the class -/
theorem dm_c {N q : Nat} {rw : Nat → Nat} {g : G} {h : Int64} (hR : RelR 22 79 N rw g) (hl : g 22 13 = 1) (hq : q < N) : k8_digestOfMirror h (nI (rw q)) g = some (fold8 h (vals (g 23) (g 24) (g 25) q (g 27) (g 28) (g 29) (if nI (rw q) = g 22 10 then 1 else 0) (rw q)), g) := by
  have hN9 := hR.N9
  have hm := (hR.row.2.1 q hq).2
  have has := k4_has_n hR.1 hN9 hm
  have e129 : k4_valueOf 22 129 (nI (rw q)) g = some (g 23 (rw q), g) := by
    unfold k4_valueOf
    rw [has, some_bind, if_neg (by decide), shine_lit hl, some_bind, if_pos rfl, ld_n (by omega) (by omega)]
  have e145 : k4_valueOf 22 145 (nI (rw q)) g = some (g 24 (rw q), g) := by
    unfold k4_valueOf
    rw [has, some_bind, if_neg (by decide), shine_lit hl, some_bind]
    iterate 16 rw [if_neg (by decide)]
    rw [if_pos rfl, ld_n (by omega) (by omega)]
  have e130 : k4_valueOf 22 130 (nI (rw q)) g = some (g 25 (rw q), g) := by
    unfold k4_valueOf
    rw [has, some_bind, if_neg (by decide), shine_lit hl, some_bind, if_neg (by decide), if_pos rfl, ld_n (by omega) (by omega)]
  have e141 : k4_valueOf 22 141 (nI (rw q)) g = some (g 27 (rw q), g) := by
    unfold k4_valueOf
    rw [has, some_bind, if_neg (by decide), shine_lit hl, some_bind]
    iterate 12 rw [if_neg (by decide)]
    rw [if_pos rfl, ld_n (by omega) (by omega)]
  have e143 : k4_valueOf 22 143 (nI (rw q)) g = some (g 28 (rw q), g) := by
    unfold k4_valueOf
    rw [has, some_bind, if_neg (by decide), shine_lit hl, some_bind]
    iterate 14 rw [if_neg (by decide)]
    rw [if_pos rfl, ld_n (by omega) (by omega)]
  have e144 : k4_valueOf 22 144 (nI (rw q)) g = some (g 29 (rw q), g) := by
    unfold k4_valueOf
    rw [has, some_bind, if_neg (by decide), shine_lit hl, some_bind]
    iterate 15 rw [if_neg (by decide)]
    rw [if_pos rfl, ld_n (by omega) (by omega)]
  unfold k8_digestOfMirror
  rw [e129, some_bind, bd_eq]
  dsimp only
  rw [e145, some_bind, bd_eq]
  dsimp only
  rw [e130, some_bind, bd_eq]
  dsimp only
  rw [k4_find_ok hR.1 hR.row hq, some_bind, bd_eq]
  rw [e141, some_bind, bd_eq]
  dsimp only
  rw [e143, some_bind, bd_eq]
  dsimp only
  rw [e144, some_bind, bd_eq]
  dsimp only
  unfold k8_digestOfMirror_193
  by_cases e : g 22 10 = nI (rw q)
  · rw [if_pos e, if_pos e.symm]; rfl
  · rw [if_neg e, if_neg (fun z => e z.symm)]; rfl
/-- the reference's -/
theorem dm_m {N q f : Nat} {rw : Nat → Nat} {g : G} {h : Int64} {l : Nat → Int32} (hN : g 54 0 = nI N) (hR : isRow g 83 N rw) (hq : q < N) (hl : g 93 (rw q) - g 94 (rw q) = l (rw q)) : k11_digest_126 (f + 1) h (nI (rw q)) g = k11_digest_126 f (fold8 h (vals (g 80) (g 81) (g 82) q (g 94) l (g 95) (if nI (rw q) = covOf 79 g then 1 else 0) (rw q))) (nI (rw q + 1)) g := by
  have hN9 := hR.1
  have hm := (hR.2.1 q hq).2
  have key : ∀ t : Int32, ∀ F : (Nat → Int32) → Option (Int64 × G), (tsto (fun _ => 0) 8 0 (g 80 (rw q)) fun w17 => tsto w17 8 1 (g 81 (rw q)) fun w19 => tsto w19 8 2 (g 82 (rw q)) fun w21 => tsto w21 8 3 (nI q) fun w23 => tsto w23 8 4 (g 94 (rw q)) fun w25 => tsto w25 8 5 (l (rw q)) fun w28 => tsto w28 8 6 (g 95 (rw q)) fun w30 => tsto w30 8 7 t F) = F (upd (upd (upd (upd (upd (upd (upd (upd (fun _ => 0) 0 (g 80 (rw q))) 1 (g 81 (rw q))) 2 (g 82 (rw q))) 3 (nI q)) 4 (g 94 (rw q))) 5 (l (rw q))) 6 (g 95 (rw q))) 7 t) := by
    intro t F
    show (tsto (fun _ => 0) 8 (nI 0) (g 80 (rw q)) fun w17 => tsto w17 8 (nI 1) (g 81 (rw q)) fun w19 => tsto w19 8 (nI 2) (g 82 (rw q)) fun w21 => tsto w21 8 (nI 3) (nI q) fun w23 => tsto w23 8 (nI 4) (g 94 (rw q)) fun w25 => tsto w25 8 (nI 5) (l (rw q)) fun w28 => tsto w28 8 (nI 6) (g 95 (rw q)) fun w30 => tsto w30 8 (nI 7) t F) = _
    rw [tsto_n (by omega) (by omega), tsto_n (by omega) (by omega), tsto_n (by omega) (by omega), tsto_n (by omega) (by omega), tsto_n (by omega) (by omega), tsto_n (by omega) (by omega), tsto_n (by omega) (by omega), tsto_n (by omega) (by omega)]
  have fin : ∀ t : Int32, fold8 h (upd (upd (upd (upd (upd (upd (upd (upd (fun _ => 0) 0 (g 80 (rw q))) 1 (g 81 (rw q))) 2 (g 82 (rw q))) 3 (nI q)) 4 (g 94 (rw q))) 5 (l (rw q))) 6 (g 95 (rw q))) 7 t) = fold8 h (vals (g 80) (g 81) (g 82) q (g 94) l (g 95) t (rw q)) := fun _ => rfl
  conv => lhs; unfold k11_digest_126
  rw [hN, if_neg (by rw [nI_leI (by omega) (by omega)]; omega), ld_n (by omega) (by omega)]
  have hp := k11_place_ok hR hq
  have hcov := k9_cov (t := 79) (g := g) (j := rw q) (by omega)
  by_cases e : nI (rw q) = covOf 79 g
  · rw [if_pos e] at hcov ⊢
    rw [← fin 1]
    have := key 1 (fun w6 => k11_digest_264 (k11_digest_126 f) FU w6 h (nI (rw q)) 8 0 g)
    rw [d264, nI_1] at this
    rw [← this]
    unfold k11_digest_249
    simp only [ld_n (show rw q < 10 by omega) (show 10 ≤ 3000 by omega), hp, some_bind, hcov, hl, show ¬ ((1 : Int32) = 0) by decide, ↓reduceIte]
  · rw [if_neg e] at hcov ⊢
    rw [← fin 0]
    have := key 0 (fun w6 => k11_digest_264 (k11_digest_126 f) FU w6 h (nI (rw q)) 8 0 g)
    rw [d264, nI_1] at this
    rw [← this]
    unfold k11_digest_249
    simp only [ld_n (show rw q < 10 by omega) (show 10 ≤ 3000 by omega), hp, some_bind, hcov, hl, ↓reduceIte]
theorem fold8_congr {h : Int64} {v w : Nat → Int32} (e : ∀ i, i < 8 → v i = w i) : fold8 h v = fold8 h w := by
  unfold fold8
  rw [e 0 (by omega), e 1 (by omega), e 2 (by omega), e 3 (by omega), e 4 (by omega), e 5 (by omega), e 6 (by omega), e 7 (by omega)]
def dg (V : Nat → Nat → Int32) : Int64 → Nat → Nat → Int64
  | h, _, 0 => h
  | h, m, d + 1 => dg V (fold8 h (V m)) (m + 1) d
def dj (A B : Nat → Int32) : Int64 → Nat → Nat → Int64
  | h, _, 0 => h
  | h, k, d + 1 => dj A B (mx (mx h (A k)) (B k)) (k + 1) d
theorem dj_c {J : Nat} {g : G} (hJ : J ≤ 12) (hN : g 30 2 = nI J) : ∀ (d k f : Nat) (h : Int64), J = k + d → d < f → k8_digest_163 f h (nI k) g = some (dj (g 31) (g 32) h k d, g) := by
  intro d
  induction d with
  | zero =>
    intro k f h hd hf
    obtain ⟨f, rfl⟩ : ∃ z, f = z + 1 := ⟨f - 1, by omega⟩
    unfold k8_digest_163
    rw [hN, if_pos (by rw [nI_leI (by omega) (by omega)]; omega)]
    rfl
  | succ d ih =>
    intro k f h hd hf
    obtain ⟨f, rfl⟩ : ∃ z, f = z + 1 := ⟨f - 1, by omega⟩
    have hk : k < J := by omega
    unfold k8_digest_163 k3_kindIn k3_mirrorIn
    rw [hN, if_neg (by rw [nI_leI (by omega) (by omega)]; omega), if_neg (nI_pos (by omega)), if_neg (by rw [nI_leI (by omega) (by omega)]; omega), ld_n (by omega) (by omega), some_bind, bd_eq, if_neg (nI_pos (by omega)), if_neg (by rw [nI_leI (by omega) (by omega)]; omega), ld_n (by omega) (by omega), some_bind, bd_eq, bd_eq, nI_1]
    exact ih (k + 1) f _ (by omega) (by omega)
theorem dj_m {J : Nat} {g : G} (hJ : J ≤ 12) (hN : g 79 6 = nI J) : ∀ (d k f : Nat) (h : Int64), J = k + d → d < f → k11_digest_344 f h (nI k) g = some (dj (g 84) (g 85) h k d, up g 47 0 0) := by
  intro d
  induction d with
  | zero =>
    intro k f h hd hf
    obtain ⟨f, rfl⟩ : ∃ z, f = z + 1 := ⟨f - 1, by omega⟩
    unfold k11_digest_344
    rw [hN, if_pos (by rw [nI_leI (by omega) (by omega)]; omega)]
    rfl
  | succ d ih =>
    intro k f h hd hf
    obtain ⟨f, rfl⟩ : ∃ z, f = z + 1 := ⟨f - 1, by omega⟩
    have hk : k < J := by omega
    unfold k11_digest_344
    rw [hN, if_neg (by rw [nI_leI (by omega) (by omega)]; omega), ld_n (by omega) (by omega), ld_n (by omega) (by omega), bd_eq, bd_eq, nI_1]
    exact ih (k + 1) f _ (by omega) (by omega)
theorem dj_eq {A B A' B' : Nat → Int32} {J : Nat} (e : ∀ k, k < J → A k = A' k ∧ B k = B' k) : ∀ (d k : Nat) (h : Int64), J = k + d → dj A B h k d = dj A' B' h k d := by
  intro d
  induction d with
  | zero => intro k h _; rfl
  | succ d ih =>
    intro k h hd
    unfold dj
    rw [(e k (by omega)).1, (e k (by omega)).2]
    exact ih (k + 1) _ (by omega)
theorem dg_c {N : Nat} {g : G} {V : Nat → Nat → Int32} (hN9 : N ≤ 10) (hN : g 22 7 = nI N) (hV : ∀ m h, m < N → k8_digestOfMirror h (nI m) g = some (fold8 h (V m), g)) : ∀ (d m f : Nat) (h : Int64), N = m + d → d < f → k8_digest_98 f h (nI m) g = k8_digest_163 FU (mx (mx (mx (dg V h m d) (g 30 2)) (g 30 4)) (g 30 3)) 0 g := by
  intro d
  induction d with
  | zero =>
    intro m f h hd hf
    obtain ⟨f, rfl⟩ : ∃ z, f = z + 1 := ⟨f - 1, by omega⟩
    unfold k8_digest_98 k8_jobs k8_jobsDone k8_minutesToGo
    rw [hN, if_pos (by rw [nI_leI (by omega) (by omega)]; omega), some_bind, bd_eq, some_bind, bd_eq, some_bind, bd_eq]
    unfold mx dg
    rfl
  | succ d ih =>
    intro m f h hd hf
    obtain ⟨f, rfl⟩ : ∃ z, f = z + 1 := ⟨f - 1, by omega⟩
    unfold k8_digest_98
    rw [hN, if_neg (by rw [nI_leI (by omega) (by omega)]; omega), hV m h (by omega), some_bind, bd_eq, bd_eq, nI_1]
    dsimp only
    rw [ih (m + 1) f _ (by omega) (by omega)]
    rfl
theorem dg_m {N : Nat} {g : G} {V : Nat → Nat → Int32} (hN9 : N ≤ 10) (hN : g 54 0 = nI N) (hV : ∀ m f h, m < N → k11_digest_126 (f + 1) h (nI m) g = k11_digest_126 f (fold8 h (V m)) (nI (m + 1)) g) : ∀ (d m f : Nat) (h : Int64), N = m + d → d < f → k11_digest_126 f h (nI m) g = k11_digest_344 FU (mx (mx (mx (dg V h m d) (g 79 6)) (g 79 9)) (g 79 7)) 0 g := by
  intro d
  induction d with
  | zero =>
    intro m f h hd hf
    obtain ⟨f, rfl⟩ : ∃ z, f = z + 1 := ⟨f - 1, by omega⟩
    unfold k11_digest_126
    rw [hN, if_pos (by rw [nI_leI (by omega) (by omega)]; omega), bd_eq]
    unfold mx dg
    rfl
  | succ d ih =>
    intro m f h hd hf
    obtain ⟨f, rfl⟩ : ∃ z, f = z + 1 := ⟨f - 1, by omega⟩
    rw [hV m f h (by omega), ih (m + 1) f _ (by omega) (by omega)]
    rfl
theorem seen_lit {N : Nat} {rw : Nat → Nat} {g : G} (h : RelR 22 79 N rw g) (hl : g 22 13 = 1) : k4_showsLight 22 g = some (seenV (g 22 11) (g 54 2) (g 54 1) (g 22 12), g) := by
  unfold k4_showsLight seenV
  rw [shine_lit hl, some_bind, h.2.2.2.1]
  split
  · rfl
  · rw [k4_within, some_bind, h.2.2.1]
    split <;> rfl
theorem p_digest : S_digest Inv := by
  intro n g h
  obtain ⟨N, J, rw, h⟩ := h
  have hN9 := h.R.N9
  obtain ⟨g1, e1, l1, r1⟩ := shine_c hO0 h.R
  have h1 := h.lit l1
  have l13 : g1 22 13 = 1 := l1.2.2.1
  obtain ⟨g2, e2, l2, r2⟩ := k11_seen_ok hO0 h1.R
  obtain ⟨m1, m2, m3⟩ := lit_m hO0 h1.R l13 l2
  have h2 := h1.mlit l2
  obtain ⟨q1, q2, q3, q4, q5, q6, q7, q8⟩ := h1.Q
  obtain ⟨K, F, B, k1, k2, k3, k4, k5, k6, k7, k8, k9⟩ := h.2.2.2.2.2.2.2
  have ec : ∀ a, a ≠ 22 → a ≠ 27 → a ≠ 28 → a ≠ 29 → g1 a = g a := l1.1
  have em : ∀ a, a ≠ 47 → a ≠ 93 → a ≠ 94 → a ≠ 95 → g2 a = g1 a := l2.1
  obtain ⟨c1, c2, c3, c4, c5, c6, c7, c8, c9⟩ := r1
  -- the numbers of a mirror
  have hVc : ∀ m h, m < N → ∃ q, q < N ∧ rw q = m ∧ k8_digestOfMirror h (nI m) g1 = some (fold8 h (vals (g1 23) (g1 24) (g1 25) q (g1 27) (g1 28) (g1 29) (if nI m = g1 22 10 then 1 else 0) m), g1) := by
    intro m h hm
    obtain ⟨q, hq, rfl⟩ := h1.R.row.at hm
    exact ⟨q, hq, rfl, dm_c h1.R l13 hq⟩
  let pl : Nat → Nat := fun m => if hm : m < N then (h1.R.row.at hm).choose else 0
  have hpl : ∀ m, m < N → pl m < N ∧ rw (pl m) = m := by
    intro m hm
    show (if hm : m < N then (h1.R.row.at hm).choose else 0) < N ∧ rw (if hm : m < N then (h1.R.row.at hm).choose else 0) = m
    rw [dif_pos hm]
    exact (h1.R.row.at hm).choose_spec
  let V : Nat → Nat → Int32 := fun m => vals (g1 23) (g1 24) (g1 25) (pl m) (g1 27) (g1 28) (g1 29) (if nI m = g1 22 10 then 1 else 0) m
  have hV1 : ∀ m h, m < N → k8_digestOfMirror h (nI m) g1 = some (fold8 h (V m), g1) := by
    intro m h hm
    obtain ⟨p1, p2⟩ := hpl m hm
    have := dm_c (h := h) h1.R l13 p1
    rw [p2] at this
    exact this
  have hV2 : ∀ m f h, m < N → k11_digest_126 (f + 1) h (nI m) g2 = k11_digest_126 f (fold8 h (V m)) (nI (m + 1)) g2 := by
    intro m f h hm
    obtain ⟨p1, p2⟩ := hpl m hm
    obtain ⟨b1, b2, b3⟩ := m3 _ p1
    rw [p2] at b1 b2 b3
    have := dm_m (f := f) (h := h) (l := g1 28) r2.2.1 r2.mrow p1 (by rw [p2]; exact b2)
    rw [p2] at this
    rw [this]
    refine congrArg (fun z => k11_digest_126 f z (nI (m + 1)) g2) (fold8_congr (fun i hi => ?_))
    obtain ⟨d1, d2, d3⟩ := c7 m hm
    rcases (show i = 0 ∨ i = 1 ∨ i = 2 ∨ i = 3 ∨ i = 4 ∨ i = 5 ∨ i = 6 ∨ i = 7 by omega) with rfl | rfl | rfl | rfl | rfl | rfl | rfl | rfl
    · show g2 80 m = g1 23 m
      rw [em 80 (by decide) (by decide) (by decide) (by decide)]; exact d1.symm
    · show g2 81 m = g1 24 m
      rw [em 81 (by decide) (by decide) (by decide) (by decide)]; exact d2.symm
    · show g2 82 m = g1 25 m
      rw [em 82 (by decide) (by decide) (by decide) (by decide)]; exact d3.symm
    · rfl
    · exact b1
    · rfl
    · exact b3
    · show (if nI m = covOf 79 g2 then (1 : Int32) else 0) = (if nI m = g1 22 10 then 1 else 0)
      rw [c9, covOf_same (em 79 (by decide) (by decide) (by decide) (by decide)) (em 85 (by decide) (by decide) (by decide) (by decide))]
  generalize hs : seenV (g1 22 11) (g1 54 2) (g1 54 1) (g1 22 12) = s
  have hs01 : s = 0 ∨ s = 1 := by rw [← hs]; exact seenV_01
  have hsm : seenV (g2 47 22) (g2 54 2) (g2 54 1) (g2 47 23) = s := by
    rw [← hs, m1, m2, em 54 (by decide) (by decide) (by decide) (by decide)]
  let H : Int64 := mx (mx (mx (mx (mx (mx (mx 983 (nI N)) (nI K)) (g 21 5)) (g 1 1)) (g1 22 11)) (g1 22 12)) s
  have hcls : k8_digest g = k8_digest_98 FU H 0 g1 := by
    unfold k8_digest k8_mirrors k8_orders k8_minutes k8_tapeBytes k8_lightAtEnd k8_tiltAtEnd k8_isSeen k4_lastLight k4_lastTilt
    rw [some_bind, bd_eq, some_bind, bd_eq, some_bind, bd_eq, some_bind, bd_eq, e1, some_bind, some_bind, some_bind, bd_eq]
    dsimp only
    rw [shine_lit l13, some_bind, some_bind, some_bind, bd_eq]
    dsimp only
    rw [seen_lit h1.R l13, hs, some_bind, zr_01 hs01, some_bind]
    dsimp only
    unfold k8_digest_93
    rw [h.R.1, k5]
    rcases hs01 with rfl | rfl
    · rw [if_pos rfl, bd_eq]
      refine congrArg (fun z => k8_digest_98 FU z 0 g1) ?_
      simp only [H, mx]
    · rw [if_neg (by decide), bd_eq]
      refine congrArg (fun z => k8_digest_98 FU z 0 g1) ?_
      simp only [H, mx]
  have hmdl : k11_digest g1 = k11_digest_126 11 H 0 g2 := by
    have arr : ∀ (w : Nat → Int32) (t : Int32) (K : (Nat → Int32) → Option (Int64 × G)), tsto w 7 6 t K = K (upd w 6 t) := fun w t K => tsto_n (j := 6) (by omega) (by omega)
    have e54 : g2 54 0 = nI N := r2.2.1
    have e545 : g2 54 5 = nI K := by rw [em 54 (by decide) (by decide) (by decide) (by decide), ec 54 (by decide) (by decide) (by decide) (by decide)]; exact k4
    have e798 : g2 79 8 = g 21 5 := by rw [em 79 (by decide) (by decide) (by decide) (by decide), ec 79 (by decide) (by decide) (by decide) (by decide)]; exact h.2.2.2.2.2.1.symm
    have e472 : g2 47 2 = g 1 1 := by
      obtain ⟨T, t1, t2, t3, -⟩ := h.1
      rw [l2.2.1 2 (by decide) (by decide), ec 47 (by decide) (by decide) (by decide) (by decide), t3, t2]
    unfold k11_digest
    rw [e2, some_bind, bd_eq]
    dsimp only
    rw [hsm, e54, e545, e798, e472, m1, m2]
    have key : ∀ Fk : (Nat → Int32) → Option (Int64 × G), (tsto (fun _ => 0) 7 0 (nI N) fun w41 => tsto w41 7 1 (nI K) fun w42 => tsto w42 7 2 (g 21 5) fun w43 => tsto w43 7 3 (g 1 1) fun w44 => tsto w44 7 4 (g1 22 11) fun w45 => tsto w45 7 5 (g1 22 12) Fk) = Fk (upd (upd (upd (upd (upd (upd (fun _ => 0) 0 (nI N)) 1 (nI K)) 2 (g 21 5)) 3 (g 1 1)) 4 (g1 22 11)) 5 (g1 22 12)) := by
      intro Fk
      show (tsto (fun _ => 0) 7 (nI 0) (nI N) fun w41 => tsto w41 7 (nI 1) (nI K) fun w42 => tsto w42 7 (nI 2) (g 21 5) fun w43 => tsto w43 7 (nI 3) (g 1 1) fun w44 => tsto w44 7 (nI 4) (g1 22 11) fun w45 => tsto w45 7 (nI 5) (g1 22 12) Fk) = _
      rw [tsto_n (by omega) (by omega), tsto_n (by omega) (by omega), tsto_n (by omega) (by omega), tsto_n (by omega) (by omega), tsto_n (by omega) (by omega), tsto_n (by omega) (by omega)]
    rw [key]
    unfold k11_digest_76
    rcases hs01 with rfl | rfl
    · rw [if_pos rfl, arr, d93]
      refine congrArg (fun z => k11_digest_126 11 z 0 g2) ?_
      unfold fold7
      rfl
    · rw [if_neg (by decide), arr, d93]
      refine congrArg (fun z => k11_digest_126 11 z 0 g2) ?_
      unfold fold7
      rfl
  have x := dg_c hN9 c1 hV1 N 0 FU H (by omega) (by unfold FU; omega)
  have y := dg_m hN9 r2.2.1 hV2 N 0 11 H (by omega) (by omega)
  have e79 : g2 79 = g1 79 := em 79 (by decide) (by decide) (by decide) (by decide)
  have x2 := dj_c q1 q2 J 0 FU (mx (mx (mx (dg V H 0 N) (g1 30 2)) (g1 30 4)) (g1 30 3)) (by omega) (by unfold FU; omega)
  have y2 := dj_m (g := g2) q1 (by rw [e79]; exact q3) J 0 FU (mx (mx (mx (dg V H 0 N) (g2 79 6)) (g2 79 9)) (g2 79 7)) (by omega) (by unfold FU; omega)
  have hend : dj (g1 31) (g1 32) (mx (mx (mx (dg V H 0 N) (g1 30 2)) (g1 30 4)) (g1 30 3)) 0 J = dj (g2 84) (g2 85) (mx (mx (mx (dg V H 0 N) (g2 79 6)) (g2 79 9)) (g2 79 7)) 0 J := by
    rw [e79, q2, q3, q4, q5, em 84 (by decide) (by decide) (by decide) (by decide), em 85 (by decide) (by decide) (by decide) (by decide)]
    exact dj_eq (J := J) (fun k hk => ⟨(q6 k hk).1, (q6 k hk).2.1⟩) J 0 _ (by omega)
  exact ⟨(_, g1), (_, up g2 47 0 0), hcls.trans (x.trans x2), hmdl.trans (y.trans y2), hend, h2.thrown.next⟩
