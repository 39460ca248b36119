/-! the tape: trim and feed -/
theorem lit_le {M : Int32} {k T : Nat} (hM : M = nI k) (hk : k < 2 ^ 31) (hT : T < 2 ^ 31) : M ≤ nI T ↔ k ≤ T := by
  rw [hM, nI_leI hk hT]
theorem le_lit {M : Int32} {k T : Nat} (hM : M = nI k) (hk : k < 2 ^ 31) (hT : T < 2 ^ 31) : nI T ≤ M ↔ T ≤ k := by
  rw [hM, nI_leI hT hk]
theorem in_le {a : Int32} {N : Nat} (hN : N + 1 < 2 ^ 31) : (¬ a < 0 ∧ a ≤ nI N) ↔ ∃ m, m ≤ N ∧ a = nI m := by
  constructor
  · rintro ⟨h1, h2⟩
    obtain ⟨m, hm, rfl⟩ := nI_of h1
    exact ⟨m, (nI_leI hm (by omega)).mp h2, rfl⟩
  · rintro ⟨m, hm, rfl⟩
    exact ⟨nI_pos (by omega), (nI_leI (by omega) (by omega)).mpr hm⟩
/-- the tape alone is another -/
theorem InvC.tape {n N J : Nat} {rw : Nat → Nat} {g g' : G} (h : InvC n N J rw g) (hf : ∀ a, a ≠ 1 → a ≠ 2 → a ≠ 47 → a ≠ 48 → g' a = g a) (h3 : g' 47 3 = g 47 3) (ht : RelT g') : InvC n N J rw g' := by
  obtain ⟨a1, a2, a3, a4, a5, a6, ⟨d, d1, d2⟩, a7⟩ := h
  exact ⟨ht, by rw [hf 0 (by omega) (by omega) (by omega) (by omega), h3]; exact a2, a3.frame (fun a ha => hf a (by unfold cR at ha; omega) (by unfold cR at ha; omega) (by unfold cR at ha; omega) (by unfold cR at ha; omega)), a4.frame (hf 80 (by omega) (by omega) (by omega) (by omega)) (hf 81 (by omega) (by omega) (by omega) (by omega)) (hf 82 (by omega) (by omega) (by omega) (by omega)), a5.frame (fun a ha => hf a (by omega) (by omega) (by omega) (by omega)), by rw [hf 21 (by omega) (by omega) (by omega) (by omega), hf 79 (by omega) (by omega) (by omega) (by omega)]; exact a6, ⟨d, d1, by rw [hf 30 (by omega) (by omega) (by omega) (by omega)]; exact d2⟩, a7.frame (fun a ha => hf a (by omega) (by omega) (by omega) (by omega))⟩
theorem p_trim : S_trim Inv := by
  intro n g f a h
  obtain ⟨N, J, rw, h⟩ := h
  obtain ⟨T, t1, t2, t3, t4⟩ := h.1
  by_cases hm : ¬ a < 0 ∧ a ≤ nI T
  · obtain ⟨m, hm1, rfl⟩ := (in_le (by omega)).mp hm
    refine ⟨(0, up g 1 1 (nI m), vp_updL f 0 (nI m).toInt64), (nI m, up (up (up g 1 1 (nI m)) 47 0 0) 47 2 (nI m)), ?_, ?_, ?_, fun _ => rfl, InvC.next (N := N) (J := J) (rw := rw) ?_⟩
    · unfold w_trim k8_trim
      rw [if_neg hm.1, t2, if_pos hm.2]
      exact wr1_0
    · unfold k11_trim
      show (k11_isIn (nI m) 0 ((up (up g 1 1 (nI m)) 47 0 0) 47 2) (up (up g 1 1 (nI m)) 47 0 0)).bind _ = _
      rw [k11_isIn_n, some_bind, up_slot (by decide), up_other (by decide), t3, if_neg hm.1, if_neg (Int32.not_lt.mpr hm.2), if_neg (by decide)]
      rfl
    · show up (up (up g 1 1 (nI m)) 47 0 0) 47 2 (nI m) 47 0 = 0
      rw [up_slot (by decide), up_self]
    · refine h.tape (fun a b1 b2 b3 b4 => ?_) ?_ ⟨m, by omega, ?_, ?_, fun j hj => ?_⟩
      · show up (up (up g 1 1 (nI m)) 47 0 0) 47 2 (nI m) a = g a
        rw [up_ne b3, up_ne b3, up_ne b1]
      · show up (up (up g 1 1 (nI m)) 47 0 0) 47 2 (nI m) 47 3 = g 47 3
        rw [up_slot (by decide), up_slot (by decide), up_other (by decide)]
      · show up (up (up g 1 1 (nI m)) 47 0 0) 47 2 (nI m) 1 1 = _
        rw [up_other (by decide), up_other (by decide), up_self]
      · show up (up (up g 1 1 (nI m)) 47 0 0) 47 2 (nI m) 47 2 = _
        rw [up_self]
      · show ∃ x, x < 256 ∧ up (up (up g 1 1 (nI m)) 47 0 0) 47 2 (nI m) 48 j = nI x ∧ up (up (up g 1 1 (nI m)) 47 0 0) 47 2 (nI m) 2 j = _
        rw [up_other (by decide), up_other (by decide), up_other (by decide), up_other (by decide), up_other (by decide), up_other (by decide)]
        exact t4 j (by omega)
  · refine ⟨(1, g, f), (0, up (up g 47 0 0) 47 0 1), ?_, ?_, (show up (up g 47 0 0) 47 0 1 47 0 = 1 from up_self), fun h => absurd h (by show ¬ (1 : Int32) = 0; decide), h.thrown.thrown.next⟩
    · unfold w_trim k8_trim k8_trim_15
      by_cases h1 : a < 0
      · rw [if_pos h1]
        exact wr1_e (by decide)
      · rw [if_neg h1, t2, if_neg (fun h2 => hm ⟨h1, h2⟩)]
        exact wr1_e (by decide)
    · unfold k11_trim
      show (k11_isIn a 0 ((up g 47 0 0) 47 2) (up g 47 0 0)).bind _ = _
      have e : (if a < 0 then (0 : Int32) else if nI T < a then 0 else 1) = 0 := by
        by_cases h1 : a < 0
        · rw [if_pos h1]
        · rw [if_neg h1, if_pos (Int32.not_le.mp (fun h2 => hm ⟨h1, h2⟩))]
      rw [k11_isIn_n, some_bind, up_slot (by decide), t3, e, if_pos rfl]
      rfl
/-- a byte more on a tape whose length is slot k of cell c and whose bytes are cell b -/
def ap1 (c k b : Nat) (v : Int32) (T : Nat) (g : G) : G := up (up g b T v) c k (nI (T + 1))
def ap4 (c k b : Nat) (h : Int32 → Int32) (T : Nat) (g : G) : G := ap1 c k b (h 0) (T + 3) (ap1 c k b (h 8) (T + 2) (ap1 c k b (h 16) (T + 1) (ap1 c k b (h 24) T g)))
def byC (a s : Int32) : Int32 := ((a >>> (s &&& 31)).toInt8.toInt32).toInt8.toInt32
def byM (a s : Int32) : Int32 := (a >>> (s &&& 31)) &&& 255
theorem ap4_ne {c k b : Nat} {h : Int32 → Int32} {T a : Nat} {g : G} (hb : a ≠ b) (hc : a ≠ c) : ap4 c k b h T g a = g a := by
  unfold ap4 ap1
  rw [up_ne hc, up_ne hb, up_ne hc, up_ne hb, up_ne hc, up_ne hb, up_ne hc, up_ne hb]
theorem ap4_len {c k b : Nat} {h : Int32 → Int32} {T : Nat} {g : G} : ap4 c k b h T g c k = nI (T + 4) := by
  unfold ap4 ap1
  rw [up_self]
theorem ap4_slot {c k b k' : Nat} {h : Int32 → Int32} {T : Nat} {g : G} (hb : c ≠ b) (hk : k' ≠ k) : ap4 c k b h T g c k' = g c k' := by
  unfold ap4 ap1
  rw [up_slot hk, up_other hb, up_slot hk, up_other hb, up_slot hk, up_other hb, up_slot hk, up_other hb]
theorem ap4_old {c k b j : Nat} {h : Int32 → Int32} {T : Nat} {g : G} (hb : b ≠ c) (hj : j < T) : ap4 c k b h T g b j = g b j := by
  unfold ap4 ap1
  rw [up_other hb, up_slot (by omega), up_other hb, up_slot (by omega), up_other hb, up_slot (by omega), up_other hb, up_slot (by omega)]
def shf (r : Nat) : Int32 := if r = 0 then 24 else if r = 1 then 16 else if r = 2 then 8 else 0
theorem ap4_new {c k b r : Nat} {h : Int32 → Int32} {T : Nat} {g : G} (hb : b ≠ c) (hr : r < 4) : ap4 c k b h T g b (T + r) = h (shf r) := by
  unfold ap4 ap1
  rcases (show r = 0 ∨ r = 1 ∨ r = 2 ∨ r = 3 by omega) with rfl | rfl | rfl | rfl
  · rw [up_other hb, up_slot (by omega), up_other hb, up_slot (by omega), up_other hb, up_slot (by omega), up_other hb, show T + 0 = T from rfl, up_self]; rfl
  · rw [up_other hb, up_slot (by omega), up_other hb, up_slot (by omega), up_other hb, up_self]; rfl
  · rw [up_other hb, up_slot (by omega), up_other hb, up_self]; rfl
  · rw [up_other hb, up_self]; rfl
theorem k5_app1 {f T : Nat} {a s : Int32} {g : G} (hs : ¬ s < 0) (hT : g 1 1 = nI T) (h : T < 2000) : k5_append_3 (f + 1) a s g = k5_append_3 f a (s + (-8)) (ap1 1 1 2 (byC a s) T g) := by
  conv => lhs; unfold k5_append_3
  rw [if_neg hs, hT, if_neg (fun q => absurd ((lit_le (M := 2000) (k := 2000) rfl (by omega) (by omega)).mp q) (by omega)), sto_n h (by omega), bd_eq, up_other (by decide), hT, nI_1]
  rfl
theorem k5_app {T : Nat} {a : Int32} {g : G} (hT : g 1 1 = nI T) (h : T + 4 ≤ 2000) : k5_append a g = some (ap4 1 1 2 (byC a) T g) := by
  unfold k5_append
  show k5_append_3 (99995 + 1 + 1 + 1 + 1 + 1) a 24 g = _
  rw [k5_app1 (by decide) hT (by omega), show (24 : Int32) + (-8) = 16 from rfl, k5_app1 (T := T + 1) (by decide) (by unfold ap1; exact up_self) (by omega), show (16 : Int32) + (-8) = 8 from rfl, k5_app1 (T := T + 2) (by decide) (by unfold ap1; exact up_self) (by omega), show (8 : Int32) + (-8) = 0 from rfl, k5_app1 (T := T + 3) (by decide) (by unfold ap1; exact up_self) (by omega), show (0 : Int32) + (-8) = -8 from rfl]
  unfold k5_append_3
  rw [if_pos (by decide)]
  rfl
theorem k11_app1 {K : (Nat → Int32) → Int32 → Int32 → G → Option (Int32 × G)} {f T : Nat} {wa : Nat → Int32} {v8 v9 a s : Int32} {g : G} (hs : ¬ s < 0) (hT : g 47 2 = nI T) (h : T < 2000) : k11_feed_81 K (f + 1) wa v8 v9 a s g = k11_feed_81 K f wa v8 v9 a (s + (-8)) (ap1 47 2 48 (byM a s) T g) := by
  conv => lhs; unfold k11_feed_81
  rw [if_neg hs, hT, sto_n h (by omega), bd_eq, up_other (by decide), hT, nI_1]
  rfl
theorem k11_app {K : (Nat → Int32) → Int32 → Int32 → G → Option (Int32 × G)} {T : Nat} {wa : Nat → Int32} {v8 v9 a : Int32} {g : G} (hT : g 47 2 = nI T) (h : T + 4 ≤ 2000) : k11_feed_81 K FU wa v8 v9 a 24 g = K wa v8 (v9 + 1) (ap4 47 2 48 (byM a) T g) := by
  show k11_feed_81 K (99995 + 1 + 1 + 1 + 1 + 1) wa v8 v9 a 24 g = _
  rw [k11_app1 (by decide) hT (by omega), show (24 : Int32) + (-8) = 16 from rfl, k11_app1 (T := T + 1) (by decide) (by unfold ap1; exact up_self) (by omega), show (16 : Int32) + (-8) = 8 from rfl, k11_app1 (T := T + 2) (by decide) (by unfold ap1; exact up_self) (by omega), show (8 : Int32) + (-8) = 0 from rfl, k11_app1 (T := T + 3) (by decide) (by unfold ap1; exact up_self) (by omega), show (0 : Int32) + (-8) = -8 from rfl]
  conv => lhs; unfold k11_feed_81
  rw [if_pos (by decide)]
  rfl
/-- q words more -/
def apN (c k b : Nat) (h : Int32 → Int32 → Int32) (ar : Nat → Int32) (T : Nat) : Nat → G → G
  | 0, g => g
  | q + 1, g => ap4 c k b (h (ar q)) (T + 4 * q) (apN c k b h ar T q g)
theorem apN_ne {c k b : Nat} {h : Int32 → Int32 → Int32} {ar : Nat → Int32} {T a : Nat} {g : G} (hb : a ≠ b) (hc : a ≠ c) : ∀ q, apN c k b h ar T q g a = g a := by
  intro q
  induction q with
  | zero => rfl
  | succ q ih => unfold apN; rw [ap4_ne hb hc, ih]
theorem apN_len {c k b : Nat} {h : Int32 → Int32 → Int32} {ar : Nat → Int32} {T : Nat} {g : G} (hT : g c k = nI T) : ∀ q, apN c k b h ar T q g c k = nI (T + 4 * q) := by
  intro q
  cases q with
  | zero => exact hT
  | succ q => unfold apN; exact ap4_len
theorem apN_slot {c k b k' : Nat} {h : Int32 → Int32 → Int32} {ar : Nat → Int32} {T : Nat} {g : G} (hb : c ≠ b) (hk : k' ≠ k) : ∀ q, apN c k b h ar T q g c k' = g c k' := by
  intro q
  induction q with
  | zero => rfl
  | succ q ih => unfold apN; rw [ap4_slot hb hk, ih]
theorem apN_old {c k b j : Nat} {h : Int32 → Int32 → Int32} {ar : Nat → Int32} {T : Nat} {g : G} (hb : b ≠ c) (hj : j < T) : ∀ q, apN c k b h ar T q g b j = g b j := by
  intro q
  induction q with
  | zero => rfl
  | succ q ih => unfold apN; rw [ap4_old hb (by omega), ih]
theorem apN_new {c k b r : Nat} {h : Int32 → Int32 → Int32} {ar : Nat → Int32} {T : Nat} {g : G} (hb : b ≠ c) (hr : r < 4) : ∀ q i, i < q → apN c k b h ar T q g b (T + 4 * i + r) = h (ar i) (shf r) := by
  intro q
  induction q with
  | zero => intro i hi; omega
  | succ q ih =>
    intro i hi
    unfold apN
    by_cases e : i = q
    · subst e; exact ap4_new hb hr
    · rw [ap4_old hb (by omega)]; exact ih i (by omega)
theorem byte_eq (a s : Int32) : ∃ x, x < 256 ∧ byM a s = nI x ∧ byC a s = (nI x).toInt8.toInt32 := by
  unfold byM byC
  generalize a >>> (s &&& 31) = y
  refine ⟨y.toBitVec.toNat % 256, Nat.mod_lt _ (by decide), ?_, ?_⟩
  · apply Int32.toBitVec_inj.mp
    apply BitVec.eq_of_toNat_eq
    show (y.toBitVec &&& 255#32).toNat = (BitVec.ofNat 32 (y.toBitVec.toNat % 256)).toNat
    rw [BitVec.toNat_and, BitVec.toNat_ofNat, BitVec.toNat_ofNat, show 255 % 2 ^ 32 = 2 ^ 8 - 1 from rfl, Nat.and_two_pow_sub_one_eq_mod, Nat.mod_eq_of_lt (a := y.toBitVec.toNat % 256) (by omega)]
  · rw [Int8.toInt8_toInt32]
    congr 1
    apply Int8.toBitVec_inj.mp
    apply BitVec.eq_of_toNat_eq
    show (y.toBitVec.signExtend 8).toNat = ((BitVec.ofNat 32 (y.toBitVec.toNat % 256)).signExtend 8).toNat
    rw [BitVec.signExtend_eq_setWidth_of_le _ (by omega), BitVec.signExtend_eq_setWidth_of_le _ (by omega), BitVec.toNat_setWidth, BitVec.toNat_setWidth, BitVec.toNat_ofNat]
    omega
def ar5 (a1 a2 a3 a4 a5 : Int32) (q : Nat) : Int32 := if q = 0 then a1 else if q = 1 then a2 else if q = 2 then a3 else if q = 3 then a4 else a5
theorem feed63 {f T q : Nat} {wa ar : Nat → Int32} {g : G} (hq : q < 5) (hw : wa q = ar q) (hT : g 47 2 = nI T) (h : T + 20 ≤ 2000) : k11_feed_63 (f + 1) wa 5 (nI q) (apN 47 2 48 byM ar T q g) = k11_feed_63 f wa 5 (nI (q + 1)) (apN 47 2 48 byM ar T (q + 1) g) := by
  conv => lhs; unfold k11_feed_63
  rw [if_neg (fun z => absurd ((lit_le (M := 5) (k := 5) rfl (by omega) (by omega)).mp z) (by omega))]
  unfold tld
  rw [if_neg (nI_in hq (by omega)), nI_clamp (by omega), hw]
  dsimp only
  rw [k11_app (apN_len hT q) (by omega), nI_1]
  rfl
theorem p_feed : S_feed Inv := by
  intro n g f a1 a2 a3 a4 a5 h
  obtain ⟨N, J, rw, h⟩ := h
  obtain ⟨T, t1, t2, t3, t4⟩ := h.1
  by_cases hm : T ≤ 1980
  · have hgc := apN_len (c := 1) (k := 1) (b := 2) (h := byC) (ar := ar5 a1 a2 a3 a4 a5) t2
    refine ⟨(0, apN 1 1 2 byC (ar5 a1 a2 a3 a4 a5) T 5 g, vp_updL f 0 (nI (T + 20)).toInt64), (nI (T + 20), apN 47 2 48 byM (ar5 a1 a2 a3 a4 a5) T 5 (up (apN 1 1 2 byC (ar5 a1 a2 a3 a4 a5) T 5 g) 47 0 0)), ?_, ?_, ?_, fun _ => rfl, InvC.next (N := N) (J := J) (rw := rw) ?_⟩
    · unfold w_feed k8_feed
      rw [t2, if_pos ((le_lit (M := 1980) (k := 1980) rfl (by omega) (by omega)).mpr hm)]
      have e : ∀ q, q < 5 → k5_append (ar5 a1 a2 a3 a4 a5 q) (apN 1 1 2 byC (ar5 a1 a2 a3 a4 a5) T q g) = some (apN 1 1 2 byC (ar5 a1 a2 a3 a4 a5) T (q + 1) g) := fun q hq => k5_app (hgc q) (by omega)
      have e0 := e 0 (by omega)
      have e1 := e 1 (by omega)
      have e2 := e 2 (by omega)
      have e3 := e 3 (by omega)
      have e4 := e 4 (by omega)
      rw [show k5_append a1 g = _ from e0, some_bind, show k5_append a2 _ = _ from e1, some_bind, show k5_append a3 _ = _ from e2, some_bind, show k5_append a4 _ = _ from e3, some_bind, show k5_append a5 _ = _ from e4, some_bind, hgc]
      exact wr1_0
    · unfold k11_feed
      rw [bd_eq]
      dsimp only
      have hs : (up (apN 1 1 2 byC (ar5 a1 a2 a3 a4 a5) T 5 g) 47 0 0) 47 2 = nI T := by
        rw [up_slot (by decide), apN_ne (by decide) (by decide)]; exact t3
      have hl := apN_len (c := 47) (k := 2) (b := 48) (h := byM) (ar := ar5 a1 a2 a3 a4 a5) hs 5
      generalize hgg : (up (apN 1 1 2 byC (ar5 a1 a2 a3 a4 a5) T 5 g) 47 0 0) = gg at hs hl ⊢
      rw [hs, show nI T + 20 = nI (T + 20) from nI_add T 20, if_pos ((le_lit (M := 2000) (k := 2000) rfl (by omega) (by omega)).mpr (by omega))]
      have t5 : ∀ (w : Nat → Int32) (q : Nat) (v : Int32) (F : (Nat → Int32) → Option (Int32 × G)), q < 5 → tsto w 5 (nI q) v F = F (upd w q v) := by
        intro w q v F hq
        unfold tsto
        rw [if_neg (nI_in hq (by omega)), nI_clamp (by omega)]
      rw [show (0 : Int32) = nI 0 from rfl, t5 _ 0 _ _ (by omega), show (1 : Int32) = nI 1 from rfl, t5 _ 1 _ _ (by omega), show (2 : Int32) = nI 2 from rfl, t5 _ 2 _ _ (by omega), show (3 : Int32) = nI 3 from rfl, t5 _ 3 _ _ (by omega), show (4 : Int32) = nI 4 from rfl, t5 _ 4 _ _ (by omega)]
      generalize hww : upd (upd (upd (upd (upd (fun _ => nI 0) 0 a1) 1 a2) 2 a3) 3 a4) 4 a5 = ww
      have hw : ∀ q, q < 5 → ww q = ar5 a1 a2 a3 a4 a5 q := by
        intro q hq
        subst hww
        rcases (show q = 0 ∨ q = 1 ∨ q = 2 ∨ q = 3 ∨ q = 4 by omega) with rfl | rfl | rfl | rfl | rfl <;> rfl
      show k11_feed_63 (99994 + 1 + 1 + 1 + 1 + 1 + 1) ww 5 (nI 0) (apN 47 2 48 byM (ar5 a1 a2 a3 a4 a5) T 0 gg) = _
      rw [feed63 (by omega) (hw 0 (by omega)) hs (by omega), feed63 (by omega) (hw 1 (by omega)) hs (by omega), feed63 (by omega) (hw 2 (by omega)) hs (by omega), feed63 (by omega) (hw 3 (by omega)) hs (by omega), feed63 (by omega) (hw 4 (by omega)) hs (by omega)]
      unfold k11_feed_63
      rw [if_pos (by decide +kernel), hl]
    · show apN 47 2 48 byM (ar5 a1 a2 a3 a4 a5) T 5 (up (apN 1 1 2 byC (ar5 a1 a2 a3 a4 a5) T 5 g) 47 0 0) 47 0 = 0
      rw [apN_slot (by decide) (by decide), up_self]
    · show InvC n N J rw (apN 47 2 48 byM (ar5 a1 a2 a3 a4 a5) T 5 (up (apN 1 1 2 byC (ar5 a1 a2 a3 a4 a5) T 5 g) 47 0 0))
      refine h.tape (fun a b1 b2 b3 b4 => ?_) ?_ ⟨T + 20, by omega, ?_, ?_, fun j hj => ?_⟩
      · rw [apN_ne b4 b3, up_ne b3, apN_ne b2 b1]
      · rw [apN_slot (by decide) (by decide), up_slot (by decide), apN_ne (by decide) (by decide)]
      · rw [apN_ne (by decide) (by decide), up_other (by decide), apN_len t2]
      · rw [apN_len (by rw [up_slot (by decide), apN_ne (by decide) (by decide)]; exact t3)]
      · rw [show apN 47 2 48 byM (ar5 a1 a2 a3 a4 a5) T 5 (up (apN 1 1 2 byC (ar5 a1 a2 a3 a4 a5) T 5 g) 47 0 0) 2 = apN 1 1 2 byC (ar5 a1 a2 a3 a4 a5) T 5 g 2 by rw [apN_ne (by decide) (by decide), up_ne (by decide)]]
        by_cases e : j < T
        · rw [apN_old (by decide) e, apN_old (by decide) e, up_other (by decide), apN_ne (by decide) (by decide)]
          exact t4 j e
        · rw [show j = T + 4 * ((j - T) / 4) + (j - T) % 4 by omega, apN_new (by decide) (by omega) 5 _ (by omega), apN_new (by decide) (by omega) 5 _ (by omega)]
          exact byte_eq _ _
  · refine ⟨(1, g, f), (0, up (up g 47 0 0) 47 0 1), ?_, ?_, (show up (up g 47 0 0) 47 0 1 47 0 = 1 from up_self), fun h => absurd h (by show ¬ (1 : Int32) = 0; decide), h.thrown.thrown.next⟩
    · unfold w_feed k8_feed
      rw [t2, if_neg (fun z => hm ((le_lit (M := 1980) (k := 1980) rfl (by omega) (by omega)).mp z))]
      exact wr1_e (by decide)
    · unfold k11_feed
      rw [bd_eq]
      dsimp only
      rw [up_slot (by decide), t3, show nI T + 20 = nI (T + 20) from nI_add T 20, if_neg (fun z => absurd ((le_lit (M := 2000) (k := 2000) rfl (by omega) (by omega)).mp z) (by omega))]
      rfl
