/-! minutes pass -/
theorem minute2 {w t N J : Nat} {rw : Nat → Nat} {g0 gc gm : G} (hO : wOK w t) (hP : RelP N g0) (h : RelW w t N J rw gc gm) (pc : planC g0 gc) (pm : planM g0 gm) : ∃ gc' gm' J' e, (∀ f v1 v2, ¬ v1 ≤ v2 → k7_pass_2 w (f + 1) v1 v2 gc = k7_pass_2 w f v1 (v2 + 1) gc') ∧ k11_pass t gm = some (nI e, gm') ∧ e ≤ 1 ∧ RelW w t N J' rw gc' gm' ∧ fC w gc gc' ∧ fM t gm gm' ∧ gc' (w + 9) 4 = gc (w + 9) 4 + nI e := by
  have hO' := hO.o
  unfold okO at hO'
  have ht : t ≠ 78 ∧ 78 < t := by rcases hO with ⟨-, rfl⟩ | ⟨-, rfl⟩ <;> omega
  obtain ⟨K, F, B, k1, k2, k3, k4, k5, k6, k7, k8, k9⟩ := hP
  have h0 := h.stk (gc' := up gc w 4 0) (fun b b1 b2 => up_ne b1) (by rw [up_slot (by decide)])
  have f0 : fC w gc (up gc w 4 0) := fun b hb => up_ne (by omega)
  obtain ⟨gc1, gm1, J1, o1, o2, o3, o4, o5, o6⟩ := orders_loop hO k6 k7 k8 k1 k4 k9 K 0 J (up gc w 4 0) gm (by omega) h0 (pc.f hO f0) pm up_self
  have pc1 := (pc.f hO f0).f hO o4
  have pm1 := pm.f hO o5
  obtain ⟨gc2, gm2, J2, e, x1, x2, x3, x4, x5, x6, x7⟩ := work2 hO o3
  rw [k3, Nat.sub_zero] at o1
  refine ⟨up gc2 w 5 (gc2 w 5 + 1), up gm2 t 8 (gm2 t 8 + 1), J2, e, fun f v1 v2 hv => ?_, ?_, x3, ?_, ((f0.trans o4).trans x5).trans (fun a ha => up_ne (by omega)), (o5.trans x6).trans ⟨fun a a1 a2 a3 a4 a5 a6 => up_ne (by omega), fun k _ _ => up_other (by omega)⟩, ?_⟩
  · conv => lhs; unfold k7_pass_2
    rw [if_neg hv, bd_eq]
    have := o1 (FU - B K) v1 v2 (k7_pass_2 w f)
    rw [show FU - B K + B K = FU by unfold FU; omega] at this
    rw [show k7_pass_14 w (k7_pass_2 w f) FU v1 v2 0 (up gc w 4 0) = _ from this]
    obtain ⟨q, hq⟩ : ∃ q, FU - B K = q + 1 := ⟨FU - B K - 1, by unfold FU; omega⟩
    rw [hq]
    conv => lhs; unfold k7_pass_14
    rw [pc1 16 (by omega), k6, if_pos (by rw [nI_leI (by omega) (by omega)]; omega)]
    unfold k7_pass_60
    rw [x1, some_bind, bd_eq, bd_eq]
  · unfold k11_pass
    have := o2 (FU - K)
    rw [show FU - K + K = FU by unfold FU; omega] at this
    rw [show k11_pass_2 t FU 0 gm = _ from this]
    obtain ⟨q, hq⟩ : ∃ q, FU - K = q + 1 := ⟨FU - K - 1, by unfold FU; omega⟩
    rw [hq]
    unfold k11_pass_2
    rw [pm1 54 (by omega) (by omega), k4, if_pos (by rw [nI_leI (by omega) (by omega)]; omega), x2, some_bind, bd_eq, bd_eq]
    refine zr_01 ?_
    rcases (show e = 0 ∨ e = 1 by omega) with rfl | rfl
    · exact Or.inl rfl
    · exact Or.inr rfl
  · obtain ⟨⟨r1, r2, r3, r4, r5, r6, r7, r8⟩, h2, h3, h4, ⟨q1, q2, q3, q4, q5, q6, q7, q8⟩, h6⟩ := x4
    have c : ∀ a, a ≠ w → up gc2 w 5 (gc2 w 5 + 1) a = gc2 a := fun a ha => up_ne ha
    have m : ∀ a, a ≠ t → up gm2 t 8 (gm2 t 8 + 1) a = gm2 a := fun a ha => up_ne ha
    have hcov : covOf t (up gm2 t 8 (gm2 t 8 + 1)) = covOf t gm2 := by
      unfold covOf
      rw [up_slot (by decide), m _ (by omega)]
    refine ⟨⟨by rw [c _ (by omega)]; exact r1, by rw [m 54 (by omega)]; exact r2, by rw [c _ (by omega), m 54 (by omega)]; exact r3, isRow_same (c _ (by omega)) r4, isRow_same (m _ (by omega)) r5, fun j hj => by rw [c _ (by omega), c _ (by omega), m _ (by omega), m _ (by omega)]; exact r6 j hj, litOK_same (fun i hi => c _ (by omega)) r7, by rw [c _ (by omega), hcov]; exact r8⟩, by rw [c _ (by omega), m 54 (by omega)]; exact h2, fun j hj => by rw [c _ (by omega), m _ (by omega)]; exact h3 j hj, h4.frame (m _ (by omega)) (m _ (by omega)) (m _ (by omega)), ⟨q1, by rw [c _ (by omega)]; exact q2, by rw [up_slot (by decide)]; exact q3, by rw [c _ (by omega), up_slot (by decide)]; exact q4, by rw [c _ (by omega), up_slot (by decide)]; exact q5, fun k hk => by rw [c _ (by omega), c _ (by omega), m _ (by omega), m _ (by omega)]; exact q6 k hk, by rw [up_slot (by decide)]; exact q7, fun z => by rw [up_slot (by decide)]; exact q8 z⟩, by rw [up_self, up_self, h6]⟩
  · rw [up_other (by omega), x7, o6, up_other (by omega)]
def npass (t : Nat) : Nat → G → Option G
  | 0, g => some g
  | d + 1, g => (k11_pass t g).bind fun u => npass t d u.2
theorem passes {w t N k : Nat} {rw : Nat → Nat} {g0 : G} (hO : wOK w t) (hP : RelP N g0) (hk : k ≤ 100) : ∀ (d p f J : Nat) (gc gm : G), k = p + d → d < f → RelW w t N J rw gc gm → planC g0 gc → planM g0 gm → ∃ gc' gm' J' E, k7_pass_2 w f (nI k) (nI p) gc = some gc' ∧ npass t d gm = some gm' ∧ E ≤ d ∧ RelW w t N J' rw gc' gm' ∧ fC w gc gc' ∧ fM t gm gm' ∧ gc' (w + 9) 4 = gc (w + 9) 4 + nI E := by
  intro d
  induction d with
  | zero =>
    intro p f J gc gm hd hf h pc pm
    obtain ⟨f, rfl⟩ : ∃ z, f = z + 1 := ⟨f - 1, by omega⟩
    obtain rfl : k = p := by omega
    refine ⟨gc, gm, J, 0, ?_, rfl, by omega, h, fC.refl, fM.refl, (Int32.add_zero _).symm⟩
    unfold k7_pass_2
    rw [if_pos (by rw [nI_leI (by omega) (by omega)]; omega)]
  | succ d ih =>
    intro p f J gc gm hd hf h pc pm
    obtain ⟨f, rfl⟩ : ∃ z, f = z + 1 := ⟨f - 1, by omega⟩
    obtain ⟨gc1, gm1, J1, e, x1, x2, x3, x4, x5, x6, x7⟩ := minute2 hO hP h pc pm
    obtain ⟨gc', gm', J', E, i1, i2, i3, i4, i5, i6, i7⟩ := ih (p + 1) f J1 gc1 gm1 (by omega) (by omega) x4 (pc.f hO x5) (pm.f hO x6)
    refine ⟨gc', gm', J', e + E, ?_, ?_, by omega, i4, x5.trans i5, x6.trans i6, ?_⟩
    · rw [x1 f (nI k) (nI p) (by rw [nI_leI (by omega) (by omega)]; omega), nI_1, i1]
    · show (k11_pass t gm).bind _ = _
      rw [x2, some_bind]
      exact i2
    · rw [i7, x7, Int32.add_assoc, nI_add]
/-- from one state to two and back -/
theorem InvC.W {n N J : Nat} {rw : Nat → Nat} {g : G} (h : InvC n N J rw g) : RelW 21 79 N J rw g g := ⟨h.R.L, h.R.2.2.2.1, fun m hm => (h.R.2.2.2.2.2.2.1 m hm).2.1, h.2.2.2.1, h.Q, h.2.2.2.2.2.1⟩
theorem RelW.m {w t N J : Nat} {rw : Nat → Nat} {gc gm gm' : G} (hO : wOK w t) (h : RelW w t N J rw gc gm) (hm : ∀ a, 48 ≤ a → gm' a = gm a) : RelW w t N J rw gc gm' := by
  have hO' := hO.o
  unfold okO at hO'
  exact h.fr (fun _ _ _ => rfl) (fun _ _ => rfl) (fun _ _ _ => rfl) rfl h.lok (hm 54 (by omega)) (fun i hi => hm _ (by omega))
theorem RelW.c {w t N J : Nat} {rw : Nat → Nat} {gc gm gc' : G} (hO : wOK w t) (h : RelW w t N J rw gc gm) (hc : ∀ a, a < 47 → gc' a = gc a) : RelW w t N J rw gc' gm := by
  have hw : w + 12 < 47 := by rcases hO with ⟨rfl, -⟩ | ⟨rfl, -⟩ <;> omega
  exact h.fr (fun i _ _ => hc _ (by omega)) (fun i _ => hc _ (by omega)) (fun i _ _ => by rw [hc _ (by omega)]) (by rw [hc _ (by omega)]) (litOK_same (fun i hi => hc _ (by omega)) h.lok) rfl (fun _ _ => rfl)
theorem InvC.ofW {n n' N J J' : Nat} {rw : Nat → Nat} {g g' : G} (h : InvC n N J rw g) (hW : RelW 21 79 N J' rw g' g') (hc : ∀ a, a < 21 ∨ a = 48 ∨ (54 ≤ a ∧ a ≤ 65) → g' a = g a) (h2 : g' 47 2 = g 47 2) (h3 : g' 47 3 = g 47 3) (hd : ∃ d, d ≤ 100 * n' ∧ g' 30 4 = nI d) : InvC n' N J' rw g' := by
  obtain ⟨a1, a2, a3, a4, a5, a6, a7, a8⟩ := h
  obtain ⟨⟨r1, r2, r3, r4, r5, r6, r7, r8⟩, w2, w3, w4, w5, w6⟩ := hW
  exact ⟨a1.frame (hc 1 (by omega)) (hc 2 (by omega)) (hc 48 (by omega)) h2, by rw [hc 0 (by omega), h3]; exact a2, ⟨r1, r2, r3, w2, r4, r5, fun m hm => ⟨(r6 m hm).1, w3 m hm, (r6 m hm).2⟩, r7, r8⟩, w4, w5, w6, hd, a8.frame (fun a ha => hc a (by omega))⟩
theorem minutes_in {a : Int32} : (¬ a < 1 ∧ a ≤ 100) ↔ ∃ k, 1 ≤ k ∧ k ≤ 100 ∧ a = nI k := by
  constructor
  · rintro ⟨h1, h2⟩
    have h0 : ¬ a < 0 := fun z => h1 (Int32.lt_trans z (by decide))
    obtain ⟨k, hk, rfl⟩ := (in_le (N := 100) (by omega)).mp ⟨h0, h2⟩
    refine ⟨k, ?_, hk, rfl⟩
    have : ¬ k < 1 := fun z => h1 ((nI_ltI (a := k) (b := 1) (by omega) (by omega)).mpr z)
    omega
  · rintro ⟨k, k1, k2, rfl⟩
    exact ⟨fun z => absurd ((nI_ltI (a := k) (b := 1) (by omega) (by omega)).mp z) (by omega), (le_lit (M := 100) (k := 100) rfl (by omega) (by omega)).mpr k2⟩
theorem chkM_in {k : Nat} {g : G} (h : 1 ≤ k ∧ k ≤ 100) : k8_checkMinutes (nI k) g = some (0, 0, g) := by
  obtain ⟨h1, h2⟩ := minutes_in.mpr ⟨k, h.1, h.2, rfl⟩
  unfold k8_checkMinutes
  rw [if_neg h1, if_pos h2]
theorem chkM_out {a : Int32} {g : G} (h : ¬ (¬ a < 1 ∧ a ≤ 100)) : k8_checkMinutes a g = some (2, 0, g) := by
  unfold k8_checkMinutes k8_checkMinutes_11
  by_cases h1 : a < 1
  · rw [if_pos h1]
  · rw [if_neg h1, if_neg (fun h2 => h ⟨h1, h2⟩)]
theorem inM {a : Int32} : (if a < 1 then (0 : Int32) else if (100 : Int32) < a then 0 else 1) = if ¬ a < 1 ∧ a ≤ 100 then 1 else 0 := by
  by_cases h1 : a < 1
  · rw [if_pos h1, if_neg (fun z => z.1 h1)]
  · rw [if_neg h1]
    by_cases h2 : a ≤ 100
    · rw [if_neg (Int32.not_lt.mpr h2), if_pos ⟨h1, h2⟩]
    · rw [if_pos (Int32.not_le.mp h2), if_neg (fun z => h2 z.2)]
theorem pm31 {k : Nat} {v2 : Int32} (hk : k ≤ 100) : ∀ (d p f : Nat) (g g' : G), k = p + d → d < f → npass 79 d g = some g' → k11_passMinutes_31 f (nI k) v2 (nI p) g = some (g' 79 9 - v2, g') := by
  intro d
  induction d with
  | zero =>
    intro p f g g' hd hf hp
    obtain ⟨f, rfl⟩ : ∃ z, f = z + 1 := ⟨f - 1, by omega⟩
    obtain rfl : g = g' := Option.some.inj hp
    unfold k11_passMinutes_31
    rw [if_pos (by rw [nI_leI (by omega) (by omega)]; omega)]
  | succ d ih =>
    intro p f g g' hd hf hp
    obtain ⟨f, rfl⟩ : ∃ z, f = z + 1 := ⟨f - 1, by omega⟩
    unfold k11_passMinutes_31
    rw [if_neg (by rw [nI_leI (by omega) (by omega)]; omega)]
    unfold npass at hp
    cases hq : k11_pass 79 g with
    | none => rw [hq] at hp; cases hp
    | some u =>
      rw [hq] at hp
      rw [some_bind, bd_eq, nI_1]
      exact ih (p + 1) f u.2 g' (by omega) (by omega) hp
theorem p_passMinutes : S_passMinutes Inv := by
  intro n g f a h
  obtain ⟨N, J, rw, h⟩ := h
  have hO : wOK 21 79 := Or.inl ⟨rfl, rfl⟩
  obtain ⟨d, d1, d2⟩ := h.2.2.2.2.2.2.1
  have hP := h.2.2.2.2.2.2.2
  by_cases hm : ¬ a < 1 ∧ a ≤ 100
  · obtain ⟨k, k1, k2, rfl⟩ := minutes_in.mp hm
    obtain ⟨gC, -, -, -, c1, -, -, -, c2, -, -⟩ := passes (g0 := g) hO hP k2 k 0 FU J g g (by omega) (by unfold FU; omega) h.W (fun _ _ => rfl) (fun _ _ _ => rfl)
    have ef : ∀ a, 47 ≤ a → gC a = g a := fun a ha => c2 a (by omega)
    have hW : RelW 21 79 N J rw g (up gC 47 0 0) := h.W.m hO (fun a ha => by rw [up_ne (by omega), ef a (by omega)])
    obtain ⟨gC', gM, J', E, e1, e2, e3, e4, e5, e6, e7⟩ := passes (g0 := g) hO hP k2 k 0 FU J g (up gC 47 0 0) (by omega) (by unfold FU; omega) hW (fun _ _ => rfl) (fun a a1 a2 => by rw [up_ne (by omega), ef a (by omega)])
    obtain rfl : gC' = gC := Option.some.inj (e1.symm.trans c1)
    have em : ∀ a, a < 47 → gM a = gC' a := fun a ha => by rw [e6.1 a (by omega) (by omega) (by omega) (by omega) (by omega) (by omega), up_ne (by omega)]
    have hMM : RelW 21 79 N J' rw gM gM := e4.c hO em
    have hdone : gC' 30 4 = nI (d + E) := e7.trans (by rw [show g (21 + 9) 4 = nI d from d2, nI_add])
    have hdM : gM 79 9 = gC' 30 4 := e4.2.2.2.2.1.2.2.2.2.1.symm
    have h79 : (up gC' 47 0 0) 79 9 = g 30 4 := by
      rw [up_other (by decide), ef 79 (by omega)]
      exact h.Q.2.2.2.2.1.symm
    refine ⟨(0, gC', vp_updL f 0 (gC' 30 4 - g 30 4).toInt64), (gM 79 9 - g 30 4, gM), ?_, ?_, ?_, fun _ => by rw [hdM]; rfl, N, J', rw, ?_⟩
    · unfold w_passMinutes k8_passMinutes
      rw [chkM_in ⟨k1, k2⟩, xb_0, bd_eq]
      unfold k7_pass
      rw [show k7_pass_2 21 FU (nI k) 0 g = some gC' from c1, some_bind]
      exact wr1_0
    · unfold k11_passMinutes
      show (k11_isIn (nI k) 1 100 (up gC' 47 0 0)).bind _ = _
      rw [k11_isIn_n, some_bind, inM, if_pos hm, if_neg (by decide), bd_eq, h79]
      exact pm31 k2 k 0 FU (up gC' 47 0 0) gM (by omega) (by unfold FU; omega) e2
    · show gM 47 0 = 0
      rw [e6.2 0 (by decide) (by decide), up_self]
    · show InvC (n + 1) N J' rw gM
      refine h.ofW hMM (fun a ha => ?_) ?_ ?_ ⟨d + E, by omega, by rw [em 30 (by omega)]; exact hdone⟩
      · rw [e6.1 a (by omega) (by omega) (by omega) (by omega) (by omega) (by omega), up_ne (by omega), c2 a (by omega)]
      · rw [e6.2 2 (by decide) (by decide), up_slot (by decide), ef 47 (by omega)]
      · rw [e6.2 3 (by decide) (by decide), up_slot (by decide), ef 47 (by omega)]
  · refine ⟨(1, g, f), (0, up (up g 47 0 0) 47 0 1), ?_, ?_, (show up (up g 47 0 0) 47 0 1 47 0 = 1 from up_self), fun h => absurd h (by show ¬ (1 : Int32) = 0; decide), h.thrown.thrown.next⟩
    · unfold w_passMinutes k8_passMinutes
      rw [chkM_out hm, xb_e (by decide)]
      exact wr1_e (by decide)
    · unfold k11_passMinutes
      show (k11_isIn a 1 100 (up g 47 0 0)).bind _ = _
      rw [k11_isIn_n, some_bind, inM, if_neg hm, if_pos rfl]
      rfl
