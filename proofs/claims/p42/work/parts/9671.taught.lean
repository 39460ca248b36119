/-! the law teaches a text: twenty bytes at a time -/
def Tg (P : Int32 → ZS → Prop) (z : Option (Int32 × ZS)) (S : ZS) : Prop := ∃ x S', z = some (x, S') ∧ S'.c ≤ S.c ∧ S'.w ≤ S.w ∧ P x S'
theorem tg_chk {P : Int32 → ZS → Prop} {z : Option (Int32 × ZS)} {S S' : ZS} (h : Tg P z S') (hc : S'.c ≤ S.c) (hw : S'.w ≤ S.w) : Tg P (chk Prod.snd S' z) S := by
  obtain ⟨x, S2, e, h1, h2, h3⟩ := h
  exact ⟨x, S2, chk_of e h1 h2, Nat.le_trans h1 hc, Nat.le_trans h2 hw, h3⟩
theorem k_length {S : ZS} {c : Nat} {w : List Int32} (h : SO S c w) : kNJ0_length_8abf5 c S = some (nI w.length, S) := s_len h.2.1 h.2.2.1 h.2.2.2.1
theorem u16_all : ((List.range 128).all fun n => decide (((nI n &&& 255).toUInt32 % 65536).toInt32 = nI n ∧ 0 ≤ nI n ∧ nI n ≤ 65535)) = true := by decide +kernel
theorem k_charAt {S : ZS} {c j : Nat} {w : List Int32} (h : SO S c w) (hj : j < w.length) : kNJ0_charAt_5068e c (nI j) S = some (w.getD j 0, S) := by
  obtain ⟨h1, h2, h3, h4, h5⟩ := h
  obtain ⟨n, hn, en⟩ := h1.at hj
  obtain ⟨u1, u2, u3⟩ := of_decide_eq_true (List.all_eq_true.mp u16_all n (List.mem_range.mpr hn))
  have h9 := h4.2.2.2
  have hz : zcL (nI n) S = some (nI n, S) := if_pos ⟨u2, u3⟩
  have e1 : kNJ0_isLatin1_aae02 c S = some (1, S) := by
    unfold kNJ0_isLatin1_aae02
    refine chk_of ?_ (Nat.le_refl _) (Nat.le_refl _)
    rw [gI_o h2, h3, if_pos rfl]
  have e2 : kNJ1_charAt_3b067 (S.r (c / 2) 0) (nI j) S = some (nI n, S) := by
    unfold kNJ1_charAt_3b067
    refine chk_of ?_ (Nat.le_refl _) (Nat.le_refl _)
    have e3 : kJ0_checkIndex_df160 (nI j) (nI w.length) S.g = some () := by
      unfold kJ0_checkIndex_df160 kJ3_checkIndex
      rw [if_neg (nI_pos (by omega)), if_pos ((nI_ltI (by omega) (by omega)).mpr hj)]
      rfl
    rw [aL_n h4, e3, some_bind, aG_n h4 hj, h5 j hj, en, u1, hz]
  unfold kNJ0_charAt_5068e
  refine chk_of ?_ (Nat.le_refl _) (Nat.le_refl _)
  rw [rcv_o h2, e1, b2_s]
  refine chk_of ?_ (Nat.le_refl _) (Nat.le_refl _)
  rw [if_neg (show ¬ (1 : Int32) = 0 by decide), gN_o h2 h4.ne0, e2, b2_s]
  rw [hz, en]
  exact chk_of rfl (Nat.le_refl _) (Nat.le_refl _)
/-- the string c and the row v of five -/
def FS (c v : Nat) (w : List Int32) (S : ZS) : Prop := SO S c w ∧ AR S v 100000 5 ∧ c / 2 ≠ v / 2 ∧ S.r (c / 2) 0 / 2 ≠ v / 2
def Lnk (v : Nat) (S1 S : ZS) : Prop := S.n = S1.n ∧ S.K = S1.K ∧ S.r = S1.r ∧ ∀ o, o ≠ v / 2 → S.i o = S1.i o
theorem Lnk.refl {v : Nat} {S : ZS} : Lnk v S S := ⟨rfl, rfl, rfl, fun _ _ => rfl⟩
theorem Lnk.wi {v k : Nat} {x : Int32} {S1 S : ZS} (h : Lnk v S1 S) : Lnk v S1 (S.wi (v / 2) k x) := ⟨h.1, h.2.1, h.2.2.1, fun o ho => by rw [wi_ne ho]; exact h.2.2.2 o ho⟩
theorem Lnk.lk {v : Nat} {S1 S S' : ZS} (h : Lnk v S1 S) (h1 : S'.n = S.n) (h2 : S'.K = S.K) (h3 : S'.r = S.r) (h4 : S'.i = S.i) : Lnk v S1 S' := ⟨h1.trans h.1, h2.trans h.2.1, h3.trans h.2.2.1, fun o ho => by rw [h4]; exact h.2.2.2 o ho⟩
theorem FS.lk {c v : Nat} {w : List Int32} {S1 S : ZS} (h : FS c v w S1) (l : Lnk v S1 S) : FS c v w S := by
  obtain ⟨⟨a1, a2, a3, a4, a5⟩, b, n1, n2⟩ := h
  obtain ⟨l1, l2, l3, l4⟩ := l
  have hOB : ∀ d k, OB S1 d k → OB S d k := fun d k z => ⟨z.1, by rw [l1]; exact z.2.1, by rw [l2]; exact z.2.2⟩
  have hAR : ∀ d k n, AR S1 d k n → AR S d k n := fun d k n z => ⟨z.1, by rw [l1]; exact z.2.1, by rw [l2]; exact z.2.2.1, z.2.2.2⟩
  refine ⟨⟨a1, hOB _ _ a2, by rw [l4 _ n1]; exact a3, by rw [l3]; exact hAR _ _ _ a4, fun j hj => by rw [l3, l4 _ n2]; exact a5 j hj⟩, hAR _ _ _ b, n1, by rw [l3]; exact n2⟩
theorem t36 {P : Int32 → ZS → Prop} {K17 : Nat → Nat → Int32 → Int32 → ZS → Option (Int32 × ZS)} {c v at' k : Nat} {w : List Int32} {S1 : ZS} (h1 : FS c v w S1) (hk : k < 5) (hat : at' ≤ 2000) (hw : w.length ≤ 2000) : ∀ d j f S, j + d = 4 → d < f → Lnk v S1 S → (∀ S', Lnk v S1 S' → S'.g = S.g → S'.c = S.c → S'.w = S.w → S'.i (v / 2) k = pkF w (at' + 4 * k + j) d (S.i (v / 2) k) → (∀ k', k' ≠ k → S'.i (v / 2) k' = S.i (v / 2) k') → Tg P (K17 c v (nI at') (nI (k + 1)) S') S') → Tg P (kL_taught_36 K17 f c v (nI at') (nI k) (nI (at' + 4 * k + j)) S) S := by
  intro d
  induction d with
  | zero =>
    intro j f S hj hf hl H
    obtain ⟨f, rfl⟩ : ∃ z, f = z + 1 := ⟨f - 1, by omega⟩
    unfold kL_taught_36
    rw [show (4 : Int32) = nI 4 from rfl, nI_times, nI_plus, nI_plus, if_pos ((nI_leI (by omega) (by omega)).mpr (by omega)), bd_eq, nI_1]
    exact H S hl rfl rfl rfl rfl (fun _ _ => rfl)
  | succ d ih =>
    intro j f S hj hf hl H
    obtain ⟨f, rfl⟩ : ∃ z, f = z + 1 := ⟨f - 1, by omega⟩
    obtain ⟨f1, f2, f3, f4⟩ := h1.lk hl
    have hstep : Tg P (kL_taught_36 K17 f c v (nI at') (nI k) (nI (at' + 4 * k + j + 1)) (S.wi (v / 2) k ((S.i (v / 2) k <<< (8 &&& 31)) ||| pd w (at' + 4 * k + j)))) (S.wi (v / 2) k ((S.i (v / 2) k <<< (8 &&& 31)) ||| pd w (at' + 4 * k + j))) := by
      refine ih (j + 1) f _ (by omega) (by omega) hl.wi (fun S' l' g' c' w' v' o' => ?_)
      refine H S' l' g' c' w' ?_ (fun k' hk' => ?_)
      · rw [v']
        show pkF w _ d ((up S.i (v / 2) k _) (v / 2) k) = _
        rw [up_self]
        rfl
      · rw [o' k' hk']
        exact up_slot' hk'
    unfold kL_taught_36
    rw [show (4 : Int32) = nI 4 from rfl, nI_times, nI_plus, nI_plus, if_neg (by rw [nI_leI (by omega) (by omega)]; omega), aG_n f2 hk, rcv_o f1.2.1, k_length f1, b2_s]
    refine tg_chk ?_ (Nat.le_refl _) (Nat.le_refl _)
    by_cases e : at' + 4 * k + j < w.length
    · rw [if_neg (by rw [nI_leI (by omega) (by omega)]; omega), rcv_o f1.2.1, k_charAt f1 e, b2_s]
      refine tg_chk ?_ (Nat.le_refl _) (Nat.le_refl _)
      have ep : pd w (at' + 4 * k + j) = w.getD (at' + 4 * k + j) 0 := if_pos e
      rw [ep] at hstep
      unfold kL_taught_79
      rw [aP_n f2 hk, bd_eq, nI_1]
      exact hstep
    · rw [if_pos ((nI_leI (by omega) (by omega)).mpr (by omega))]
      have ep : pd w (at' + 4 * k + j) = 32 := if_neg e
      rw [ep] at hstep
      unfold kL_taught_79
      rw [aP_n f2 hk, bd_eq, nI_1]
      exact hstep
theorem t17 {P : Int32 → ZS → Prop} {K6 : Nat → Nat → Int32 → ZS → Option (Int32 × ZS)} {c v at' : Nat} {w : List Int32} {S1 : ZS} (h1 : FS c v w S1) (hat : at' ≤ 2000) (hw : w.length ≤ 2000) : ∀ d k f S, k + d = 5 → d < f → Lnk v S1 S → (∀ i, i < k → S.i (v / 2) i = pkF w (at' + 4 * i) 4 0) → (∀ S', Lnk v S1 S' → S'.g = S.g → S'.c = S.c → S'.w = S.w → Tg P (clR Prod.snd S' 3 18 (k8_feed (pkF w (at' + 4 * 0) 4 0) (pkF w (at' + 4 * 1) 4 0) (pkF w (at' + 4 * 2) 4 0) (pkF w (at' + 4 * 3) 4 0) (pkF w (at' + 4 * 4) 4 0) S'.g) fun _ S20 => K6 c v (nI (at' + 20)) S20) S') → Tg P (kL_taught_17 K6 f c v (nI at') (nI k) S) S := by
  intro d
  induction d with
  | zero =>
    intro k f S hk hf hl hv H
    obtain ⟨f, rfl⟩ : ∃ z, f = z + 1 := ⟨f - 1, by omega⟩
    obtain ⟨f1, f2, f3, f4⟩ := h1.lk hl
    have := H S hl rfl rfl rfl
    unfold kL_taught_17
    have a0 := aG_n (ρ := Int32 × ZS) (j := 0) f2 (by omega) (f := fun x14 => aG S v 100000 1 fun x15 => aG S v 100000 2 fun x16 => aG S v 100000 3 fun x17 => aG S v 100000 4 fun x18 => clR Prod.snd S 3 18 (k8_feed x14 x15 x16 x17 x18 S.g) fun x19 S20 => bd (nI at' + 20) fun x21 => K6 c v x21 S20)
    have a1 := fun (F : Int32 → Option (Int32 × ZS)) => aG_n (j := 1) f2 (by omega) (f := F)
    have a2 := fun (F : Int32 → Option (Int32 × ZS)) => aG_n (j := 2) f2 (by omega) (f := F)
    have a3 := fun (F : Int32 → Option (Int32 × ZS)) => aG_n (j := 3) f2 (by omega) (f := F)
    have a4 := fun (F : Int32 → Option (Int32 × ZS)) => aG_n (j := 4) f2 (by omega) (f := F)
    rw [if_pos (show 5 ≤ nI k from (nI_leI (a := 5) (by omega) (by omega)).mpr (by omega))]
    refine Eq.mp (congrArg (fun z => Tg P z S) a0.symm) ?_
    show Tg P (aG S v 100000 (nI 1) _) S
    rw [a1]
    show Tg P (aG S v 100000 (nI 2) _) S
    rw [a2]
    show Tg P (aG S v 100000 (nI 3) _) S
    rw [a3]
    show Tg P (aG S v 100000 (nI 4) _) S
    rw [a4, hv 0 (by omega), hv 1 (by omega), hv 2 (by omega), hv 3 (by omega), hv 4 (by omega)]
    have e20 : nI at' + 20 = nI (at' + 20) := by rw [show (20 : Int32) = nI 20 from rfl, nI_plus]
    rw [e20]
    exact this
  | succ d ih =>
    intro k f S hk hf hl hv H
    obtain ⟨f, rfl⟩ : ∃ z, f = z + 1 := ⟨f - 1, by omega⟩
    obtain ⟨f1, f2, f3, f4⟩ := h1.lk hl
    unfold kL_taught_17
    rw [if_neg (by rw [show (5 : Int32) = nI 5 from rfl, nI_leI (by omega) (by omega)]; omega), aP_n f2 (by omega), bd_eq, show (4 : Int32) = nI 4 from rfl, nI_times, nI_plus]
    have := t36 (P := P) (K17 := kL_taught_17 K6 f) (k := k) h1 (by omega) hat hw 4 0 FU (S.wi (v / 2) k 0) rfl (show 4 < 100000 by decide) hl.wi (fun S' l' g' c' w' v' o' => by
      refine ih (k + 1) f S' (by omega) (by omega) l' (fun i hi => ?_) (fun S2 l2 g2 c2 w2 => H S2 l2 (g2.trans g') (c2.trans c') (w2.trans w'))
      by_cases e : i = k
      · rw [e, v']
        show pkF w _ 4 ((up S.i (v / 2) k 0) (v / 2) k) = _
        rw [up_self]
        rfl
      · rw [o' i e]
        show (up S.i (v / 2) k 0) (v / 2) i = _
        rw [up_slot' e]
        exact hv i (by omega))
    exact this
