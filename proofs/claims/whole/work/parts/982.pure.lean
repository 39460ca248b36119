/-! symbols -/
def g_0 : G := fun _ _ => 0
def symS (b : Nat) : Nat := if b = 40 then 49 else if b = 41 then 50 else if b = 91 then 51 else if b = 93 then 52 else if b = 59 then 53 else if b = 44 then 54 else if b = 43 then 40 else if b = 45 then 41 else if b = 42 then 42 else if b = 47 then 43 else if b = 60 then 44 else if b = 62 then 45 else if b = 61 then 46 else 32
theorem sym_all : ((List.range 256).all fun b => decide (k11_symbol (nI b) g_0 = some (nI (symS b)))) = true := by decide +kernel
theorem sym_n {b : Nat} (h : b < 256) (g : G) : k11_symbol (nI b) g = some (nI (symS b)) := by
  have := of_decide_eq_true (List.all_eq_true.mp sym_all b (List.mem_range.mpr h))
  rw [← this]
  rfl
theorem idx_g (g g' : G) (v0 : Nat) (v3 v4 : Int32) : ∀ f v5, kJ1_indexOfChar_4cfef_7 g f v0 v3 v4 v5 = kJ1_indexOfChar_4cfef_7 g' f v0 v3 v4 v5 := by
  intro f
  induction f with
  | zero => intro v5; rfl
  | succ f ih =>
    intro v5
    unfold kJ1_indexOfChar_4cfef_7
    simp only [ih]
def idxV (b : Nat) : Option Int32 := kJ0_indexOf_0f7a4 27 (((nI b).toUInt32 % 65536).toInt32) g_0
theorem idx_all : ((List.range 256).all fun b => decide ((idxV b).isSome = true ∧ (0 ≤ (idxV b).getD 0 ↔ ¬ symS b = 32))) = true := by decide +kernel
theorem idx_n {b : Nat} (h : b < 256) (g : G) : kJ0_indexOf_0f7a4 27 (((nI b).toUInt32 % 65536).toInt32) g = idxV b := by
  unfold idxV kJ0_indexOf_0f7a4 kJ0_indexOf_7cf53 kJ1_indexOf_4cfef kJ1_indexOfChar_4cfef
  simp only [idx_g g g_0]
  rfl
theorem kap_all : ((List.range 256).all fun b => decide (symS b = 32 ∨ (kap (symS b) = b ∧ 40 ≤ symS b ∧ symS b ≤ 54))) = true := by decide +kernel
/-- what the reference keeps of a token -/
def refE (g g' : G) (k s p z v : Nat) : Prop := (∀ a, a < 49 ∨ 52 < a → g' a = g a) ∧ (∀ a i, i ≠ k → g' a i = g a i) ∧ g' 49 k = nI s ∧ g' 51 k = nI p ∧ g' 52 k = nI z ∧ (s = 31 → g' 50 k = nI v)
theorem refE.tape {g g' : G} {k s p z v T : Nat} {B : Nat → Int32} (h : refE g g' k s p z v) (hm : TapeM T B g) : TapeM T B g' := ⟨by rw [h.1 47 (by omega)]; exact hm.1, fun p hp => by rw [h.1 48 (by omega)]; exact hm.2 p hp⟩
theorem r239 {k p q : Nat} {g : G} (hk : k ≤ 400) (hq : p ≤ q ∧ q < 2 ^ 31) : k11_read_239 (nI p) (nI k) (nI q) g = some (nI q, up g 52 k (nI (q - p))) := by
  unfold k11_read_239
  rw [sto_n (by omega) (by omega), nI_sub hq.1 hq.2]
theorem read2 {T p k : Nat} {B : Nat → Int32} (hB : Bok T B) (hp : p < T) (hk : k ≤ 400) : ∃ q s v, p < q ∧ q ≤ T ∧ v < 1000000 ∧ (∀ gm, TapeM T B gm → ∃ gm', k11_read (nI p) (nI k) gm = some (nI q, gm') ∧ refE gm gm' k s p (q - p) v) ∧ ((s = 32 ∧ ∀ gc, TapeC T B gc → k6_readToken (nI p) gc = some (-1, gc)) ∨ (okS s ∧ ∀ gc, TapeC T B gc → gc 3 5 = nI k → ∃ gc', k6_readToken (nI p) gc = some (nI q, gc') ∧ tokE gc gc' k (kap s) p (q - p) (if s = 31 then v else 0))) := by
  have hT := hB.1
  obtain ⟨b, hb, hBp⟩ := hB.2.1 p hp
  have mstart : ∀ gm, TapeM T B gm → k11_read (nI p) (nI k) gm = (if letV (B p) = 0 then (if digV (B p) = 0 then (k11_symbol (B p) (up gm 51 k (nI p))).bind fun u34 => sto (up gm 51 k (nI p)) 49 402 (nI k) u34 fun g35 => ld g35 49 402 (nI k) fun x36 => if x36 = 44 then k11_read_201 (nI p) (nI k) (nI (p + 1)) g35 else ld g35 49 402 (nI k) fun x38 => if x38 = 45 then k11_read_201 (nI p) (nI k) (nI (p + 1)) g35 else k11_read_239 (nI p) (nI k) (nI (p + 1)) g35 else k11_read_87 FU (nI p) (nI k) (nI (p + 1)) (B p - 48) (up gm 51 k (nI p))) else k11_read_26 FU (nI p) (nI k) (nI (p + 1)) (up gm 51 k (nI p))) := by
    intro gm hm
    unfold k11_read
    rw [ld_n (by omega) (by omega), hm.2 p hp, bd_eq, nI_1, sto_n (by omega) (by omega), k11_let, some_bind]
    by_cases e : letV (B p) = 0
    · rw [if_pos e, if_pos e, k11_dig, some_bind]
      by_cases e2 : digV (B p) = 0
      · rw [if_pos e2, if_pos e2]
      · rw [if_neg e2, if_neg e2, bd_eq]
    · rw [if_neg e, if_neg e]
  have cstart : ∀ gc, TapeC T B gc → k6_readToken (nI p) gc = (if letV (B p) = 0 then (if digV (B p) = 0 then (k6_readSymbol (nI p) (B p) gc).bind fun u6 => some (u6.1, u6.2) else (k6_readNumber (nI p) gc).bind fun u7 => some (u7.1, u7.2)) else (k6_readWord (nI p) gc).bind fun u8 => some (u8.1, u8.2)) := by
    intro gc hc
    unfold k6_readToken
    rw [byteC hB hc (by omega), some_bind, k5_let, some_bind]
    by_cases e : letV (B p) = 0
    · rw [if_pos e, if_pos e, k5_dig, some_bind]
    · rw [if_neg e, if_neg e]
  have tm51 : ∀ gm, TapeM T B gm → TapeM T B (up gm 51 k (nI p)) := fun gm hm => ⟨by rw [up_other (by decide)]; exact hm.1, fun p hp => by rw [up_other (by decide)]; exact hm.2 p hp⟩
  by_cases e : letV (B p) = 0
  · by_cases e2 : digV (B p) = 0
    · -- a symbol
      have hs := of_decide_eq_true (List.all_eq_true.mp idx_all b (List.mem_range.mpr hb))
      have hkap := of_decide_eq_true (List.all_eq_true.mp kap_all b (List.mem_range.mpr hb))
      obtain ⟨u, hu⟩ := Option.isSome_iff_exists.mp hs.1
      have hu2 : 0 ≤ u ↔ ¬ symS b = 32 := by
        have := hs.2
        rw [hu] at this
        exact this
      have c60 : ∀ gc, k6_readSymbol_60 (nI p) (nI b) gc = if 0 ≤ u then (k6_add (nI b) (nI p) (nI p + 1) gc).bind fun g5 => some ((nI p + 1), g5) else some (-1, gc) := by
        intro gc
        unfold k6_readSymbol_60 ckS
        rw [if_pos (show 27 < 65 by omega), idx_n hb, hu, some_bind]
      have h256 : ∀ c : Nat, c < 256 → (nI b = nI c ↔ b = c) := fun c hc => nI_eq (by omega) (by omega)
      have two : B (p + 1) = 61 → (b = 60 ∨ b = 62) → ∃ q s v, p < q ∧ q ≤ T ∧ v < 1000000 ∧ (∀ gm, TapeM T B gm → ∃ gm', k11_read (nI p) (nI k) gm = some (nI q, gm') ∧ refE gm gm' k s p (q - p) v) ∧ ((s = 32 ∧ ∀ gc, TapeC T B gc → k6_readToken (nI p) gc = some (-1, gc)) ∨ (okS s ∧ ∀ gc, TapeC T B gc → gc 3 5 = nI k → ∃ gc', k6_readToken (nI p) gc = some (nI q, gc') ∧ tokE gc gc' k (kap s) p (q - p) (if s = 31 then v else 0))) := by
        intro h61 hb2
        have hpT : p + 1 < T := by
          rcases Nat.lt_or_ge (p + 1) T with q | q
          · exact q
          · rw [hB.end q] at h61; exact absurd h61 (by decide)
        refine ⟨p + 2, if b = 60 then 47 else 48, 0, by omega, by omega, by omega, fun gm hm => ?_, Or.inr ⟨?_, fun gc hc h35 => ?_⟩⟩
        · refine ⟨up (up (up (up gm 51 k (nI p)) 49 k (nI (symS b))) 49 k (nI (if b = 60 then 47 else 48))) 52 k (nI (p + 2 - p)), ?_, fun a ha => ?_, fun a i hi => ?_, ?_, ?_, up_self, fun h => ?_⟩
          · rw [mstart gm hm, if_pos e, if_pos e2, hBp, sym_n hb, some_bind, sto_n (by omega) (by omega), ld_n (by omega) (by omega), up_self]
            have tm2 : TapeM T B (up (up gm 51 k (nI p)) 49 k (nI (symS b))) := ⟨by rw [up_other (by decide)]; exact (tm51 gm hm).1, fun p hp => by rw [up_other (by decide)]; exact (tm51 gm hm).2 p hp⟩
            have h201 : k11_read_201 (nI p) (nI k) (nI (p + 1)) (up (up gm 51 k (nI p)) 49 k (nI (symS b))) = some (nI (p + 2), up (up (up (up gm 51 k (nI p)) 49 k (nI (symS b))) 49 k (nI (if b = 60 then 47 else 48))) 52 k (nI (p + 2 - p))) := by
              unfold k11_read_201
              rw [byteM hB tm2 (by omega), some_bind, h61, if_pos rfl, ld_n (by omega) (by omega), up_self]
              unfold k11_read_235
              rcases hb2 with rfl | rfl
              · rw [if_pos (by decide), sto_n (by omega) (by omega), bd_eq, nI_1, r239 hk ⟨by omega, by omega⟩]
                rfl
              · rw [if_neg (by decide), sto_n (by omega) (by omega), bd_eq, nI_1, r239 hk ⟨by omega, by omega⟩]
                rfl
            rcases hb2 with rfl | rfl
            · rw [if_pos (by decide)]; exact h201
            · rw [if_neg (by decide), ld_n (by omega) (by omega), up_self, if_pos (by decide)]; exact h201
          · rw [up_ne (by omega), up_ne (by omega), up_ne (by omega), up_ne (by omega)]
          · rw [up_app, up_app, up_app, up_app, if_neg (fun z => hi z.2), if_neg (fun z => hi z.2), if_neg (fun z => hi z.2), if_neg (fun z => hi z.2)]
          · rw [up_other (by decide), up_self]
          · rw [up_other (by decide), up_other (by decide), up_other (by decide), up_self]
          · rcases hb2 with rfl | rfl <;> exact absurd h (by decide)
        · rcases hb2 with rfl | rfl <;> (right; right; right; decide)
        · refine ⟨addT k (nI (kap (if b = 60 then 47 else 48))) (nI p) (nI (p + 2 - p)) gc, ?_, ?_⟩
          · rw [cstart gc hc, if_pos e, if_pos e2]
            unfold k6_readSymbol
            rw [nI_1, byteC hB hc (by omega), some_bind, h61, if_pos rfl, hBp]
            unfold k6_readSymbol_20 k6_readSymbol_37 k6_readSymbol_49
            have h2 : nI p + 2 = nI (p + 2) := nI_add p 2
            rcases hb2 with rfl | rfl
            · rw [if_neg (by decide), if_pos (by decide), if_pos (by decide), k6_add_n hk h35, some_bind, some_bind, h2, nI_sub (by omega) (by omega)]
              rfl
            · rw [if_neg (by decide), if_neg (by decide), if_pos (by decide), if_neg (by decide), k6_add_n hk h35, some_bind, some_bind, h2, nI_sub (by omega) (by omega)]
              rfl
          · have h0 : (if (if b = 60 then 47 else 48) = 31 then 0 else 0) = 0 := by split <;> rfl
            rw [h0]
            exact addT_E
      have one : ¬ (B (p + 1) = 61 ∧ (b = 60 ∨ b = 62)) → ∃ q s v, p < q ∧ q ≤ T ∧ v < 1000000 ∧ (∀ gm, TapeM T B gm → ∃ gm', k11_read (nI p) (nI k) gm = some (nI q, gm') ∧ refE gm gm' k s p (q - p) v) ∧ ((s = 32 ∧ ∀ gc, TapeC T B gc → k6_readToken (nI p) gc = some (-1, gc)) ∨ (okS s ∧ ∀ gc, TapeC T B gc → gc 3 5 = nI k → ∃ gc', k6_readToken (nI p) gc = some (nI q, gc') ∧ tokE gc gc' k (kap s) p (q - p) (if s = 31 then v else 0))) := by
        intro hno
        have ccls : ∀ gc, TapeC T B gc → k6_readSymbol (nI p) (nI b) gc = k6_readSymbol_60 (nI p) (nI b) gc := by
          intro gc hc
          unfold k6_readSymbol
          rw [nI_1, byteC hB hc (by omega), some_bind]
          unfold k6_readSymbol_20
          by_cases h61 : B (p + 1) = 61
          · have n60 : ¬ nI b = 60 := fun z => hno ⟨h61, Or.inl ((nI_eq (b := 60) (by omega) (by omega)).mp z)⟩
            have n62 : ¬ nI b = 62 := fun z => hno ⟨h61, Or.inr ((nI_eq (b := 62) (by omega) (by omega)).mp z)⟩
            rw [if_pos h61, if_neg (show ¬ (1 : Int32) = 0 by decide), if_neg n60, if_neg n62]
          · rw [if_neg h61, if_pos rfl]
        have s60 : symS b = 44 → b = 60 := by
          have : ((List.range 256).all fun b => decide (symS b = 44 → b = 60)) = true := by decide +kernel
          exact of_decide_eq_true (List.all_eq_true.mp this b (List.mem_range.mpr hb))
        have s62 : symS b = 45 → b = 62 := by
          have : ((List.range 256).all fun b => decide (symS b = 45 → b = 62)) = true := by decide +kernel
          exact of_decide_eq_true (List.all_eq_true.mp this b (List.mem_range.mpr hb))
        have hsym : symS b < 64 := by rcases hkap with q | ⟨-, -, q⟩ <;> omega
        refine ⟨p + 1, symS b, 0, by omega, by omega, by omega, fun gm hm => ?_, ?_⟩
        · refine ⟨up (up (up gm 51 k (nI p)) 49 k (nI (symS b))) 52 k (nI (p + 1 - p)), ?_, fun a ha => ?_, fun a i hi => ?_, ?_, ?_, up_self, fun h => ?_⟩
          · rw [mstart gm hm, if_pos e, if_pos e2, hBp, sym_n hb, some_bind, sto_n (by omega) (by omega), ld_n (by omega) (by omega), up_self]
            have tm2 : TapeM T B (up (up gm 51 k (nI p)) 49 k (nI (symS b))) := ⟨by rw [up_other (by decide)]; exact (tm51 gm hm).1, fun p hp => by rw [up_other (by decide)]; exact (tm51 gm hm).2 p hp⟩
            have h201 : ¬ B (p + 1) = 61 → k11_read_201 (nI p) (nI k) (nI (p + 1)) (up (up gm 51 k (nI p)) 49 k (nI (symS b))) = some (nI (p + 1), up (up (up gm 51 k (nI p)) 49 k (nI (symS b))) 52 k (nI (p + 1 - p))) := by
              intro h61
              unfold k11_read_201
              rw [byteM hB tm2 (by omega), some_bind, if_neg h61, r239 hk ⟨by omega, by omega⟩]
            by_cases q1 : symS b = 44
            · rw [if_pos (by rw [q1]; rfl)]
              exact h201 (fun z => hno ⟨z, Or.inl (s60 q1)⟩)
            · rw [if_neg (show ¬ nI (symS b) = 44 from fun z => q1 ((nI_eq (b := 44) (by omega) (by omega)).mp z)), ld_n (by omega) (by omega), up_self]
              by_cases q2 : symS b = 45
              · rw [if_pos (by rw [q2]; rfl)]
                exact h201 (fun z => hno ⟨z, Or.inr (s62 q2)⟩)
              · rw [if_neg (show ¬ nI (symS b) = 45 from fun z => q2 ((nI_eq (b := 45) (by omega) (by omega)).mp z)), r239 hk ⟨by omega, by omega⟩]
          · rw [up_ne (by omega), up_ne (by omega), up_ne (by omega)]
          · rw [up_app, up_app, up_app, if_neg (fun z => hi z.2), if_neg (fun z => hi z.2), if_neg (fun z => hi z.2)]
          · rw [up_other (by decide), up_self]
          · rw [up_other (by decide), up_other (by decide), up_self]
          · rcases hkap with q | ⟨-, q, -⟩ <;> omega
        · by_cases q : symS b = 32
          · refine Or.inl ⟨q, fun gc hc => ?_⟩
            rw [cstart gc hc, if_pos e, if_pos e2, hBp, ccls gc hc, c60, if_neg (fun z => hu2.mp z q), some_bind]
          · obtain ⟨k1, k2, k3⟩ := hkap.resolve_left q
            refine Or.inr ⟨Or.inr (Or.inr (Or.inr ⟨k2, k3⟩)), fun gc hc h35 => ⟨addT k (nI b) (nI p) (nI (p + 1 - p)) gc, ?_, ?_⟩⟩
            · rw [cstart gc hc, if_pos e, if_pos e2, hBp, ccls gc hc, c60, if_pos (hu2.mpr q), nI_1, k6_add_n hk h35, some_bind, some_bind, nI_sub (by omega) (by omega)]
            · rw [if_neg (by omega), k1]
              exact addT_E
      by_cases h2 : B (p + 1) = 61 ∧ (b = 60 ∨ b = 62)
      · exact two h2.1 h2.2
      · exact one h2
    · -- a number
      have d1 : digV (B p) = 1 := (digV_01 _).resolve_left e2
      obtain ⟨m, m1, m2, m3, m4, m5⟩ := dig2 (a := p) hB (T - p - 1) 1 (by omega) (fun i hi => by rw [show p + i = p by omega]; exact d1)
      have hfirst : B p - 48 = numV B p (min 1 7) := by
        show B p - 48 = 0 * 10 + (B (p + 0) - 48)
        rw [Int32.zero_mul, Int32.zero_add]; rfl
      have mrun : ∀ gm, TapeM T B gm → k11_read (nI p) (nI k) gm = some (nI (p + m), up (up (up (up gm 51 k (nI p)) 50 k (numV B p (min m 7))) 49 k (nI (if m ≤ 6 then 31 else 32))) 52 k (nI (p + m - p))) := by
        intro gm hm
        rw [mstart gm hm, if_pos e, if_neg e2, hfirst, m5 _ FU (nI k) (by omega) (tm51 gm hm) (by unfold FU; omega), sto_n (by omega) (by omega), nI_sub (by omega) (by omega), show p + m - p = m by omega]
        unfold k11_read_165
        by_cases q : m ≤ 6
        · rw [if_pos ((le_lit (M := 6) (k := 6) rfl (by omega) (by omega)).mpr q), sto_n (by omega) (by omega), r239 hk ⟨by omega, by omega⟩, if_pos q, show p + m - p = m by omega]
          rfl
        · rw [if_neg (by rw [le_lit (M := 6) (k := 6) rfl (by omega) (by omega)]; exact q), sto_n (by omega) (by omega), r239 hk ⟨by omega, by omega⟩, if_neg q, show p + m - p = m by omega]
          rfl
      by_cases q : m ≤ 6
      · obtain ⟨v, v1, v2⟩ := numV_n (B := B) (a := p) m m3
        have v3 : v < 1000000 := Nat.lt_of_lt_of_le v1 (Nat.pow_le_pow_right (by omega) q)
        refine ⟨p + m, 31, v, by omega, m2, v3, fun gm hm => ⟨_, mrun gm hm, fun a ha => ?_, fun a i hi => ?_, ?_, ?_, up_self, fun _ => ?_⟩, Or.inr ⟨Or.inr (Or.inr (Or.inl rfl)), fun gc hc h35 => ⟨up (addT k (nI 3) (nI p) (nI (p + m - p)) gc) 7 k (nI v), ?_, ?_⟩⟩⟩
        · rw [up_ne (by omega), up_ne (by omega), up_ne (by omega), up_ne (by omega)]
        · rw [up_app, up_app, up_app, up_app, if_neg (fun z => hi z.2), if_neg (fun z => hi z.2), if_neg (fun z => hi z.2), if_neg (fun z => hi z.2)]
        · rw [up_other (by decide), up_self, if_pos q]
        · rw [up_other (by decide), up_other (by decide), up_other (by decide), up_self]
        · rw [up_other (by decide), up_other (by decide), up_self, show min m 7 = m by omega]; exact v2
        · rw [cstart gc hc, if_pos e, if_neg e2]
          unfold k6_readNumber k5_skipDigits
          have hskip := m4 gc FU hc (by unfold FU; omega)
          have hskip0 : k5_skipDigits_2 gc FU (nI p) = some (nI (p + m)) := by
            show k5_skipDigits_2 gc (99999 + 1) (nI p) = _
            conv => lhs; unfold k5_skipDigits_2
            rw [hc.1, if_neg (by rw [nI_leI (by omega) (by omega)]; omega), byteC hB hc (by omega), some_bind, k5_dig, some_bind, if_neg e2, bd_eq, nI_1]
            exact m4 gc 99999 hc (by omega)
          rw [hskip0, some_bind, nI_sub (by omega) (by omega), show p + m - p = m by omega, if_pos ((le_lit (M := 6) (k := 6) rfl (by omega) (by omega)).mpr q)]
          rw [show k6_readNumber_24 FU (nI p) (nI (p + m)) 0 (nI p) gc = _ from num24 hB m2 m 0 (by omega) gc FU hc (by unfold FU; omega)]
          have h35' : addT k (nI 3) (nI p) (nI m) gc 3 5 = nI (k + 1) := up_self
          rw [show (3 : Int32) = nI 3 from rfl, k6_add_n hk h35, some_bind, nI_sub (by omega) (by omega), show p + m - p = m by omega, h35', nI_pred]
          unfold k6_setValue
          rw [if_neg (nI_pos (by omega)), h35', if_neg (by rw [nI_leI (by omega) (by omega)]; omega), sto_n (by omega) (by omega), some_bind, some_bind, v2]
        · rw [if_pos rfl]
          exact setT_E
      · refine ⟨p + m, 32, 0, by omega, m2, by omega, fun gm hm => ⟨_, mrun gm hm, fun a ha => ?_, fun a i hi => ?_, ?_, ?_, up_self, fun h => by omega⟩, Or.inl ⟨rfl, fun gc hc => ?_⟩⟩
        · rw [up_ne (by omega), up_ne (by omega), up_ne (by omega), up_ne (by omega)]
        · rw [up_app, up_app, up_app, up_app, if_neg (fun z => hi z.2), if_neg (fun z => hi z.2), if_neg (fun z => hi z.2), if_neg (fun z => hi z.2)]
        · rw [up_other (by decide), up_self, if_neg q]
        · rw [up_other (by decide), up_other (by decide), up_other (by decide), up_self]
        · rw [cstart gc hc, if_pos e, if_neg e2]
          unfold k6_readNumber k5_skipDigits
          have hskip0 : k5_skipDigits_2 gc FU (nI p) = some (nI (p + m)) := by
            show k5_skipDigits_2 gc (99999 + 1) (nI p) = _
            conv => lhs; unfold k5_skipDigits_2
            rw [hc.1, if_neg (by rw [nI_leI (by omega) (by omega)]; omega), byteC hB hc (by omega), some_bind, k5_dig, some_bind, if_neg e2, bd_eq, nI_1]
            exact m4 gc 99999 hc (by omega)
          rw [hskip0, some_bind, nI_sub (by omega) (by omega), show p + m - p = m by omega, if_neg (by rw [le_lit (M := 6) (k := 6) rfl (by omega) (by omega)]; exact q), some_bind]
  · -- a word
    obtain ⟨q, q1, q2, q3, q4⟩ := lad2 hB (T - p - 1) (p + 1) (by omega)
    obtain ⟨s, c, s1, s2, s3, s4⟩ := kw2 (p := p) (z := q - p) hB (by omega) 26 0 (by omega)
    have hcls0 : ∀ gc, TapeC T B gc → k5_skipLettersAndDigits (nI p) gc = some (nI q) := by
      intro gc hc
      unfold k5_skipLettersAndDigits
      show k5_skipLettersAndDigits_2 gc (99999 + 1) (nI p) = _
      conv => lhs; unfold k5_skipLettersAndDigits_2
      rw [hc.1, if_neg (by rw [nI_leI (by omega) (by omega)]; omega), byteC hB hc (by omega), some_bind, k5_let, some_bind, if_neg e, bd_eq, nI_1]
      exact q3 gc 99999 hc (by omega)
    have mrun : ∀ gm, TapeM T B gm → ∀ w : Nat, (if s = 30 ∧ 10 < q - p then (32 : Int32) else nI s) = nI w → k11_read (nI p) (nI k) gm = some (nI q, up (up (up gm 51 k (nI p)) 49 k (nI w)) 52 k (nI (q - p))) := by
      intro gm hm w hw
      rw [mstart gm hm, if_neg e, q4 _ FU (nI p) (nI k) (tm51 gm hm) (by unfold FU; omega), nI_sub (by omega) (by omega)]
      unfold k11_keyword
      rw [show k11_keyword_2 (up gm 51 k (nI p)) FU (nI p) (nI (q - p)) 0 = _ from s4 _ FU (tm51 gm hm) (by unfold FU; omega), some_bind, hw, sto_n (by omega) (by omega), r239 hk ⟨by omega, by omega⟩]
    have hf : ∀ (gm : G) (w : Nat), (∀ a, a < 49 ∨ 52 < a → up (up (up gm 51 k (nI p)) 49 k (nI w)) 52 k (nI (q - p)) a = gm a) ∧ (∀ a i, i ≠ k → up (up (up gm 51 k (nI p)) 49 k (nI w)) 52 k (nI (q - p)) a i = gm a i) ∧ up (up (up gm 51 k (nI p)) 49 k (nI w)) 52 k (nI (q - p)) 49 k = nI w ∧ up (up (up gm 51 k (nI p)) 49 k (nI w)) 52 k (nI (q - p)) 51 k = nI p ∧ up (up (up gm 51 k (nI p)) 49 k (nI w)) 52 k (nI (q - p)) 52 k = nI (q - p) := by
      intro gm w
      refine ⟨fun a ha => ?_, fun a i hi => ?_, ?_, ?_, up_self⟩
      · rw [up_ne (by omega), up_ne (by omega), up_ne (by omega)]
      · rw [up_app, up_app, up_app, if_neg (fun z => hi z.2), if_neg (fun z => hi z.2), if_neg (fun z => hi z.2)]
      · rw [up_other (by decide), up_self]
      · rw [up_other (by decide), up_other (by decide), up_self]
    by_cases h10 : q - p ≤ 10
    · refine ⟨q, s, 0, by omega, q2, by omega, fun gm hm => ?_, Or.inr ⟨?_, fun gc hc h35 => ⟨addT k (nI c) (nI p) (nI (q - p)) gc, ?_, ?_⟩⟩⟩
      · obtain ⟨f1, f2, f3, f4, f5⟩ := hf gm s
        exact ⟨_, mrun gm hm s (if_neg (by omega)), f1, f2, f3, f4, f5, fun h => by rcases s1 with ⟨a, -⟩ | ⟨a, -⟩ <;> omega⟩
      · rcases s1 with ⟨a, -⟩ | ⟨a, -⟩
        · exact Or.inl a
        · exact Or.inr (Or.inl a)
      · rw [cstart gc hc, if_neg e]
        unfold k6_readWord
        rw [hcls0 gc hc, some_bind, nI_sub (by omega) (by omega), if_pos ((le_lit (M := 10) (k := 10) rfl (by omega) (by omega)).mpr h10)]
        have := s3 gc FU hc (by unfold FU; omega)
        rw [show p + (q - p) = q by omega] at this
        rw [show k6_readWord_26 FU (nI p) (nI q) 2 128 gc = _ from this]
        unfold k6_readWord_67
        rw [k6_add_n hk h35, some_bind, some_bind, nI_sub (by omega) (by omega)]
      · rw [if_neg (by rcases s1 with ⟨a, -⟩ | ⟨a, -⟩ <;> omega), show kap s = c by
          rcases s1 with ⟨a, b⟩ | ⟨a, b⟩
          · rw [b]; exact if_pos a
          · rw [a, b]; rfl]
        exact addT_E
    · obtain rfl : s = 30 := s2 (by omega)
      refine ⟨q, 32, 0, by omega, q2, by omega, fun gm hm => ?_, Or.inl ⟨rfl, fun gc hc => ?_⟩⟩
      · obtain ⟨f1, f2, f3, f4, f5⟩ := hf gm 32
        exact ⟨_, mrun gm hm 32 (if_pos ⟨rfl, by omega⟩), f1, f2, f3, f4, f5, fun h => by omega⟩
      · rw [cstart gc hc, if_neg e]
        unfold k6_readWord
        rw [hcls0 gc hc, some_bind, nI_sub (by omega) (by omega), if_neg (by rw [le_lit (M := 10) (k := 10) rfl (by omega) (by omega)]; exact h10), some_bind]
