/-! teach: the class looks at what the tokens mean -/
def okB (s : Nat) : Bool := decide (s < 26) || decide (s = 30) || decide (s = 31) || decide (s = 32) || decide (s = 33) || (decide (40 ≤ s) && decide (s ≤ 54))
theorem kap_inj_all : ((List.range 64).all fun s => (List.range 64).all fun s' => decide (okB s = true → okB s' = true → kap s = kap s' → s = s')) = true := by decide +kernel
theorem okS.b {s : Nat} (h : okS s ∨ s = 32 ∨ s = 33) : okB s = true ∧ s < 64 := by
  constructor
  · unfold okB
    simp only [Bool.or_eq_true, Bool.and_eq_true, decide_eq_true_eq]
    rcases h with (h | h | h | h) | h | h
    · exact Or.inl (Or.inl (Or.inl (Or.inl (Or.inl h))))
    · exact Or.inl (Or.inl (Or.inl (Or.inl (Or.inr h))))
    · exact Or.inl (Or.inl (Or.inl (Or.inr h)))
    · exact Or.inr h
    · exact Or.inl (Or.inl (Or.inr h))
    · exact Or.inl (Or.inr h)
  · rcases h with (h | h | h | h) | h | h <;> omega
theorem kap_inj {s s' : Nat} (h : okB s = true) (hs : s < 64) (h' : okB s' = true) (hs' : s' < 64) : nI (kap s) = nI (kap s') ↔ s = s' := by
  have b : ((List.range 64).all fun s => decide (kap s < 256)) = true := by decide +kernel
  have b1 := of_decide_eq_true (List.all_eq_true.mp b s (List.mem_range.mpr hs))
  have b2 := of_decide_eq_true (List.all_eq_true.mp b s' (List.mem_range.mpr hs'))
  constructor
  · intro e
    exact of_decide_eq_true (List.all_eq_true.mp (List.all_eq_true.mp kap_inj_all s (List.mem_range.mpr hs)) s' (List.mem_range.mpr hs')) h h' ((nI_eq (by omega) (by omega)).mp e)
  · intro e; rw [e]
theorem ord_all : ((List.range 64).all fun s => decide (okB s = true → k8_isOrder (nI (kap s)) g_0 = some (if ordB s = true then 1 else 0))) = true := by decide +kernel
theorem isOrder_n {s : Nat} {g : G} (h : okB s = true) (hs : s < 64) : k8_isOrder (nI (kap s)) g = some (if ordB s = true then 1 else 0) := by
  have := of_decide_eq_true (List.all_eq_true.mp ord_all s (List.mem_range.mpr hs)) h
  rw [← this]
  rfl
section TK
variable {T K : Nat} {B : Nat → Int32} {kd ps sz nm : Nat → Nat}
theorem Toks.ok (hT : Toks T 0 K kd ps sz nm) {i : Nat} (hi : i ≤ K) : okB (kd i) = true ∧ kd i < 64 := by
  by_cases e : i = K
  · subst e
    exact okS.b (hT.2.2.2.1.elim (fun h => Or.inr (Or.inl h)) (fun h => Or.inr (Or.inr h)))
  · exact okS.b (Or.inl (hT.2.2.1 i (by omega) (by omega)).1)
def mF (g g' : G) : Prop := (∀ a, a ≠ 7 → a ≠ 8 → a ≠ 9 → a ≠ 10 → a ≠ 14 → a ≠ 15 → g' a = g a) ∧ ∀ k, k < 4 ∨ 7 < k → g' 8 k = g 8 k
theorem mF.refl {g : G} : mF g g := ⟨fun _ _ _ _ _ _ _ => rfl, fun _ _ => rfl⟩
theorem mF.trans {a b c : G} (h : mF a b) (h' : mF b c) : mF a c := ⟨fun x x1 x2 x3 x4 x5 x6 => (h'.1 x x1 x2 x3 x4 x5 x6).trans (h.1 x x1 x2 x3 x4 x5 x6), fun k hk => (h'.2 k hk).trans (h.2 k hk)⟩
def MR (T K : Nat) (B : Nat → Int32) (kd ps sz nm : Nat → Nat) (i : Nat) (g : G) : Prop :=
  CT T K B kd ps sz nm g ∧ g 8 4 = nI (ms kd nm i).1 ∧ (ms kd nm i).1 ≤ 10 ∧ (∀ j, j < (ms kd nm i).1 → g 15 j = nI ((ms kd nm i).2.1 j) ∧ (ms kd nm i).2.1 j < K) ∧ g 8 5 = nI (ms kd nm i).2.2.1 ∧ (ms kd nm i).2.2.1 ≤ 16 ∧ g 8 6 = (ms kd nm i).2.2.2.1 ∧ g 8 7 = (ms kd nm i).2.2.2.2.1 ∧ (∀ j v, (ms kd nm i).2.2.2.2.2.1 j = some v → g 9 j = v) ∧ (∀ j v, (ms kd nm i).2.2.2.2.2.2 j = some v → g 10 j = v) ∧ (∀ t, t < K → kd t = 31 → g 7 t = nI (nm t)) ∧ ∀ t, t < i → t < K → kd t = 30 → newB kd t = false → ∃ m, mvO (sameN B ps sz) (ms kd nm t) t = some m ∧ g 7 t = nI m
theorem kap_lit (hT : Toks T 0 K kd ps sz nm) {i s : Nat} {c : Int32} (hi : i ≤ K) (hs : okB s = true) (hs64 : s < 64) (hc : c = nI (kap s)) : nI (kap (kd i)) = c ↔ kd i = s := by
  rw [hc]
  exact kap_inj (hT.ok hi).1 (hT.ok hi).2 hs hs64
theorem kap_lt {s : Nat} (hs : s < 64) : kap s < 256 := by
  have b : ((List.range 64).all fun s => decide (kap s < 256)) = true := by decide +kernel
  exact of_decide_eq_true (List.all_eq_true.mp b s (List.mem_range.mpr hs))
/-- the kind ahead of a token -/
theorem prev_n {g : G} {i : Nat} (hT : Toks T 0 K kd ps sz nm) (h : CT T K B kd ps sz nm g) (hi : i ≤ K) : k6_kindAt (nI i - 1) g = some (if 0 < i then nI (kap (kd (i - 1))) else 0) := by
  have hK := hT.2.1
  by_cases e : 0 < i
  · obtain ⟨j, rfl⟩ : ∃ j, i = j + 1 := ⟨i - 1, by omega⟩
    rw [nI_pred, kindAt_n hT h (by omega), if_pos e]
    rfl
  · obtain rfl : i = 0 := by omega
    rw [if_neg e]
    exact kindAt_neg (by decide)
theorem prev2_n {g : G} {i : Nat} (hT : Toks T 0 K kd ps sz nm) (h : CT T K B kd ps sz nm g) (hi : i ≤ K) (h0 : 0 < i) : k6_kindAt (nI i - 2) g = some (if 1 < i then nI (kap (kd (i - 2))) else 0) := by
  have hK := hT.2.1
  by_cases e : 1 < i
  · rw [if_pos e, show (2 : Int32) = nI 2 from rfl, nI_sub (by omega) (by omega), kindAt_n hT h (by omega)]
  · obtain rfl : i = 1 := by omega
    rw [if_neg e]
    exact kindAt_neg (by decide)
theorem tellC {g : G} {M : Nat} {v : Int32} (hM : g 8 4 = nI M) (h : M ≤ 10) : k2_tellClarity 8 v g = some (if 0 < M then up g 9 (M - 1) v else g) := by
  unfold k2_tellClarity
  rw [hM]
  by_cases e : 0 < M
  · obtain ⟨j, rfl⟩ : ∃ j, M = j + 1 := ⟨M - 1, by omega⟩
    rw [if_neg (nI_nle (by omega) (by omega)), if_neg (Int32.not_lt.mpr ((le_lit (M := 10) (k := 10) rfl (by omega) (by omega)).mpr h)), nI_pred, sto_n (by omega) (by omega), if_pos e]
    rfl
  · obtain rfl : M = 0 := by omega
    rw [if_pos (by decide), if_neg (by decide)]
theorem tellO {g : G} {M : Nat} {v : Int32} (hM : g 8 4 = nI M) (h : M ≤ 10) : k2_tellOffset 8 v g = some (if 0 < M then up g 10 (M - 1) v else g) := by
  unfold k2_tellOffset
  rw [hM]
  by_cases e : 0 < M
  · obtain ⟨j, rfl⟩ : ∃ j, M = j + 1 := ⟨M - 1, by omega⟩
    rw [if_neg (nI_nle (by omega) (by omega)), if_neg (Int32.not_lt.mpr ((le_lit (M := 10) (k := 10) rfl (by omega) (by omega)).mpr h)), nI_pred, sto_n (by omega) (by omega), if_pos e]
    rfl
  · obtain rfl : M = 0 := by omega
    rw [if_pos (by decide), if_neg (by decide)]
theorem ite5 {g1 : G} {n c : Nat} {cl : Int32} (hc : cl = nI c) (hn : n < 1000000) (hc' : c < 2 ^ 20) : (if nI n ≤ cl then some ((0 : Int32), g1) else some (5, g1)) = some (nI (if n ≤ c then 0 else 5), g1) := by
  by_cases e : n ≤ c
  · rw [if_pos ((le_lit hc (by omega) (by omega)).mpr e), if_pos e]; rfl
  · rw [if_neg (by rw [le_lit hc (by omega) (by omega)]; exact e), if_neg e]; rfl
theorem mean_step {i : Nat} {g : G} (hB : Bok T B) (hT : Toks T 0 K kd ps sz nm) (hi : i ≤ K) (h : MR T K B kd ps sz nm i g) : ∃ g', k1_errorOf (nI i) g = some (nI (errT kd nm (sameN B ps sz) (ms kd nm i) i), g') ∧ mF g g' ∧ (errT kd nm (sameN B ps sz) (ms kd nm i) i = 0 → MR T K B kd ps sz nm (i + 1) (up g' 14 4 0)) := by
  have hK := hT.2.1
  obtain ⟨h1, h2, h3, h4, h5, h6, h7, h8, h9, h10, h11, h12⟩ := id h
  have hkd := hT.ok hi
  have k2 := kap_lit hT hi (s := 30) (c := 2) (by decide) (by decide) rfl
  have k3 := kap_lit hT hi (s := 31) (c := 3) (by decide) (by decide) rfl
  -- nothing changes
  have same : mstep kd nm (ms kd nm i) i = ms kd nm i → (kd i = 30 → newB kd i = true) → MR T K B kd ps sz nm (i + 1) (up g 14 4 0) := by
    intro hs hnew
    have e : ms kd nm (i + 1) = ms kd nm i := hs
    unfold MR
    rw [e]
    refine ⟨h1.fr (fun a a1 a2 => up_ne (by omega)), by rw [up_other (by decide)]; exact h2, h3, fun j hj => by rw [up_other (by decide)]; exact h4 j hj, by rw [up_other (by decide)]; exact h5, h6, by rw [up_other (by decide)]; exact h7, by rw [up_other (by decide)]; exact h8, fun j v hv => by rw [up_other (by decide)]; exact h9 j v hv, fun j v hv => by rw [up_other (by decide)]; exact h10 j v hv, fun t ht hk => by rw [up_other (by decide)]; exact h11 t ht hk, fun t ht htK hk hn => ?_⟩
    by_cases q : t = i
    · subst q
      rw [hnew hk] at hn
      cases hn
    · rw [up_other (by decide)]
      exact h12 t (by omega) htK hk hn
  unfold k1_errorOf
  rw [kindAt_n hT h1 hi, some_bind]
  by_cases c30 : kd i = 30
  · have hiK : i < K := by
      rcases Nat.lt_or_ge i K with q | q
      · exact q
      · obtain rfl : i = K := by omega
        rcases hT.2.2.2.1 with z | z <;> omega
    rw [if_pos (k2.mpr c30), prev_n hT h1 hi, some_bind]
    have hmn := named_n (st := ms kd nm i) (t := i) hB hT h1 hiK h2 h3 h4
    have hnew : ((if 0 < i then nI (kap (kd (i - 1))) else 0) = 128) ↔ newB kd i = true := by
      unfold newB
      rw [Bool.and_eq_true, decide_eq_true_eq, decide_eq_true_eq]
      by_cases e : 0 < i
      · rw [if_pos e, kap_lit hT (i := i - 1) (by omega) (s := 0) (c := 128) (by decide) (by decide) rfl]
        exact ⟨fun z => ⟨e, z⟩, fun z => z.2⟩
      · rw [if_neg e]
        exact ⟨fun z => absurd z (by decide), fun z => absurd z.1 e⟩
    by_cases cn : newB kd i = true
    · rw [if_pos (hnew.mpr cn)]
      unfold k1_errorOf_35 k1_errorOfNewName
      rw [if_neg (show ¬ (1 : Int32) = 0 by decide), hmn, some_bind]
      unfold errT
      rw [if_pos c30, if_pos cn]
      cases hm : mvO (sameN B ps sz) (ms kd nm i) i with
      | some r =>
        have hr := fnd_lt _ _ _ hm
        rw [optI_n, if_neg (nI_nm1 (by omega)), some_bind, if_pos (show (some r).isSome = true from rfl)]
        exact ⟨g, rfl, mF.refl, fun z => absurd z (show ¬ (2 : Nat) = 0 by decide)⟩
      | none =>
        rw [if_pos (show optI none = -1 from rfl), h2]
        by_cases c10 : 10 ≤ (ms kd nm i).1
        · rw [if_neg (show ¬ nI (ms kd nm i).1 < 10 from fun z => absurd ((nI_ltI (a := (ms kd nm i).1) (b := 10) (by omega) (by omega)).mp z) (by omega)), some_bind]
          refine ⟨g, ?_, mF.refl, fun z => ?_⟩
          · rw [if_neg (by decide), if_pos c10]; rfl
          · rw [if_neg (by decide), if_pos c10] at z; cases z
        · rw [if_pos (show nI (ms kd nm i).1 < 10 from (nI_ltI (a := (ms kd nm i).1) (b := 10) (by omega) (by omega)).mpr (by omega)), sto_n (by omega) (by omega), bd_eq, up_other (by decide), h2, nI_1, some_bind]
          refine ⟨up (up g 15 (ms kd nm i).1 (nI i)) 8 4 (nI ((ms kd nm i).1 + 1)), ?_, ⟨fun a a1 a2 a3 a4 a5 a6 => ?_, fun k hk => ?_⟩, fun _ => ?_⟩
          · rw [if_neg (by decide), if_neg c10]; rfl
          · rw [up_ne a2, up_ne a6]
          · rw [up_slot (by omega), up_other (by decide)]
          · have e : ms kd nm (i + 1) = ((ms kd nm i).1 + 1, (fun k => if k = (ms kd nm i).1 then i else (ms kd nm i).2.1 k), (ms kd nm i).2.2) := by
              show mstep kd nm (ms kd nm i) i = _
              unfold mstep
              rw [if_pos c30, if_pos cn]
            unfold MR
            rw [e]
            refine ⟨h1.fr (fun a a1 a2 => by rw [up_ne (by omega), up_ne (by omega), up_ne (by omega)]), by rw [up_other (by decide), up_self], by show (ms kd nm i).1 + 1 ≤ 10; omega, fun j hj => ?_, by rw [up_other (by decide), up_slot (by decide), up_other (by decide)]; exact h5, h6, by rw [up_other (by decide), up_slot (by decide), up_other (by decide)]; exact h7, by rw [up_other (by decide), up_slot (by decide), up_other (by decide)]; exact h8, fun j v hv => by rw [up_other (by decide), up_other (by decide), up_other (by decide)]; exact h9 j v hv, fun j v hv => by rw [up_other (by decide), up_other (by decide), up_other (by decide)]; exact h10 j v hv, fun t ht hk => by rw [up_other (by decide), up_other (by decide), up_other (by decide)]; exact h11 t ht hk, fun t ht htK hk hn => ?_⟩
            · show up (up (up g 15 (ms kd nm i).1 (nI i)) 8 4 (nI ((ms kd nm i).1 + 1))) 14 4 0 15 j = nI (if j = (ms kd nm i).1 then i else (ms kd nm i).2.1 j) ∧ (if j = (ms kd nm i).1 then i else (ms kd nm i).2.1 j) < K
              rw [up_other (by decide), up_other (by decide)]
              by_cases q : j = (ms kd nm i).1
              · rw [if_pos q, q, up_self]; exact ⟨rfl, hiK⟩
              · rw [if_neg q, up_slot q]
                exact h4 j (by have : j < (ms kd nm i).1 + 1 := hj; omega)
            · by_cases q : t = i
              · subst q
                rw [cn] at hn; cases hn
              · rw [up_other (by decide), up_other (by decide), up_other (by decide)]
                exact h12 t (by omega) htK hk hn
    · rw [if_neg (fun z => cn (hnew.mp z))]
      have cnf : newB kd i = false := Bool.eq_false_iff.mpr cn
      unfold k1_errorOf_35 k1_errorOfName
      rw [if_pos rfl, hmn, some_bind]
      unfold k6_setValue
      rw [if_neg (nI_pos (by omega)), h1.2.1, if_neg (by rw [nI_leI (by omega) (by omega)]; omega), sto_n (by omega) (by omega), some_bind]
      unfold errT
      rw [if_pos c30, if_neg cn]
      cases hm : mvO (sameN B ps sz) (ms kd nm i) i with
      | none =>
        rw [if_pos (show optI none = -1 from rfl), some_bind, if_neg (show ¬ (none : Option Nat).isSome = true by decide)]
        exact ⟨up g 7 i (optI none), rfl, ⟨fun a a1 a2 a3 a4 a5 a6 => up_ne a1, fun k hk => up_other (by decide)⟩, fun z => absurd z (show ¬ (3 : Nat) = 0 by decide)⟩
      | some r =>
        have hr := fnd_lt _ _ _ hm
        rw [optI_n, if_neg (nI_nm1 (by omega)), some_bind, if_pos (show (some r).isSome = true from rfl)]
        refine ⟨up g 7 i (nI r), rfl, ⟨fun a a1 a2 a3 a4 a5 a6 => up_ne a1, fun k hk => up_other (by decide)⟩, fun _ => ?_⟩
        have e : ms kd nm (i + 1) = ms kd nm i := by
          show mstep kd nm (ms kd nm i) i = _
          unfold mstep
          rw [if_pos c30, if_neg cn]
        unfold MR
        rw [e]
        refine ⟨h1.fr (fun a a1 a2 => by rw [up_ne (by omega), up_ne (by omega)]), by rw [up_other (by decide), up_other (by decide)]; exact h2, h3, fun j hj => by rw [up_other (by decide), up_other (by decide)]; exact h4 j hj, by rw [up_other (by decide), up_other (by decide)]; exact h5, h6, by rw [up_other (by decide), up_other (by decide)]; exact h7, by rw [up_other (by decide), up_other (by decide)]; exact h8, fun j v hv => by rw [up_other (by decide), up_other (by decide)]; exact h9 j v hv, fun j v hv => by rw [up_other (by decide), up_other (by decide)]; exact h10 j v hv, fun t ht hk => ?_, fun t ht htK hk hn => ?_⟩
        · have : t ≠ i := by intro z; subst z; omega
          rw [up_other (by decide), up_slot this]
          exact h11 t ht hk
        · by_cases q : t = i
          · subst q
            exact ⟨r, hm, by rw [up_other (by decide), up_self]⟩
          · rw [up_other (by decide), up_slot q]
            exact h12 t (by omega) htK hk hn
  · rw [if_neg (fun z => c30 (k2.mp z))]
    by_cases c31 : kd i = 31
    · have hiK : i < K := by
        rcases Nat.lt_or_ge i K with q | q
        · exact q
        · obtain rfl : i = K := by omega
          rcases hT.2.2.2.1 with z | z <;> omega
      have hnm := (hT.2.2.1 i (by omega) hiK).2.2
      rw [if_pos (k3.mpr c31)]
      have hval : k6_valueAt (nI i) g = some (nI (nm i)) := by
        unfold k6_valueAt
        rw [if_neg (nI_pos (by omega)), h1.2.1, if_neg (by rw [nI_leI (by omega) (by omega)]; omega), ld_n (by omega) (by omega), h11 i hiK c31]
      -- by what stands ahead
      have hctx : k1_errorOfNumber (nI i) g = (if ctxN kd i = 102 then k1_errorOfNumber_61 (nI (nm i)) 1 130 g else if 0 < i then k1_errorOfNumber_61 (nI (nm i)) 0 (nI (kap (kd (i - 1)))) g else k1_errorOfNumber_61 (nI (nm i)) 0 0 g) := by
        unfold k1_errorOfNumber
        rw [hval, some_bind, prev_n hT h1 hi, some_bind]
        by_cases e0 : 0 < i
        · rw [if_pos e0]
          by_cases e41 : kd (i - 1) = 41
          · rw [if_pos ((kap_lit hT (i := i - 1) (by omega) (s := 41) (c := 45) (by decide) (by decide) rfl).mpr e41), prev2_n hT h1 hi e0, some_bind]
            by_cases e1 : 1 < i
            · rw [if_pos e1]
              by_cases e2 : kd (i - 2) = 2
              · rw [if_pos ((kap_lit hT (i := i - 2) (by omega) (s := 2) (c := 130) (by decide) (by decide) rfl).mpr e2), if_pos (show ctxN kd i = 102 from if_pos ⟨e1, e41, e2⟩)]
                rfl
              · have hn102 : ¬ ctxN kd i = 102 := by
                  unfold ctxN
                  rw [if_neg (fun z => e2 z.2.2)]
                  repeat' split
                  all_goals omega
                rw [if_neg (fun z => e2 ((kap_lit hT (i := i - 2) (by omega) (s := 2) (c := 130) (by decide) (by decide) rfl).mp z)), if_neg hn102, if_pos e0]
                rfl
            · have hn102 : ¬ ctxN kd i = 102 := by
                unfold ctxN
                rw [if_neg (fun z => e1 z.1)]
                repeat' split
                all_goals omega
              rw [if_neg e1, if_neg (by decide), if_neg hn102, if_pos e0]
              rfl
          · have hn102 : ¬ ctxN kd i = 102 := by
              unfold ctxN
              rw [if_neg (fun z => e41 z.2.1)]
              repeat' split
              all_goals omega
            rw [if_neg (fun z => e41 ((kap_lit hT (i := i - 1) (by omega) (s := 41) (c := 45) (by decide) (by decide) rfl).mp z)), if_neg hn102, if_pos e0]
            rfl
        · have hn102 : ¬ ctxN kd i = 102 := by
            unfold ctxN
            rw [if_neg (by omega)]
            repeat' split
            all_goals omega
          rw [if_neg e0, if_neg (by decide), if_neg hn102, if_neg e0]
          rfl
      -- one of the six contexts
      have fin : ∀ (e : Nat) (g' : G), errT kd nm (sameN B ps sz) (ms kd nm i) i = e → k1_errorOfNumber (nI i) g = some (nI e, g') → mF g g' → (e = 0 → MR T K B kd ps sz nm (i + 1) (up g' 14 4 0)) → ∃ g', ((k1_errorOfNumber (nI i) g).bind fun u10 => some (u10.1, u10.2)) = some (nI (errT kd nm (sameN B ps sz) (ms kd nm i) i), g') ∧ mF g g' ∧ (errT kd nm (sameN B ps sz) (ms kd nm i) i = 0 → MR T K B kd ps sz nm (i + 1) (up g' 14 4 0)) := by
        intro e g' e1 e2 e3 e4
        exact ⟨g', by rw [e2, e1]; rfl, e3, by rw [e1]; exact e4⟩
      have herr : errT kd nm (sameN B ps sz) (ms kd nm i) i = (if ctxN kd i = 1 then (if nm i ≤ 100 then 0 else 5) else if ctxN kd i = 2 ∨ ctxN kd i = 102 then (if nm i ≤ 90 then 0 else 5) else if ctxN kd i = 3 then (if nm i ≤ 180 then 0 else 5) else if ctxN kd i = 4 then (if nm i ≤ 10000 then 0 else 5) else 0) := by
        unfold errT
        rw [if_neg c30, if_pos c31]
      have hstep : mstep kd nm (ms kd nm i) i = (if ctxN kd i = 1 then (if 0 < (ms kd nm i).1 then ((ms kd nm i).1, (ms kd nm i).2.1, (ms kd nm i).2.2.1, (ms kd nm i).2.2.2.1, (ms kd nm i).2.2.2.2.1, setO (ms kd nm i).2.2.2.2.2.1 ((ms kd nm i).1 - 1) (nI (nm i)), (ms kd nm i).2.2.2.2.2.2) else (ms kd nm i)) else if ctxN kd i = 2 then (if 0 < (ms kd nm i).1 then ((ms kd nm i).1, (ms kd nm i).2.1, (ms kd nm i).2.2.1, (ms kd nm i).2.2.2.1, (ms kd nm i).2.2.2.2.1, (ms kd nm i).2.2.2.2.2.1, setO (ms kd nm i).2.2.2.2.2.2 ((ms kd nm i).1 - 1) (nI (nm i))) else (ms kd nm i)) else if ctxN kd i = 102 then (if 0 < (ms kd nm i).1 then ((ms kd nm i).1, (ms kd nm i).2.1, (ms kd nm i).2.2.1, (ms kd nm i).2.2.2.1, (ms kd nm i).2.2.2.2.1, (ms kd nm i).2.2.2.2.2.1, setO (ms kd nm i).2.2.2.2.2.2 ((ms kd nm i).1 - 1) (-(nI (nm i)))) else (ms kd nm i)) else if ctxN kd i = 3 then ((ms kd nm i).1, (ms kd nm i).2.1, (ms kd nm i).2.2.1, nI (nm i), (ms kd nm i).2.2.2.2) else if ctxN kd i = 4 then ((ms kd nm i).1, (ms kd nm i).2.1, (ms kd nm i).2.2.1, (ms kd nm i).2.2.2.1, nI (nm i), (ms kd nm i).2.2.2.2.2) else (ms kd nm i)) := by
        unfold mstep
        rw [if_neg c30, if_pos c31]
      have n30 : kd i = 30 → newB kd i = true := fun z => absurd z c30
      have hold12 : ∀ g' : G, g' 7 = g 7 → ∀ t, t < i + 1 → t < K → kd t = 30 → newB kd t = false → ∃ m, mvO (sameN B ps sz) (ms kd nm t) t = some m ∧ up g' 14 4 0 7 t = nI m := by
        intro g' hg t ht htK hk hn
        have : t ≠ i := by intro z; subst z; omega
        rw [up_other (by decide), hg]
        exact h12 t (by omega) htK hk hn
      -- clarity and offset
      have offs : ∀ v : Int32, ctxN kd i ≠ 1 → mstep kd nm (ms kd nm i) i = (if 0 < (ms kd nm i).1 then ((ms kd nm i).1, (ms kd nm i).2.1, (ms kd nm i).2.2.1, (ms kd nm i).2.2.2.1, (ms kd nm i).2.2.2.2.1, (ms kd nm i).2.2.2.2.2.1, setO (ms kd nm i).2.2.2.2.2.2 ((ms kd nm i).1 - 1) v) else (ms kd nm i)) → MR T K B kd ps sz nm (i + 1) (up (if 0 < (ms kd nm i).1 then up g 10 ((ms kd nm i).1 - 1) v else g) 14 4 0) := by
        intro v hc hs
        by_cases e : 0 < (ms kd nm i).1
        · rw [if_pos e] at hs ⊢
          unfold MR
          rw [show ms kd nm (i + 1) = _ from hs]
          refine ⟨h1.fr (fun a a1 a2 => by rw [up_ne (by omega), up_ne (by omega)]), by rw [up_other (by decide), up_other (by decide)]; exact h2, h3, fun j hj => by rw [up_other (by decide), up_other (by decide)]; exact h4 j hj, by rw [up_other (by decide), up_other (by decide)]; exact h5, h6, by rw [up_other (by decide), up_other (by decide)]; exact h7, by rw [up_other (by decide), up_other (by decide)]; exact h8, fun j v hv => by rw [up_other (by decide), up_other (by decide)]; exact h9 j v hv, fun j w hv => ?_, fun t ht hk => by rw [up_other (by decide), up_other (by decide)]; exact h11 t ht hk, hold12 _ (up_ne (by decide))⟩
          rw [up_other (by decide)]
          have hv : (if j = (ms kd nm i).1 - 1 then some v else (ms kd nm i).2.2.2.2.2.2 j) = some w := hv
          by_cases q : j = (ms kd nm i).1 - 1
          · rw [if_pos q] at hv
            rw [q, up_self]; exact Option.some.inj hv
          · rw [if_neg q] at hv
            rw [up_slot q]; exact h10 j w hv
        · rw [if_neg e] at hs ⊢
          exact same hs n30
      have clas : ∀ v : Int32, mstep kd nm (ms kd nm i) i = (if 0 < (ms kd nm i).1 then ((ms kd nm i).1, (ms kd nm i).2.1, (ms kd nm i).2.2.1, (ms kd nm i).2.2.2.1, (ms kd nm i).2.2.2.2.1, setO (ms kd nm i).2.2.2.2.2.1 ((ms kd nm i).1 - 1) v, (ms kd nm i).2.2.2.2.2.2) else (ms kd nm i)) → MR T K B kd ps sz nm (i + 1) (up (if 0 < (ms kd nm i).1 then up g 9 ((ms kd nm i).1 - 1) v else g) 14 4 0) := by
        intro v hs
        by_cases e : 0 < (ms kd nm i).1
        · rw [if_pos e] at hs ⊢
          unfold MR
          rw [show ms kd nm (i + 1) = _ from hs]
          refine ⟨h1.fr (fun a a1 a2 => by rw [up_ne (by omega), up_ne (by omega)]), by rw [up_other (by decide), up_other (by decide)]; exact h2, h3, fun j hj => by rw [up_other (by decide), up_other (by decide)]; exact h4 j hj, by rw [up_other (by decide), up_other (by decide)]; exact h5, h6, by rw [up_other (by decide), up_other (by decide)]; exact h7, by rw [up_other (by decide), up_other (by decide)]; exact h8, fun j w hv => ?_, fun j v hv => by rw [up_other (by decide), up_other (by decide)]; exact h10 j v hv, fun t ht hk => by rw [up_other (by decide), up_other (by decide)]; exact h11 t ht hk, hold12 _ (up_ne (by decide))⟩
          rw [up_other (by decide)]
          have hv : (if j = (ms kd nm i).1 - 1 then some v else (ms kd nm i).2.2.2.2.2.1 j) = some w := hv
          by_cases q : j = (ms kd nm i).1 - 1
          · rw [if_pos q] at hv
            rw [q, up_self]; exact Option.some.inj hv
          · rw [if_neg q] at hv
            rw [up_slot q]; exact h9 j w hv
        · rw [if_neg e] at hs ⊢
          exact same hs n30
      have mFif : ∀ (a : Nat) (b : Nat) (v : Int32), a = 9 ∨ a = 10 → mF g (if 0 < (ms kd nm i).1 then up g a b v else g) := by
        intro a b v ha
        by_cases e : 0 < (ms kd nm i).1
        · rw [if_pos e]
          exact ⟨fun x x1 x2 x3 x4 x5 x6 => up_ne (by rcases ha with rfl | rfl <;> assumption), fun k hk => up_other (by rcases ha with rfl | rfl <;> decide)⟩
        · rw [if_neg e]; exact mF.refl
      by_cases x102 : ctxN kd i = 102
      · refine fin (if nm i ≤ 90 then 0 else 5) _ ?_ ?_ (mFif 10 ((ms kd nm i).1 - 1) (-(nI (nm i))) (Or.inr rfl)) (fun _ => ?_)
        · rw [herr, if_neg (by omega), if_pos (Or.inr x102)]
        · rw [hctx, if_pos x102]
          unfold k1_errorOfNumber_61 k1_errorOfNumber_127
          rw [if_neg (by decide), if_pos rfl, if_neg (by decide), tellO h2 h3, some_bind, ite5 (cl := 90) (c := 90) rfl hnm (by decide)]
        · refine offs (-(nI (nm i))) (by omega) ?_
          rw [hstep, if_neg (by omega), if_neg (by omega), if_pos x102]
      · have hctx1 : ctxN kd i = (if 0 < i ∧ kd (i - 1) = 1 then 1 else if 0 < i ∧ kd (i - 1) = 2 then 2 else if 0 < i ∧ kd (i - 1) = 3 then 3 else if 0 < i ∧ kd (i - 1) = 4 then 4 else 0) := by
          unfold ctxN at x102 ⊢
          by_cases q : 1 < i ∧ kd (i - 1) = 41 ∧ kd (i - 2) = 2
          · rw [if_pos q] at x102; exact absurd rfl x102
          · rw [if_neg q]
        by_cases e0 : 0 < i
        · have kl : ∀ {s : Nat} {c : Int32}, okB s = true → s < 64 → c = nI (kap s) → (nI (kap (kd (i - 1))) = c ↔ kd (i - 1) = s) := fun a b c => kap_lit hT (i := i - 1) (by omega) a b c
          rw [if_neg x102, if_pos e0] at hctx
          unfold k1_errorOfNumber_61 at hctx
          by_cases x1 : kd (i - 1) = 1
          · have c1 : ctxN kd i = 1 := by rw [hctx1, if_pos ⟨e0, x1⟩]
            refine fin (if nm i ≤ 100 then 0 else 5) _ ?_ ?_ (mFif 9 ((ms kd nm i).1 - 1) (nI (nm i)) (Or.inl rfl)) (fun _ => ?_)
            · rw [herr, if_pos c1]
            · rw [hctx, if_pos ((kl (s := 1) (c := 129) (by decide) (by decide) rfl).mpr x1), tellC h2 h3, some_bind, ite5 (cl := 100) (c := 100) rfl hnm (by decide)]
            · refine clas (nI (nm i)) ?_
              rw [hstep, if_pos c1]
          · rw [if_neg (fun z => x1 ((kl (s := 1) (c := 129) (by decide) (by decide) rfl).mp z))] at hctx
            by_cases x2 : kd (i - 1) = 2
            · have c1 : ctxN kd i = 2 := by rw [hctx1, if_neg (fun z => x1 z.2), if_pos ⟨e0, x2⟩]
              refine fin (if nm i ≤ 90 then 0 else 5) _ ?_ ?_ (mFif 10 ((ms kd nm i).1 - 1) (nI (nm i)) (Or.inr rfl)) (fun _ => ?_)
              · rw [herr, if_neg (by omega), if_pos (Or.inl c1)]
              · unfold k1_errorOfNumber_127 at hctx
                rw [hctx, if_pos ((kl (s := 2) (c := 130) (by decide) (by decide) rfl).mpr x2), if_pos rfl, tellO h2 h3, some_bind, ite5 (cl := 90) (c := 90) rfl hnm (by decide)]
              · refine offs (nI (nm i)) (by omega) ?_
                rw [hstep, if_neg (by omega), if_pos c1]
            · rw [if_neg (fun z => x2 ((kl (s := 2) (c := 130) (by decide) (by decide) rfl).mp z))] at hctx
              by_cases x3 : kd (i - 1) = 3
              · have c1 : ctxN kd i = 3 := by rw [hctx1, if_neg (fun z => x1 z.2), if_neg (fun z => x2 z.2), if_pos ⟨e0, x3⟩]
                refine fin (if nm i ≤ 180 then 0 else 5) (up g 8 6 (nI (nm i))) ?_ ?_ ⟨fun x x1 x2 x3 x4 x5 x6 => up_ne x2, fun k hk => up_slot (by omega)⟩ (fun _ => ?_)
                · rw [herr, if_neg (by omega), if_neg (by omega), if_pos c1]
                · rw [hctx, if_pos ((kl (s := 3) (c := 131) (by decide) (by decide) rfl).mpr x3), bd_eq, ite5 (cl := 180) (c := 180) rfl hnm (by decide)]
                · unfold MR
                  rw [show ms kd nm (i + 1) = _ from (hstep.trans (by rw [if_neg (by omega), if_neg (by omega), if_neg (by omega), if_pos c1]))]
                  exact ⟨h1.fr (fun a a1 a2 => by rw [up_ne (by omega), up_ne (by omega)]), by rw [up_other (by decide), up_slot (by decide)]; exact h2, h3, fun j hj => by rw [up_other (by decide), up_other (by decide)]; exact h4 j hj, by rw [up_other (by decide), up_slot (by decide)]; exact h5, h6, by rw [up_other (by decide), up_self], by rw [up_other (by decide), up_slot (by decide)]; exact h8, fun j v hv => by rw [up_other (by decide), up_other (by decide)]; exact h9 j v hv, fun j v hv => by rw [up_other (by decide), up_other (by decide)]; exact h10 j v hv, fun t ht hk => by rw [up_other (by decide), up_other (by decide)]; exact h11 t ht hk, hold12 _ (up_ne (by decide))⟩
              · rw [if_neg (fun z => x3 ((kl (s := 3) (c := 131) (by decide) (by decide) rfl).mp z))] at hctx
                by_cases x4 : kd (i - 1) = 4
                · have c1 : ctxN kd i = 4 := by rw [hctx1, if_neg (fun z => x1 z.2), if_neg (fun z => x2 z.2), if_neg (fun z => x3 z.2), if_pos ⟨e0, x4⟩]
                  refine fin (if nm i ≤ 10000 then 0 else 5) (up g 8 7 (nI (nm i))) ?_ ?_ ⟨fun x x1 x2 x3 x4 x5 x6 => up_ne x2, fun k hk => up_slot (by omega)⟩ (fun _ => ?_)
                  · rw [herr, if_neg (by omega), if_neg (by omega), if_neg (by omega), if_pos c1]
                  · rw [hctx, if_pos ((kl (s := 4) (c := 132) (by decide) (by decide) rfl).mpr x4), bd_eq, ite5 (cl := 10000) (c := 10000) rfl hnm (by decide)]
                  · unfold MR
                    rw [show ms kd nm (i + 1) = _ from (hstep.trans (by rw [if_neg (by omega), if_neg (by omega), if_neg (by omega), if_neg (by omega), if_pos c1]))]
                    exact ⟨h1.fr (fun a a1 a2 => by rw [up_ne (by omega), up_ne (by omega)]), by rw [up_other (by decide), up_slot (by decide)]; exact h2, h3, fun j hj => by rw [up_other (by decide), up_other (by decide)]; exact h4 j hj, by rw [up_other (by decide), up_slot (by decide)]; exact h5, h6, by rw [up_other (by decide), up_slot (by decide)]; exact h7, by rw [up_other (by decide), up_self], fun j v hv => by rw [up_other (by decide), up_other (by decide)]; exact h9 j v hv, fun j v hv => by rw [up_other (by decide), up_other (by decide)]; exact h10 j v hv, fun t ht hk => by rw [up_other (by decide), up_other (by decide)]; exact h11 t ht hk, hold12 _ (up_ne (by decide))⟩
                · rw [if_neg (fun z => x4 ((kl (s := 4) (c := 132) (by decide) (by decide) rfl).mp z))] at hctx
                  have c1 : ctxN kd i = 0 := by rw [hctx1, if_neg (fun z => x1 z.2), if_neg (fun z => x2 z.2), if_neg (fun z => x3 z.2), if_neg (fun z => x4 z.2)]
                  refine fin 0 g ?_ hctx mF.refl (fun _ => same ?_ n30)
                  · rw [herr, if_neg (by omega), if_neg (by omega), if_neg (by omega), if_neg (by omega)]
                  · rw [hstep, if_neg (by omega), if_neg (by omega), if_neg (by omega), if_neg (by omega), if_neg (by omega)]
        · rw [if_neg x102, if_neg e0] at hctx
          have c1 : ctxN kd i = 0 := by rw [hctx1, if_neg (fun z => e0 z.1), if_neg (fun z => e0 z.1), if_neg (fun z => e0 z.1), if_neg (fun z => e0 z.1)]
          refine fin 0 g ?_ ?_ mF.refl (fun _ => same ?_ n30)
          · rw [herr, if_neg (by omega), if_neg (by omega), if_neg (by omega), if_neg (by omega)]
          · rw [hctx]
            unfold k1_errorOfNumber_61
            rw [if_neg (by decide), if_neg (by decide), if_neg (by decide), if_neg (by decide)]
            rfl
          · rw [hstep, if_neg (by omega), if_neg (by omega), if_neg (by omega), if_neg (by omega), if_neg (by omega)]
    · rw [if_neg (fun z => c31 (k3.mp z)), isOrder_n hkd.1 hkd.2, some_bind]
      unfold errT
      rw [if_neg c30, if_neg c31]
      by_cases co : ordB (kd i) = true
      · rw [if_pos co, if_neg (by decide)]
        unfold k1_errorOfOrder
        rw [bd_eq, up_self, h5, nI_1, if_pos co]
        by_cases e : (ms kd nm i).2.2.1 + 1 ≤ 16
        · rw [if_pos ((le_lit (M := 16) (k := 16) rfl (by omega) (by omega)).mpr e), some_bind, if_pos e]
          refine ⟨up g 8 5 (nI ((ms kd nm i).2.2.1 + 1)), rfl, ⟨fun x x1 x2 x3 x4 x5 x6 => up_ne x2, fun k hk => up_slot (by omega)⟩, fun _ => ?_⟩
          have es : ms kd nm (i + 1) = ((ms kd nm i).1, (ms kd nm i).2.1, (ms kd nm i).2.2.1 + 1, (ms kd nm i).2.2.2) := by
            show mstep kd nm (ms kd nm i) i = _
            unfold mstep
            rw [if_neg c30, if_neg c31, if_pos co]
          unfold MR
          rw [es]
          refine ⟨h1.fr (fun a a1 a2 => by rw [up_ne (by omega), up_ne (by omega)]), by rw [up_other (by decide), up_slot (by decide)]; exact h2, h3, fun j hj => by rw [up_other (by decide), up_other (by decide)]; exact h4 j hj, by rw [up_other (by decide), up_self], e, by rw [up_other (by decide), up_slot (by decide)]; exact h7, by rw [up_other (by decide), up_slot (by decide)]; exact h8, fun j v hv => by rw [up_other (by decide), up_other (by decide)]; exact h9 j v hv, fun j v hv => by rw [up_other (by decide), up_other (by decide)]; exact h10 j v hv, fun t ht hk => by rw [up_other (by decide), up_other (by decide)]; exact h11 t ht hk, fun t ht htK hk hn => ?_⟩
          have : t ≠ i := by intro z; subst z; omega
          rw [up_other (by decide), up_other (by decide)]
          exact h12 t (by omega) htK hk hn
        · rw [if_neg (by rw [le_lit (M := 16) (k := 16) rfl (by omega) (by omega)]; exact e), some_bind, if_neg e]
          exact ⟨up g 8 5 (nI ((ms kd nm i).2.2.1 + 1)), rfl, ⟨fun x x1 x2 x3 x4 x5 x6 => up_ne x2, fun k hk => up_slot (by omega)⟩, fun z => absurd z (show ¬ (4 : Nat) = 0 by decide)⟩
      · rw [if_neg co, if_pos rfl, if_neg co]
        refine ⟨g, rfl, mF.refl, fun _ => same ?_ (fun z => absurd z c30)⟩
        unfold mstep
        rw [if_neg c30, if_neg c31, if_neg co]
end TK
