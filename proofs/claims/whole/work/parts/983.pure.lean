/-! teach: all tokens -/
def RC (k K : Nat) (kd ps sz nm : Nat → Nat) (g : G) : Prop := g 3 5 = nI (K + 1) ∧ (∀ i, k ≤ i → i ≤ K → g 4 i = nI (kap (kd i)) ∧ g 5 i = nI (ps i)) ∧ ∀ i, k ≤ i → i < K → g 6 i = nI (sz i) ∧ g 7 i = nI (if kd i = 31 then nm i else 0)
def RM (k K : Nat) (kd ps sz nm : Nat → Nat) (g : G) : Prop := (∀ i, k ≤ i → i ≤ K → g 49 i = nI (kd i) ∧ g 51 i = nI (ps i)) ∧ ∀ i, k ≤ i → i < K → g 52 i = nI (sz i) ∧ (kd i = 31 → g 50 i = nI (nm i))
def Toks (T k K : Nat) (kd ps sz nm : Nat → Nat) : Prop := k ≤ K ∧ K ≤ 400 ∧ (∀ i, k ≤ i → i < K → okS (kd i) ∧ ps i + sz i ≤ T ∧ nm i < 1000000) ∧ (kd K = 32 ∨ kd K = 33) ∧ ps K ≤ T
def cFr (k : Nat) (g g' : G) : Prop := (∀ a, a < 3 ∨ 7 < a → g' a = g a) ∧ (∀ i, i ≠ 5 → g' 3 i = g 3 i) ∧ ∀ a i, 4 ≤ a → a ≤ 7 → i < k → g' a i = g a i
def mFr (k : Nat) (g g' : G) : Prop := (∀ a, a < 49 ∨ 52 < a → g' a = g a) ∧ ∀ a i, i < k → g' a i = g a i
theorem r65 {T k : Nat} {B : Nat → Int32} {g : G} (h : TapeM T B g) (hk : k ≤ 401) : k11_readAll_65 (nI k) g = some (up (up g 49 k 33) 51 k (nI T)) := by
  unfold k11_readAll_65
  rw [sto_n (by omega) (by omega), sto_n (by omega) (by omega), up_other (by decide), h.1]
theorem stop8 {T k f : Nat} {B : Nat → Int32} {g : G} {p : Int32} (h : TapeM T B g) (hk : k ≤ 400) (h32 : g 49 k = 32) : k11_readAll_8 (f + 1) p (nI (k + 1)) g = some (up (up g 49 (k + 1) 33) 51 (k + 1) (nI T)) := by
  unfold k11_readAll_8
  by_cases e : g 47 2 ≤ p
  · rw [if_pos e, r65 h (by omega)]
  · rw [if_neg e, if_neg (nI_ne0 (by omega) (by omega)), nI_pred, ld_n (by omega) (by omega), h32, if_pos rfl, r65 h (by omega)]
theorem toks_loop {T : Nat} {B : Nat → Int32} (hB : Bok T B) : ∀ (n d p k : Nat), T = p + d → d ≤ n → k ≤ 400 → ∃ K kd ps sz nm, Toks T k K kd ps sz nm ∧ (∀ gc f, TapeC T B gc → gc 3 5 = nI k → d < f → ∃ gc', k6_readTape_16 f (nI p) (nI k) gc = some gc' ∧ cFr k gc gc' ∧ RC k K kd ps sz nm gc') ∧ (∀ gm f, TapeM T B gm → (k = 0 ∨ ∃ s, s < 64 ∧ s ≠ 32 ∧ gm 49 (k - 1) = nI s) → d + 1 < f → ∃ gm', k11_readAll_8 f (nI p) (nI k) gm = some gm' ∧ mFr k gm gm' ∧ RM k K kd ps sz nm gm') := by
  have hT := hB.1
  intro n
  induction n with
  | zero =>
    intro d p k hd hn hk
    obtain rfl : d = 0 := by omega
    obtain rfl : T = p := by omega
    refine ⟨k, fun _ => 33, fun _ => T, fun _ => 0, fun _ => 0, ⟨Nat.le_refl _, hk, fun i _ _ => by omega, Or.inr rfl, Nat.le_refl _⟩, fun gc f hc h35 hf => ?_, fun gm f hm _ hf => ?_⟩
    · obtain ⟨f, rfl⟩ : ∃ z, f = z + 1 := ⟨f - 1, by omega⟩
      obtain ⟨e1, e2, e3, e4, e5, e6, e7, e8⟩ := addT_E (k := k) (c := 0) (p := T) (z := 0) (g := gc)
      refine ⟨addT k (nI 0) (nI T) (nI 0) gc, ?_, ⟨e1, e3, fun a i a1 a2 hi => e2 a i a1 a2 (by omega)⟩, e4, fun i i1 i2 => ?_, fun i i1 i2 => by omega⟩
      · unfold k6_readTape_16 k6_readTape_68 k6_readTape_85
        have hle : nI T ≤ nI T := Int32.le_refl _
        simp only [hc.1, if_pos hle, ite_self]
        rw [k6_add_n hk h35, some_bind, nI_sub (by omega) (by omega), Nat.sub_self]
        rfl
      · obtain rfl : i = k := by omega
        exact ⟨e5, e6⟩
    · obtain ⟨f, rfl⟩ : ∃ z, f = z + 1 := ⟨f - 1, by omega⟩
      refine ⟨up (up gm 49 k 33) 51 k (nI T), ?_, ⟨fun a ha => ?_, fun a i hi => ?_⟩, fun i i1 i2 => ?_, fun i i1 i2 => by omega⟩
      · unfold k11_readAll_8
        rw [hm.1, if_pos (by rw [nI_leI (by omega) (by omega)]; omega), r65 hm (by omega)]
      · rw [up_ne (by omega), up_ne (by omega)]
      · rw [up_app, up_app, if_neg (by omega), if_neg (by omega)]
      · obtain rfl : i = k := by omega
        exact ⟨by rw [up_other (by decide), up_self]; rfl, up_self⟩
  | succ n ih =>
    intro d p k hd hn hk
    by_cases hd0 : d = 0
    · exact ih d p k hd (by omega) hk
    · have hp : p < T := by omega
      obtain ⟨q, s, v, q1, q2, q3, q4, q5⟩ := read2 hB hp hk
      obtain ⟨p', p1, p2, p3, p4⟩ := skip2 hB (T - q) q (by omega)
      have mread : ∀ gm f, TapeM T B gm → (k = 0 ∨ ∃ s, s < 64 ∧ s ≠ 32 ∧ gm 49 (k - 1) = nI s) → ∃ gm1, refE gm gm1 k s p (q - p) v ∧ k11_readAll_8 (f + 1) (nI p) (nI k) gm = (if nI k = 400 then sto gm1 49 402 (nI k) 32 fun g5 => k11_readAll_8 f (nI p') (nI (k + 1)) g5 else k11_readAll_8 f (nI p') (nI (k + 1)) gm1) := by
        intro gm f hm hprev
        obtain ⟨gm1, r1, r2⟩ := q4 gm hm
        refine ⟨gm1, r2, ?_⟩
        have hr : k11_readAll_33 (k11_readAll_8 f) (nI p) (nI k) gm = (if nI k = 400 then sto gm1 49 402 (nI k) 32 fun g5 => k11_readAll_8 f (nI p') (nI (k + 1)) g5 else k11_readAll_8 f (nI p') (nI (k + 1)) gm1) := by
          unfold k11_readAll_33
          rw [r1, some_bind]
          dsimp only
          unfold k11_skip
          rw [p4 gm1 FU (r2.tape hm) (by unfold FU; omega), some_bind]
          by_cases e : nI k = 400
          · rw [if_pos e, if_pos e]
            simp only [bd_eq, nI_1]
          · rw [if_neg e, if_neg e, bd_eq, nI_1]
        conv => lhs; unfold k11_readAll_8
        rw [hm.1, if_neg (by rw [nI_leI (by omega) (by omega)]; omega)]
        by_cases ek : k = 0
        · rw [if_pos (by rw [ek]; rfl)]; exact hr
        · obtain ⟨s', s1, s2, s3⟩ := hprev.resolve_left ek
          obtain ⟨k', rfl⟩ : ∃ z, k = z + 1 := ⟨k - 1, by omega⟩
          rw [if_neg (nI_ne0 (by omega) (by omega)), nI_pred, ld_n (by omega) (by omega), show gm 49 k' = nI s' from s3, if_neg (show ¬ nI s' = 32 from fun z => s2 ((nI_eq (a := s') (b := 32) (by omega) (by omega)).mp z))]
          exact hr
      -- the token can't be one, or is one too many: the last one
      have last : ∀ s', s' = 32 → (∀ gc f, TapeC T B gc → gc 3 5 = nI k → d < f → k6_readTape_16 f (nI p) (nI k) gc = some (addT k (nI 1) (nI p) (nI 0) gc)) → (∀ gm f, TapeM T B gm → (k = 0 ∨ ∃ s, s < 64 ∧ s ≠ 32 ∧ gm 49 (k - 1) = nI s) → d + 1 < f → ∃ gm', k11_readAll_8 f (nI p) (nI k) gm = some gm' ∧ mFr k gm gm' ∧ gm' 49 k = nI 32 ∧ gm' 51 k = nI p) → ∃ K kd ps sz nm, Toks T k K kd ps sz nm ∧ (∀ gc f, TapeC T B gc → gc 3 5 = nI k → d < f → ∃ gc', k6_readTape_16 f (nI p) (nI k) gc = some gc' ∧ cFr k gc gc' ∧ RC k K kd ps sz nm gc') ∧ (∀ gm f, TapeM T B gm → (k = 0 ∨ ∃ s, s < 64 ∧ s ≠ 32 ∧ gm 49 (k - 1) = nI s) → d + 1 < f → ∃ gm', k11_readAll_8 f (nI p) (nI k) gm = some gm' ∧ mFr k gm gm' ∧ RM k K kd ps sz nm gm') := by
        intro s' _ hc0 hm0
        refine ⟨k, fun _ => 32, fun _ => p, fun _ => 0, fun _ => 0, ⟨Nat.le_refl _, hk, fun i _ _ => by omega, Or.inl rfl, Nat.le_of_lt hp⟩, fun gc f hc h35 hf => ?_, fun gm f hm hprev hf => ?_⟩
        · obtain ⟨e1, e2, e3, e4, e5, e6, e7, e8⟩ := addT_E (k := k) (c := 1) (p := p) (z := 0) (g := gc)
          refine ⟨_, hc0 gc f hc h35 hf, ⟨e1, e3, fun a i a1 a2 hi => e2 a i a1 a2 (by omega)⟩, e4, fun i i1 i2 => ?_, fun i i1 i2 => by omega⟩
          obtain rfl : i = k := by omega
          exact ⟨e5, e6⟩
        · obtain ⟨gm', m1, m2, m3, m4⟩ := hm0 gm f hm hprev hf
          refine ⟨gm', m1, m2, fun i i1 i2 => ?_, fun i i1 i2 => by omega⟩
          obtain rfl : i = k := by omega
          exact ⟨m3, m4⟩
      by_cases h400 : k = 400
      · refine last 32 rfl (fun gc f hc h35 hf => ?_) (fun gm f hm hprev hf => ?_)
        · obtain ⟨f, rfl⟩ : ∃ z, f = z + 1 := ⟨f - 1, by omega⟩
          unfold k6_readTape_16 k6_readTape_68 k6_readTape_85
          rw [if_pos ((lit_le (M := 400) (k := 400) rfl (by omega) (by omega)).mpr (by omega)), hc.1, if_neg (by rw [nI_leI (by omega) (by omega)]; omega), k6_add_n hk h35, some_bind, nI_sub (by omega) (by omega), Nat.sub_self]
          rfl
        · obtain ⟨f, rfl⟩ : ∃ z, f = z + 1 := ⟨f - 1, by omega⟩
          obtain ⟨f, rfl⟩ : ∃ z, f = z + 1 := ⟨f - 1, by omega⟩
          obtain ⟨gm1, r1, r2⟩ := mread gm (f + 1) hm hprev
          have tm1 : TapeM T B (up gm1 49 k 32) := ⟨by rw [up_other (by decide)]; exact (r1.tape hm).1, fun p hp => by rw [up_other (by decide)]; exact (r1.tape hm).2 p hp⟩
          refine ⟨up (up (up gm1 49 k 32) 49 (k + 1) 33) 51 (k + 1) (nI T), ?_, ⟨fun a ha => ?_, fun a i hi => ?_⟩, ?_, ?_⟩
          · rw [r2, if_pos (by rw [h400]; rfl), sto_n (by omega) (by omega), stop8 tm1 hk up_self]
          · rw [up_ne (by omega), up_ne (by omega), up_ne (by omega), r1.1 a ha]
          · rw [up_app, up_app, up_app, if_neg (by omega), if_neg (by omega), if_neg (by omega), r1.2.1 a i (by omega)]
          · rw [up_other (by decide), up_slot (by omega), up_self]; rfl
          · rw [up_slot (by omega), up_other (by decide), up_other (by decide)]; exact r1.2.2.2.1
      · have hk4 : k < 400 := by omega
        have ne4 : ¬ nI k = 400 := fun z => h400 ((nI_eq (b := 400) (by omega) (by omega)).mp z)
        rcases q5 with ⟨rfl, hbad⟩ | ⟨hok, hgood⟩
        · refine last 32 rfl (fun gc f hc h35 hf => ?_) (fun gm f hm hprev hf => ?_)
          · obtain ⟨f, rfl⟩ : ∃ z, f = z + 1 := ⟨f - 1, by omega⟩
            unfold k6_readTape_16
            rw [if_neg (fun z => absurd ((lit_le (M := 400) (k := 400) rfl (by omega) (by omega)).mp z) (by omega)), hc.1, if_neg (by rw [nI_leI (by omega) (by omega)]; omega), hbad gc hc, some_bind, bd_eq, if_neg (show ¬ nI p < -1 from fun z => nI_pos (n := p) (by omega) (Int32.lt_trans z (by decide))), k6_add_n hk h35, some_bind, nI_sub (by omega) (by omega), Nat.sub_self]
            rfl
          · obtain ⟨f, rfl⟩ : ∃ z, f = z + 1 := ⟨f - 1, by omega⟩
            obtain ⟨f, rfl⟩ : ∃ z, f = z + 1 := ⟨f - 1, by omega⟩
            obtain ⟨gm1, r1, r2⟩ := mread gm (f + 1) hm hprev
            refine ⟨up (up gm1 49 (k + 1) 33) 51 (k + 1) (nI T), ?_, ⟨fun a ha => ?_, fun a i hi => ?_⟩, ?_, ?_⟩
            · rw [r2, if_neg ne4, stop8 (r1.tape hm) hk r1.2.2.1]
            · rw [up_ne (by omega), up_ne (by omega), r1.1 a ha]
            · rw [up_app, up_app, if_neg (by omega), if_neg (by omega), r1.2.1 a i (by omega)]
            · rw [up_other (by decide), up_slot (by omega)]; exact r1.2.2.1
            · rw [up_slot (by omega), up_other (by decide)]; exact r1.2.2.2.1
        · obtain ⟨K, kd, ps, sz, nm, ⟨t1, t2, t3, t4, t5⟩, hcl, hml⟩ := ih (T - p') p' (k + 1) (by omega) (by omega) (by omega)
          have hs64 : s < 64 ∧ s ≠ 32 := by rcases hok with h | h | h | h <;> omega
          have ifk : ∀ {α : Type} (a : α) (h : Nat → α) i, k + 1 ≤ i → (if i = k then a else h i) = h i := fun a h i hi => if_neg (by omega)
          refine ⟨K, fun i => if i = k then s else kd i, fun i => if i = k then p else ps i, fun i => if i = k then q - p else sz i, fun i => if i = k then v else nm i, ⟨by omega, t2, fun i i1 i2 => ?_, ?_, ?_⟩, fun gc f hc h35 hf => ?_, fun gm f hm hprev hf => ?_⟩
          · by_cases e : i = k
            · simp only [if_pos e]
              exact ⟨hok, by omega, q3⟩
            · simp only [if_neg e]
              exact t3 i (by omega) i2
          · simp only [if_neg (show ¬ K = k by omega)]; exact t4
          · simp only [if_neg (show ¬ K = k by omega)]; exact t5
          · obtain ⟨f, rfl⟩ : ∃ z, f = z + 1 := ⟨f - 1, by omega⟩
            obtain ⟨gc1, c1, c2⟩ := hgood gc hc h35
            obtain ⟨gc', d1, d2, d3, d4, d5⟩ := hcl gc1 f (c2.tape hc) c2.2.2.2.1 (by omega)
            obtain ⟨e1, e2, e3, e4, e5, e6, e7, e8⟩ := c2
            refine ⟨gc', ?_, ⟨fun a ha => (d2.1 a ha).trans (e1 a ha), fun i hi => (d2.2.1 i hi).trans (e3 i hi), fun a i a1 a2 hi => (d2.2.2 a i a1 a2 (by omega)).trans (e2 a i a1 a2 (by omega))⟩, d3, fun i i1 i2 => ?_, fun i i1 i2 => ?_⟩
            · unfold k6_readTape_16
              rw [if_neg (fun z => absurd ((lit_le (M := 400) (k := 400) rfl (by omega) (by omega)).mp z) (by omega)), hc.1, if_neg (by rw [nI_leI (by omega) (by omega)]; omega), c1, some_bind, bd_eq, if_pos ((nI_ltI (by omega) (by omega)).mpr q1)]
              unfold k5_skipBlanks
              dsimp only
              rw [p3 gc1 FU (tokE.tape ⟨e1, e2, e3, e4, e5, e6, e7, e8⟩ hc) (by unfold FU; omega), some_bind, bd_eq, nI_1]
              exact d1
            · by_cases e : i = k
              · simp only [if_pos e]
                subst e
                exact ⟨(d2.2.2 4 i (by decide) (by decide) (by omega)).trans e5, (d2.2.2 5 i (by decide) (by decide) (by omega)).trans e6⟩
              · simp only [if_neg e]
                exact d4 i (by omega) i2
            · by_cases e : i = k
              · simp only [if_pos e]
                subst e
                exact ⟨(d2.2.2 6 i (by decide) (by decide) (by omega)).trans e7, (d2.2.2 7 i (by decide) (by decide) (by omega)).trans e8⟩
              · simp only [if_neg e]
                exact d5 i (by omega) i2
          · obtain ⟨f, rfl⟩ : ∃ z, f = z + 1 := ⟨f - 1, by omega⟩
            obtain ⟨gm1, r1, r2⟩ := mread gm f hm hprev
            obtain ⟨gm', d1, d2, d3, d4⟩ := hml gm1 f (r1.tape hm) (Or.inr ⟨s, hs64.1, hs64.2, r1.2.2.1⟩) (by omega)
            refine ⟨gm', by rw [r2, if_neg ne4]; exact d1, ⟨fun a ha => (d2.1 a ha).trans (r1.1 a ha), fun a i hi => (d2.2 a i (by omega)).trans (r1.2.1 a i (by omega))⟩, fun i i1 i2 => ?_, fun i i1 i2 => ?_⟩
            · by_cases e : i = k
              · simp only [if_pos e]
                subst e
                exact ⟨(d2.2 49 i (by omega)).trans r1.2.2.1, (d2.2 51 i (by omega)).trans r1.2.2.2.1⟩
              · simp only [if_neg e]
                exact d3 i (by omega) i2
            · by_cases e : i = k
              · simp only [if_pos e]
                subst e
                exact ⟨(d2.2 52 i (by omega)).trans r1.2.2.2.2.1, fun z => (d2.2 50 i (by omega)).trans (r1.2.2.2.2.2 z)⟩
              · simp only [if_neg e]
                exact d4 i (by omega) i2
theorem toks2 {T : Nat} {B : Nat → Int32} (hB : Bok T B) : ∃ K kd ps sz nm, Toks T 0 K kd ps sz nm ∧ (∀ gc, TapeC T B gc → ∃ gc', k6_readTape gc = some gc' ∧ cFr 0 gc gc' ∧ RC 0 K kd ps sz nm gc') ∧ (∀ gm, TapeM T B gm → ∃ gm', k11_readAll gm = some gm' ∧ mFr 0 gm gm' ∧ RM 0 K kd ps sz nm gm') := by
  have hT := hB.1
  obtain ⟨p, p1, p2, p3, p4⟩ := skip2 hB T 0 (by omega)
  obtain ⟨K, kd, ps, sz, nm, t, hcl, hml⟩ := toks_loop hB (T - p) (T - p) p 0 (by omega) (Nat.le_refl _) (by omega)
  refine ⟨K, kd, ps, sz, nm, t, fun gc hc => ?_, fun gm hm => ?_⟩
  · have hc1 : TapeC T B (up gc 3 5 0) := ⟨by rw [up_other (by decide)]; exact hc.1, fun p hp => by rw [up_other (by decide)]; exact hc.2 p hp⟩
    obtain ⟨gc', d1, d2, d3⟩ := hcl (up gc 3 5 0) FU hc1 up_self (by unfold FU; omega)
    refine ⟨gc', ?_, ⟨fun a ha => (d2.1 a ha).trans (up_ne (by omega)), fun i hi => (d2.2.1 i hi).trans (up_slot hi), fun a i _ _ hi => absurd hi (by omega)⟩, d3⟩
    unfold k6_readTape k5_skipBlanks
    rw [bd_eq, show k5_skipBlanks_2 (up gc 3 5 0) FU 0 = some (nI p) from p3 _ FU hc1 (by unfold FU; omega), some_bind]
    exact d1
  · obtain ⟨gm', d1, d2, d3⟩ := hml gm FU hm (Or.inl rfl) (by unfold FU; omega)
    refine ⟨gm', ?_, d2, d3⟩
    unfold k11_readAll k11_skip
    rw [show k11_skip_2 gm FU 0 = some (nI p) from p4 gm FU hm (by unfold FU; omega), some_bind]
    exact d1
