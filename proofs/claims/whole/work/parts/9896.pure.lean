/-! teach: the line of an order -/
section TK
variable {T K : Nat} {B : Nat → Int32} {kd ps sz nm : Nat → Nat}
def dOf (s : Nat) : Nat := if s = 5 then 3 else if s = 7 then 4 else s - 8
theorem PM.oth {g g' : G} {p n dep : Nat} (h : PM T K B kd ps sz nm p n dep g) (hf : ∀ a, a ≤ 53 → g' a = g a) (h0 : g' 66 0 = g 66 0) (h12 : g' 66 12 = g 66 12) : PM T K B kd ps sz nm p n dep g' := by
  obtain ⟨h1, h2, h3, h4, h5, h6, h7⟩ := h
  have e47 := hf 47 (by omega)
  exact ⟨by rw [e47]; exact h1, by rw [e47]; exact h2, h3.fr (fun a a1 a2 => hf a (by omega)) (by rw [e47]), by rw [e47]; exact h4, by rw [h12]; exact h5, h6, h7.fr (by rw [e47]) (by rw [e47]) h0 (hf 53 (by omega))⟩
theorem min16 {O : Nat} (hO : O ≤ 16) : (if nI O + 1 < 16 then nI O + 1 else 16) = nI (if O < 16 then O + 1 else 16) := by
  rw [nI_1]
  by_cases q : O + 1 < 16
  · rw [if_pos (show nI (O + 1) < 16 from (nI_ltI (a := O + 1) (b := 16) (by omega) (by omega)).mpr q), if_pos (by omega)]
  · rw [if_neg (show ¬ nI (O + 1) < 16 from fun z => q ((nI_ltI (a := O + 1) (b := 16) (by omega) (by omega)).mp z))]
    by_cases q2 : O < 16
    · rw [if_pos q2, show O + 1 = 16 by omega]; rfl
    · rw [if_neg q2]; rfl
theorem o132 {g : G} {O n : Nat} {t0 : Int32} (hO : O ≤ 16) (hn : g 66 12 = nI n) : k11_order_132 (nI O) t0 (nI O) g = some (up (up (up g 74 O t0) 72 O (nI n)) 66 5 (nI (if O < 16 then O + 1 else 16))) := by
  unfold k11_order_132
  rw [sto_n (by omega) (by omega), up_other (by decide), hn, sto_n (by omega) (by omega), min16 hO, bd_eq, bd_eq]
theorem w107 {g : G} {O n q : Nat} (h : WM q g) (hO : O ≤ 16) (hn : g 66 12 = nI n) : ∃ g', k11_order_107 (nI O) g = some g' ∧ WM q g' ∧ lG g g' := by
  unfold k11_order_107
  rw [takes_w h.1, some_bind]
  dsimp only
  rw [if_pos rfl, o132 hO hn]
  exact ⟨_, rfl, h.f (by rw [up_ne (by decide), up_ne (by decide), up_ne (by decide)]), ⟨fun a a1 a2 a3 => by rw [up_ne (by omega), up_ne (by omega), up_ne (by omega)], fun k hk => by rw [up_ne (by decide), up_ne (by decide), up_ne (by decide)]⟩⟩
/-- an order told, all of it -/
theorem ord_ok {gG gm c' g' : G} {p p' L L' n n' O : Nat} (h : LnOK T K B kd ps sz nm p L n gG gm) (hO16 : O ≤ 16) (hO : gm 66 5 = nI O) (hpp : p < p') (hPG : PG T K B kd ps sz nm p' L' c') (hPM : PM T K B kd ps sz nm p' n' 0 g') (fC : ∀ i, i < L → c' 11 i = gG 11 i ∧ c' 12 i = gG 12 i) (fM : ∀ a i, 75 ≤ a → a ≤ 77 → i < n → g' a i = gm a i) (fK : ∀ a k, 69 ≤ a → a ≤ 74 → k ≠ O → g' a k = gm a k) (f66 : ∀ k, k = 1 ∨ k = 2 → g' 66 k = gm 66 k) (f67 : g' 67 = gm 67) (f68 : g' 68 = gm 68) (f5 : g' 66 5 = nI (if O < 16 then O + 1 else 16)) (hms : ms kd nm p' = ((ms kd nm p).1, (ms kd nm p).2.1, (ms kd nm p).2.2.1 + 1, (ms kd nm p).2.2.2)) (hno : noErr kd nm (sameN B ps sz) p' → (ms kd nm p).2.2.1 + 1 ≤ 16) (hord : noErr kd nm (sameN B ps sz) p' → ordD K kd nm (sameN B ps sz) c' g' p' O n n' L L') : LnOK T K B kd ps sz nm p' L' n' c' g' := by
  obtain ⟨hG, hM, -, hL⟩ := id h
  have ne_p : noErr kd nm (sameN B ps sz) p' → noErr kd nm (sameN B ps sz) p := fun z i hi => z i (by omega)
  refine ⟨hPG, hPM, ⟨if O < 16 then O + 1 else 16, by split <;> omega, f5⟩, fun z => ?_⟩
  obtain ⟨l1, l2, l3, l4, l5, F, C, F0, C0, F1, C1, l6⟩ := hL (ne_p z)
  have h16 := hno z
  have eO : O = (ms kd nm p).2.2.1 := (nI_eq (by omega) (by omega)).mp (hO.symm.trans l1)
  have hlt : O < 16 := by omega
  obtain ⟨m1, m2⟩ := Lin.ordMono l6
  unfold Lin
  rw [hms]
  refine ⟨by rw [f5, if_pos hlt, eO], h16, by rw [f66 1 (Or.inl rfl)]; exact l3, by rw [f66 2 (Or.inr rfl)]; exact l4, fun j hj => by rw [f67, f68]; exact l5 j hj, fun k => if k = (ms kd nm p).2.2.1 + 1 then n' else F k, fun k => if k = (ms kd nm p).2.2.1 + 1 then L' else C k, ?_, ?_, if_pos rfl, if_pos rfl, fun k hk => ?_⟩
  · exact (if_neg (show ¬ 0 = (ms kd nm p).2.2.1 + 1 by omega)).trans F0
  · exact (if_neg (show ¬ 0 = (ms kd nm p).2.2.1 + 1 by omega)).trans C0
  · have hk' : k < (ms kd nm p).2.2.1 + 1 := hk
    dsimp only
    rw [if_neg (show ¬ k = (ms kd nm p).2.2.1 + 1 by omega), if_neg (show ¬ k = (ms kd nm p).2.2.1 + 1 by omega)]
    by_cases e : k = (ms kd nm p).2.2.1
    · rw [if_pos (show k + 1 = (ms kd nm p).2.2.1 + 1 by omega), if_pos (show k + 1 = (ms kd nm p).2.2.1 + 1 by omega), e, F1, C1, ← eO]
      exact hord z
    · rw [if_neg (show ¬ k + 1 = (ms kd nm p).2.2.1 + 1 by omega), if_neg (show ¬ k + 1 = (ms kd nm p).2.2.1 + 1 by omega)]
      have a1 := m1 (k + 1) (by omega)
      have a2 := m2 (k + 1) (by omega)
      rw [F1] at a1
      rw [C1] at a2
      exact (l6 k (by omega)).fr (by omega) a1 a2 fC fM (fun a x1 x2 => fK a k x1 x2 (by omega))
/-- what is known of an order when its test is due -/
def Half (K : Nat) (kd nm : Nat → Nat) (sm : Nat → Nat → Bool) (p p' L n n' O d m : Nat) (su : Option Nat) (gG gm c g : G) : Prop :=
  n ≤ n' ∧ n' - n + 2 ≤ p' - p ∧ (∀ j, n ≤ j → j < n' → ndOK K kd nm sm c g p' (L + (j - n)) j) ∧ stkRun (nv g) (n' - n) n [] = some su.toList ∧ (∀ r, su = some r → r < n') ∧ g 71 O = nI n ∧ g 69 O = nI d ∧ g 70 O = nI m ∧ g 73 O = optI su ∧ (∀ i, i < L → c 11 i = gG 11 i ∧ c 12 i = gG 12 i) ∧ (∀ a i, 75 ≤ a → a ≤ 77 → i < n → g a i = gm a i) ∧ (∀ a k, 69 ≤ a → a ≤ 74 → k ≠ O → g a k = gm a k) ∧ (∀ k, k ≠ 12 → g 66 k = gm 66 k) ∧ g 67 = gm 67 ∧ g 68 = gm 68 ∧ lC gG c ∧ lG gm g
theorem nv_fr {g g' : G} {n d : Nat} {st : List Nat} (h : ∀ a, 75 ≤ a → a ≤ 77 → g' a = g a) : stkRun (nv g') d n st = stkRun (nv g) d n st := stk_congr _ _ _ (fun a i a1 a2 _ _ => by
  show g' (a + 12) i = g (a + 12) i
  rw [h (a + 12) (by omega) (by omega)])
theorem ndOK.eqv {c c' g g' : G} {p b j : Nat} (h : ndOK K kd nm (sameN B ps sz) c g p b j) (hc : c' 11 = c 11 ∧ c' 12 = c 12) (hg : ∀ a, 75 ≤ a → a ≤ 77 → g' a = g a) : ndOK K kd nm (sameN B ps sz) c' g' p b j := h.fr (L := b + 1) (n := j + 1) (Nat.le_refl p) (fun i _ => ⟨by rw [hc.1], by rw [hc.2]⟩) (fun a i a1 a2 _ => by rw [hg a a1 a2]) (by omega) (by omega)
theorem order_tail {gG gm c g : G} {p p' L n n' O d m : Nat} {su : Option Nat} (hB : Bok T B) (hT : Toks T 0 K kd ps sz nm) (h : LnOK T K B kd ps sz nm p L n gG gm) (hO16 : O ≤ 16) (hO : gm 66 5 = nI O) (hd : d < 5) (hsu : su.isSome = true ↔ 3 ≤ d) (hpp : p < p') (hPG : PG T K B kd ps sz nm p' (L + (n' - n)) c) (hPM : PM T K B kd ps sz nm p' n' 0 g) (hH : Half K kd nm (sameN B ps sz) p p' L n n' O d m su gG gm c g) (hms : ms kd nm p' = ((ms kd nm p).1, (ms kd nm p).2.1, (ms kd nm p).2.2.1 + 1, (ms kd nm p).2.2.2)) (hno : noErr kd nm (sameN B ps sz) p' → (ms kd nm p).2.2.1 + 1 ≤ 16) (ht1 : p + 1 < K) (ht2 : p + 1 < p') (ht3 : kd (p + 1) = 30) (ht4 : newB kd (p + 1) = false) (ht5 : noErr kd nm (sameN B ps sz) (p + 1 + 1) → mvO (sameN B ps sz) (ms kd nm (p + 1)) (p + 1) = some m) :
    LineOut T K B kd ps sz nm ((k0_take 139 c).bind fun u13 => if u13.1 = 0 then (k2_write 8 7 (nI (p + 1)) u13.2).bind fun g17 => k0_line_103 (nI (doStep d)) (nI (p + 1)) g17 else (k0_test 0 u13.2).bind fun u15 => if u15.1 = 0 then some (0, u15.2) else k0_line_103 (nI (doStep d)) (nI (p + 1)) u15.2) (k11_order_107 (nI O) g) p gG gm := by
  have hK := hT.2.1
  obtain ⟨q1, q2, q3, q4, q4b, q5, q6, q7, q8, q9, q10, q11, q12, q13, q14, q15, q16⟩ := hH
  have hp'K := hPG.2.1
  have hLp := h.1.2.2.2.2
  unfold k11_order_107
  rw [take_c hT hPG.1 hp'K hPG.2.2.1 (s := 11) (c := 139) (by decide) (by decide) rfl, takes_m1 hT hPM.1 hPM.2.1 hp'K hPM.2.2.1 (s := 11) (c := 11) (by decide) rfl]
  by_cases e11 : kd p' = 11
  · have hp' : p' < K := kdK hT hp'K e11 (by decide) (by decide)
    have hq := quiet (B := B) (ps := ps) (sz := sz) (nm := nm) (kd := kd) (p := p') (by omega) (by omega) (by rw [e11]; rfl)
    have hM1 := hPM.go hq
    have hG1 := hPG.go hp'
    have hctx : ctxN kd (p' + 1) = 0 := ctx_next (by omega) (by omega) (by omega) (by omega) (fun z => by omega)
    rw [if_pos e11, if_pos e11, some_bind, some_bind]
    dsimp only
    rw [if_neg (show ¬ (1 : Int32) = 0 by decide), if_neg (show ¬ (1 : Int32) = 0 by decide)]
    have hT0 := (tests (T := T) (K := K) (B := B) (kd := kd) (ps := ps) (sz := sz) (nm := nm) hB hT 8 0 rfl).2 100 100 _ _ (p' + 1) (L + (n' - n)) n' (by omega) (by omega) hG1 hM1 hctx
    unfold k0_test k11_test
    rcases hT0 with ⟨gG', gm', p2, n2, r2, x1, x2, y1, y2, y3, y4, y5, y6, y7, y8, y9⟩ | ⟨gG', gm', q, n2, u, x1, x2, y1, y2, y3, y4, y5, y6, y7, y8, y9⟩
    · have hp2K := y2.2.1
      have hn2 := y3.2.2.2.2.2.1
      have hL2 : L + (n' - n) + (n2 - n') = L + (n2 - n) := by omega
      rw [hL2] at y2
      rw [show kG0 100 0 0 0 (up c 13 2 (nI (p' + 1))) = some (1, gG') from x1, x2, some_bind, some_bind]
      dsimp only
      rw [if_neg (show ¬ (1 : Int32) = 0 by decide), o132 hO16 y3.2.2.2.2.1]
      unfold k0_line_103
      rw [write_c y2.2.2.2.1 (by omega), some_bind]
      have hPG2 := y2.aS (c := nI (doStep d)) (v := nI (p + 1)) (by omega)
      have hg75 : ∀ a, 75 ≤ a → a ≤ 77 → (up (up (up gm' 74 O (nI r2)) 72 O (nI n2)) 66 5 (nI (if O < 16 then O + 1 else 16))) a = gm' a := fun a a1 a2 => by rw [up_ne (by omega), up_ne (by omega), up_ne (by omega)]
      have fC : ∀ i, i < L → (addS (L + (n2 - n)) (nI (doStep d)) (nI (p + 1)) gG') 11 i = gG 11 i ∧ (addS (L + (n2 - n)) (nI (doStep d)) (nI (p + 1)) gG') 12 i = gG 12 i := by
        intro i hi
        have b1 := addS_fr (L := L + (n2 - n)) (c := nI (doStep d)) (v := nI (p + 1)) (g := gG')
        obtain ⟨b2, b3⟩ := b1.2.2.2 i (by omega)
        obtain ⟨b4, b5⟩ := y8.2.2.2 i (by omega)
        rw [b2, b3, b4, b5, up_other (by decide), up_other (by decide)]
        exact q9 i hi
      have gmg : ∀ a, a ≠ 47 → a ≠ 66 → a ≠ 75 → a ≠ 76 → a ≠ 77 → gm' a = g a := fun a a1 a2 a3 a4 a5 => by rw [y9.1 a a1 a2 a3 a4 a5, up_ne a1]
      have g66 : ∀ k, k ≠ 12 → gm' 66 k = g 66 k := fun k hk => by rw [y9.2.1 k hk, up_other (by decide)]
      have gn : ∀ a i, 75 ≤ a → a ≤ 77 → i < n' → gm' a i = g a i := fun a i a1 a2 hi => by rw [y9.2.2.2 a i a1 a2 hi, up_ne (by omega)]
      refine Or.inl ⟨_, _, p2, L + (n2 - n) + 1, n2, rfl, rfl, by omega, ord_ok h hO16 hO (by omega) hPG2 (y3.oth (fun a ha => by rw [up_ne (by omega), up_ne (by omega), up_ne (by omega)]) (by rw [up_slot (by decide), up_other (by decide), up_other (by decide)]) (by rw [up_slot (by decide), up_other (by decide), up_other (by decide)])) fC (fun a i a1 a2 hi => by rw [hg75 a a1 a2, gn a i a1 a2 (by omega)]; exact q10 a i a1 a2 hi) (fun a k a1 a2 hk => ?_) (fun k hk => by rw [up_slot (by omega), up_other (by decide), up_other (by decide), g66 k (by omega)]; exact q12 k (by omega)) (by rw [up_ne (by decide), up_ne (by decide), up_ne (by decide), gmg 67 (by decide) (by decide) (by decide) (by decide) (by decide)]; exact q13) (by rw [up_ne (by decide), up_ne (by decide), up_ne (by decide), gmg 68 (by decide) (by decide) (by decide) (by decide) (by decide)]; exact q14) up_self (by rw [y1.2, hq.2]; exact hms) (fun z => hno (fun i hi => z i (by omega))) (fun z => ?_), ?_, ?_⟩
      · rw [up_ne (by omega), up_app, up_app, if_neg (fun z => hk z.2), if_neg (fun z => hk z.2), gmg a (by omega) (by omega) (by omega) (by omega) (by omega)]
        exact q11 a k a1 a2 hk
      · have gO : ∀ a, 69 ≤ a → a ≤ 74 → gm' a O = g a O := fun a a1 a2 => by rw [gmg a (by omega) (by omega) (by omega) (by omega) (by omega)]
        obtain ⟨s1, s2, s3, s4⟩ := y7
        have hstk : stkRun (nv gm') (n2 - n) n [] = some (r2 :: su.toList) := by
          rw [show n2 - n = (n' - n) + (n2 - n') by omega, stk_add]
          have : stkRun (nv gm') (n' - n) n [] = some su.toList := by
            rw [← q4]
            exact stk_congr _ _ _ (fun a i a1 a2 i1 i2 => gn (a + 12) i (by omega) (by omega) (by omega))
          rw [this]
          show stkRun _ (n2 - n') (n + (n' - n)) su.toList = _
          rw [show n + (n' - n) = n' by omega, s4]
        have u3 := addS_v (L := L + (n2 - n)) (c := nI (doStep d)) (v := nI (p + 1)) (g := gG')
        have u4 := (addS_fr (L := L + (n2 - n)) (c := nI (doStep d)) (v := nI (p + 1)) (g := gG')).2.2.2
        refine ⟨by omega, by rw [up_other (by decide), up_other (by decide), up_other (by decide), gO 71 (by decide) (by decide)]; exact q5, by rw [up_other (by decide), up_self], fun j j1 j2 => ?_, d, m, some r2, su, hd, by rw [up_other (by decide), up_other (by decide), up_other (by decide), gO 69 (by decide) (by decide)]; exact q6, by rw [up_other (by decide), up_other (by decide), up_other (by decide), gO 70 (by decide) (by decide)]; exact q7, by rw [up_other (by decide), up_other (by decide), up_self]; rfl, by rw [up_other (by decide), up_other (by decide), up_other (by decide), gO 73 (by decide) (by decide)]; exact q8, hsu, ?_, ?_, fun z => (by cases z), ?_, p + 1, by omega, ht1, ht3, ht4, ?_, ht5⟩
        · by_cases e : j < n'
          · refine (q3 j j1 e).fr (L := L + (n' - n)) (n := n') (by omega) (fun i hi => ?_) (fun a i a1 a2 hi => by rw [hg75 a a1 a2]; exact gn a i a1 a2 hi) (by omega) e
            obtain ⟨b2, b3⟩ := u4 i (by omega)
            obtain ⟨b4, b5⟩ := y8.2.2.2 i hi
            rw [b2, b3, b4, b5, up_other (by decide), up_other (by decide)]
            exact ⟨rfl, rfl⟩
          · have := s3 j (by omega) j2
            rw [show L + (n' - n) + (j - n') = L + (j - n) by omega] at this
            exact this.fr (L := L + (n2 - n)) (n := n2) (Nat.le_refl _) u4 (fun a i a1 a2 _ => by rw [hg75 a a1 a2]) (by omega) j2
        · rw [nv_fr hg75, hstk]
          rfl
        · rw [if_neg (by simp)]
        · rw [show L + (n2 - n) + 1 - 1 = L + (n2 - n) by omega]; exact u3.1
        · rw [show L + (n2 - n) + 1 - 1 = L + (n2 - n) by omega]; exact u3.2.1
      · exact q15.trans (at_l.trans (y8.l.trans addS_fr.l))
      · refine q16.trans (f47_tok.l.trans (y9.l.trans ⟨fun a a1 a2 a3 => ?_, fun k hk => ?_⟩))
        · rw [up_ne (by omega), up_ne (by omega), up_ne (by omega)]
        · rw [up_ne (by decide), up_ne (by decide), up_ne (by decide)]
    · rw [show kG0 100 0 0 0 (up c 13 2 (nI (p' + 1))) = some (0, gG') from x1, x2, some_bind, some_bind]
      dsimp only
      rw [if_pos rfl, o132 hO16 y5]
      refine Or.inr ⟨gG', _, q, rfl, rfl, y2, y3, y4.f (by rw [up_ne (by decide), up_ne (by decide), up_ne (by decide)]), q15.trans (at_l.trans y8.l), q16.trans (f47_tok.l.trans (y9.l.trans ⟨fun a a1 a2 a3 => ?_, fun k hk => ?_⟩))⟩
      · rw [up_ne (by omega), up_ne (by omega), up_ne (by omega)]
      · rw [up_ne (by decide), up_ne (by decide), up_ne (by decide)]
  · rw [if_neg e11, if_neg e11, some_bind, some_bind]
    dsimp only
    have hn' := hPM.2.2.2.2.2.1
    rw [if_pos rfl, if_pos rfl, o132 hO16 hPM.2.2.2.2.1, write_c hPG.2.2.2.1 (by omega), some_bind]
    have hA := hPG.aS (c := 7) (v := nI (p + 1)) (by omega)
    unfold k0_line_103
    rw [write_c hA.2.2.2.1 (by omega), some_bind]
    have hA2 := hA.aS (c := nI (doStep d)) (v := nI (p + 1)) (by omega)
    have a1f := addS_fr (L := L + (n' - n)) (c := 7) (v := nI (p + 1)) (g := c)
    have a2f := addS_fr (L := L + (n' - n) + 1) (c := nI (doStep d)) (v := nI (p + 1)) (g := addS (L + (n' - n)) 7 (nI (p + 1)) c)
    have a1v := addS_v (L := L + (n' - n)) (c := 7) (v := nI (p + 1)) (g := c)
    have a2v := addS_v (L := L + (n' - n) + 1) (c := nI (doStep d)) (v := nI (p + 1)) (g := addS (L + (n' - n)) 7 (nI (p + 1)) c)
    have hg75 : ∀ a, 75 ≤ a → a ≤ 77 → (up (up (up g 74 O (-1)) 72 O (nI n')) 66 5 (nI (if O < 16 then O + 1 else 16))) a = g a := fun a a1 a2 => by rw [up_ne (by omega), up_ne (by omega), up_ne (by omega)]
    have fLow : ∀ i, i < L + (n' - n) → (addS (L + (n' - n) + 1) (nI (doStep d)) (nI (p + 1)) (addS (L + (n' - n)) 7 (nI (p + 1)) c)) 11 i = c 11 i ∧ (addS (L + (n' - n) + 1) (nI (doStep d)) (nI (p + 1)) (addS (L + (n' - n)) 7 (nI (p + 1)) c)) 12 i = c 12 i := by
      intro i hi
      obtain ⟨b2, b3⟩ := a2f.2.2.2 i (by omega)
      obtain ⟨b4, b5⟩ := a1f.2.2.2 i hi
      exact ⟨b2.trans b4, b3.trans b5⟩
    refine Or.inl ⟨_, _, p', L + (n' - n) + 1 + 1, n', rfl, rfl, by omega, ord_ok h hO16 hO (by omega) hA2 (hPM.oth (fun a ha => by rw [up_ne (by omega), up_ne (by omega), up_ne (by omega)]) (by rw [up_slot (by decide), up_other (by decide), up_other (by decide)]) (by rw [up_slot (by decide), up_other (by decide), up_other (by decide)])) (fun i hi => by rw [(fLow i (by omega)).1, (fLow i (by omega)).2]; exact q9 i hi) (fun a i a1 a2 hi => by rw [hg75 a a1 a2]; exact q10 a i a1 a2 hi) (fun a k a1 a2 hk => ?_) (fun k hk => by rw [up_slot (by omega), up_other (by decide), up_other (by decide)]; exact q12 k (by omega)) (by rw [up_ne (by decide), up_ne (by decide), up_ne (by decide)]; exact q13) (by rw [up_ne (by decide), up_ne (by decide), up_ne (by decide)]; exact q14) up_self hms hno (fun z => ?_), q15.trans (a1f.l.trans a2f.l), ?_⟩
    · rw [up_ne (by omega), up_app, up_app, if_neg (fun z => hk z.2), if_neg (fun z => hk z.2)]
      exact q11 a k a1 a2 hk
    · refine ⟨by omega, by rw [up_other (by decide), up_other (by decide), up_other (by decide)]; exact q5, by rw [up_other (by decide), up_self], fun j j1 j2 => ?_, d, m, none, su, hd, by rw [up_other (by decide), up_other (by decide), up_other (by decide)]; exact q6, by rw [up_other (by decide), up_other (by decide), up_other (by decide)]; exact q7, by rw [up_other (by decide), up_other (by decide), up_self]; rfl, by rw [up_other (by decide), up_other (by decide), up_other (by decide)]; exact q8, hsu, ?_, ?_, fun _ => ?_, ?_, p + 1, by omega, ht1, ht3, ht4, ?_, ht5⟩
      · exact (q3 j j1 j2).fr (L := L + (n' - n)) (n := n') (Nat.le_refl _) fLow (fun a i a1 a2 _ => by rw [hg75 a a1 a2]) (by omega) j2
      · rw [nv_fr hg75, q4]; rfl
      · rw [if_pos rfl]
      · rw [(a2f.2.2.2 (L + (n' - n)) (by omega)).1]; exact a1v.1
      · rw [show L + (n' - n) + 1 + 1 - 1 = L + (n' - n) + 1 by omega]; exact a2v.1
      · rw [show L + (n' - n) + 1 + 1 - 1 = L + (n' - n) + 1 by omega]; exact a2v.2.1
    · refine q16.trans ⟨fun a a1 a2 a3 => ?_, fun k hk => ?_⟩
      · rw [up_ne (by omega), up_ne (by omega), up_ne (by omega)]
      · rw [up_ne (by decide), up_ne (by decide), up_ne (by decide)]
end TK
