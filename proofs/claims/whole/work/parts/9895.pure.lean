/-! teach: the line of a mirror -/
section TK
variable {T K : Nat} {B : Nat → Int32} {kd ps sz nm : Nat → Nat}
theorem zr2 (x : Option (Int32 × G)) : ((x.bind fun u => zr u.1 u.2).bind fun u => zr u.1 u.2) = x.bind fun u => zr u.1 u.2 := by
  cases x with
  | none => rfl
  | some u =>
    show (zr u.1 u.2).bind _ = zr u.1 u.2
    unfold zr
    by_cases h : u.1 = 0 ∨ u.1 = 1
    · rw [if_pos h, some_bind]
      exact if_pos h
    · rw [if_neg h]; rfl
theorem fail_line {x : Option (Int32 × G)} {y : Option G} {p q : Nat} {gG gm cq : G} (hx : x = some (0, cq)) (hy : ∃ g', y = some g' ∧ WM q g' ∧ lG gm g') (hq : q ≤ K) (h13 : cq 13 2 = nI q) (hc : lC gG cq) : LineOut T K B kd ps sz nm x y p gG gm := by
  obtain ⟨g', y1, y2, y3⟩ := hy
  exact Or.inr ⟨cq, g', q, hx, y1, hq, h13, y2, hc, y3⟩
theorem mir_ok {gG gm gG' gm' : G} {p p' L n M a b : Nat} {x : Nat → Nat} {w : Int32} (h : LnOK T K B kd ps sz nm p L n gG gm) (hpp : p < p') (hPG : PG T K B kd ps sz nm p' L gG') (hGa : ∀ a, a ≠ 13 → gG' a = gG a) (hM : M ≤ 10) (h66 : gm 66 0 = nI M) (hx : ∀ j, j < M → gm 53 j = nI (x j) ∧ x j < K) (hn : noErr kd nm (sameN B ps sz) p → M = (ms kd nm p).1 ∧ x = (ms kd nm p).2.1) (hp1 : p + 1 < K) (hRW : RW T K B kd ps sz nm p' gm') (f1 : ∀ a, a ≠ 47 → a ≠ 53 → a ≠ 66 → a ≠ 67 → a ≠ 68 → gm' a = gm a) (f2 : ∀ k, k ≠ 0 → gm' 66 k = gm 66 k) (f3 : gm' 66 0 = nI (if M < 10 then M + 1 else 10)) (f4 : ∀ j, gm' 67 j = if j = M then nI a else gm 67 j) (f5 : ∀ j, gm' 68 j = if j = M then w else gm 68 j) (f6 : ∀ j, j ≤ M → j < 10 → gm' 53 j = if j = M then nI (p + 1) else gm 53 j) (f7 : gm' 47 12 = gm 47 12) (hms : ms kd nm p' = ((ms kd nm p).1 + 1, (fun k => if k = (ms kd nm p).1 then p + 1 else (ms kd nm p).2.1 k), (ms kd nm p).2.2.1, (ms kd nm p).2.2.2.1, (ms kd nm p).2.2.2.2.1, setO (ms kd nm p).2.2.2.2.2.1 (ms kd nm p).1 (nI a), setO (ms kd nm p).2.2.2.2.2.2 (ms kd nm p).1 w)) (hno : noErr kd nm (sameN B ps sz) p' → a ≤ 100 ∧ (-90 ≤ w ∧ w ≤ 90) ∧ (ms kd nm p).1 < 10) : LnOK T K B kd ps sz nm p' L n gG' gm' := by
  obtain ⟨hG, hMm, hO, hL⟩ := id h
  have ne_p : noErr kd nm (sameN B ps sz) p' → noErr kd nm (sameN B ps sz) p := fun z i hi => z i (by omega)
  refine ⟨hPG, ⟨hRW.1, hRW.2.1, hRW.2.2.1, by rw [f7]; exact hMm.2.2.2.1, by rw [f2 12 (by decide)]; exact hMm.2.2.2.2.1, by have := hMm.2.2.2.2.2.1; omega, ?_⟩, ?_, fun z => ?_⟩
  · refine errOK.mk (x := fun k => if k = M then p + 1 else x k) hRW.2.2.2 (show (if M < 10 then M + 1 else 10) ≤ 10 by split <;> omega) f3 (fun j hj => ?_) (fun z => ?_)
    · have hj10 : j ≤ M ∧ j < 10 := by
        by_cases q : M < 10
        · rw [if_pos q] at hj; omega
        · rw [if_neg q] at hj; omega
      rw [f6 j hj10.1 hj10.2]
      by_cases q : j = M
      · rw [if_pos q, if_pos q]; exact ⟨rfl, hp1⟩
      · rw [if_neg q, if_neg q]; exact hx j (by omega)
    · obtain ⟨c1, c2⟩ := hn (ne_p z)
      obtain ⟨n1, n2, n3⟩ := hno z
      rw [hms]
      refine ⟨by rw [if_pos (by omega), c1], fun j _ => ?_⟩
      show (if j = M then p + 1 else x j) = if j = (ms kd nm p).1 then p + 1 else (ms kd nm p).2.1 j
      rw [c1, c2]
  · obtain ⟨O, o1, o2⟩ := hO
    exact ⟨O, o1, by rw [f2 5 (by decide)]; exact o2⟩
  · obtain ⟨l1, l2, l3, l4, l5, l6⟩ := hL (ne_p z)
    obtain ⟨c1, c2⟩ := hn (ne_p z)
    obtain ⟨n1, n2, n3⟩ := hno z
    unfold Lin
    rw [hms]
    refine ⟨by rw [f2 5 (by decide)]; exact l1, l2, by rw [f2 1 (by decide)]; exact l3, by rw [f2 2 (by decide)]; exact l4, fun j hj => ?_, ords_fr (by omega) l6 (fun i hi => ⟨by rw [hGa 11 (by decide)], by rw [hGa 12 (by decide)]⟩) (fun a i a1 a2 hi => by rw [f1 a (by omega) (by omega) (by omega) (by omega) (by omega)]) (fun a k a1 a2 hk => by rw [f1 a (by omega) (by omega) (by omega) (by omega) (by omega)])⟩
    rw [f4, f5, c1]
    show (if j = (ms kd nm p).1 then some (nI a) else (ms kd nm p).2.2.2.2.2.1 j) = _ ∧ (if j = (ms kd nm p).1 then some w else (ms kd nm p).2.2.2.2.2.2 j) = _ ∧ _
    by_cases q : j = (ms kd nm p).1
    · simp only [if_pos q]
      exact ⟨trivial, trivial, ⟨nI_pos' (by omega), (le_lit (M := 100) (k := 100) rfl (by omega) (by omega)).mpr n1⟩, n2⟩
    · simp only [if_neg q]
      exact l5 j (by have : j < (ms kd nm p).1 + 1 := hj; omega)
theorem neg_rng {v : Nat} (h : v ≤ 90) : (-90 ≤ -(nI v) ∧ -(nI v) ≤ 90) ∧ (-90 ≤ nI v ∧ nI v ≤ 90) := by
  have hn : (-(nI v)).toInt = -(v : Int) := by
    rw [Int32.toInt_neg, nI_toInt (by omega), Int.bmod_eq_of_le (by omega) (by omega)]
  refine ⟨⟨Int32.le_iff_toInt_le.mpr ?_, Int32.le_iff_toInt_le.mpr ?_⟩, ⟨Int32.le_iff_toInt_le.mpr ?_, Int32.le_iff_toInt_le.mpr ?_⟩⟩
  · rw [hn]; show (-90 : Int) ≤ _; omega
  · rw [hn]; show _ ≤ (90 : Int); omega
  · rw [nI_toInt (by omega)]; show (-90 : Int) ≤ _; omega
  · rw [nI_toInt (by omega)]; show _ ≤ (90 : Int); omega
theorem mirror_line {gG gm : G} {p L n : Nat} (hB : Bok T B) (hT : Toks T 0 K kd ps sz nm) (h : LnOK T K B kd ps sz nm p L n gG gm) (hk : kd p = 0) : LineOut T K B kd ps sz nm (k0_line gG) (k11_line gm) p gG gm := by
  have hK := hT.2.1
  obtain ⟨hG, hM, hO, hL⟩ := id h
  have hpK := hG.2.1
  have hp : p < K := kdK hT hpK hk (by omega) (by omega)
  have hq := quiet (B := B) (ps := ps) (sz := sz) (nm := nm) (kd := kd) (p := p) (by omega) (by omega) (by rw [hk]; rfl)
  have hM1 := hM.go hq
  have hG1 := hG.go hp
  obtain ⟨M, x, b1, b2, b3, b4⟩ := hM.2.2.2.2.2.2.bd
  have tC := fun (g : G) (i s : Nat) (c : Int32) (hg : PG T K B kd ps sz nm i L g) (h1 : okB s = true) (h2 : s < 64) (h3 : c = nI (kap s)) => take_c hT hg.1 hg.2.1 hg.2.2.1 (s := s) (c := c) h1 h2 h3
  have tM := fun (g : G) (i s : Nat) (c : Int32) (hg : RW T K B kd ps sz nm i g) (hi : i ≤ K) (h2 : s < 64) (h3 : c = nI s) => take_m1 hT hg.1 hg.2.1 hi hg.2.2.1 (s := s) (c := c) h2 h3
  have hcls : k0_line gG = (k0_mirror (up gG 13 2 (nI (p + 1)))).bind fun u18 => zr u18.1 u18.2 := by
    unfold k0_line
    rw [tC gG p 0 128 hG (by decide) (by decide) rfl, if_pos hk, some_bind]
    dsimp only
    rw [if_neg (by decide)]
  have hmdl : k11_line gm = (k11_mirror (up gm 47 8 (nI (p + 1)))).bind fun g => some g := by
    unfold k11_line
    rw [takes_m1 hT hM.1 hM.2.1 hpK hM.2.2.1 (s := 0) (c := 0) (by decide) rfl, if_pos hk, some_bind]
    dsimp only
    rw [if_neg (by decide)]
  rw [hcls, hmdl]
  have b2' : up gm 47 8 (nI (p + 1)) 66 0 = nI M := by rw [up_other (by decide)]; exact b2
  have b3' : ∀ j, j < M → up gm 47 8 (nI (p + 1)) 53 j = nI (x j) ∧ x j < K := fun j hj => by rw [up_other (by decide)]; exact b3 j hj
  have fz : ∀ g : G, zr 0 g = some (0, g) := fun g => zr_01 (Or.inl rfl)
  unfold k0_mirror
  rw [tC _ (p + 1) 30 2 hG1 (by decide) (by decide) rfl]
  by_cases e1 : kd (p + 1) = 30
  · have hp1 : p + 1 < K := kdK hT (by omega) e1 (by decide) (by decide)
    obtain ⟨g4, y1, y2, y3, y4, y5, y6, y7⟩ := mir_marks hB hT hM1.rwm (by omega) hk e1 b1 b2' b3' b4 hq.2
    have mt4 : MT T K B kd ps sz nm g4 := hM1.2.2.1.fr (fun a a1 a2 => y5 a (by omega) (by omega)) (y6 2 (by omega))
    have hG2 := hG1.go hp1
    rw [if_pos e1, y1, m80, take_m1 hT y2 y3 (by omega) mt4 (s := 30) (c := 30) (by decide) rfl, if_pos e1, some_bind, some_bind]
    dsimp only
    have hR2 : RW T K B kd ps sz nm (p + 1 + 1) (up g4 47 8 (nI (p + 1 + 1))) := ⟨up_self, by rw [up_slot (by decide)]; exact y3, mt4.f47 f47_tok, y4.fr (up_slot (by decide)) (up_slot (by decide))⟩
    have l4 : lG gm (up g4 47 8 (nI (p + 1 + 1))) := lG.trans f47_tok.l (lG.trans ⟨fun a a1 a2 a3 => y5 a a1 a2, fun k hk => y6 k (by omega)⟩ f47_tok.l)
    rw [if_neg (show ¬ (1 : Int32) = 0 by decide), tC _ (p + 1 + 1) 1 129 hG2 (by decide) (by decide) rfl, tM _ (p + 1 + 1) 1 1 hR2 (by omega) (by decide) rfl]
    by_cases e2 : kd (p + 1 + 1) = 1
    · have hp2 : p + 1 + 1 < K := kdK hT (by omega) e2 (by decide) (by decide)
      have hq2 := quiet (B := B) (ps := ps) (sz := sz) (nm := nm) (kd := kd) (p := p + 1 + 1) (by omega) (by omega) (by rw [e2]; rfl)
      have hR3 := hR2.go hq2.1
      have hG3 := hG2.go hp2
      rw [if_pos e2, if_pos e2, some_bind, some_bind]
      dsimp only
      rw [if_neg (show ¬ (1 : Int32) = 0 by decide), tC _ (p + 1 + 1 + 1) 31 3 hG3 (by decide) (by decide) rfl]
      unfold S1
      by_cases e3 : kd (p + 1 + 1 + 1) = 31
      · have hp3 : p + 1 + 1 + 1 < K := kdK hT (by omega) e3 (by decide) (by decide)
        have hc3 : ctxN kd (p + 1 + 1 + 1) = 1 := ctx_of e2 (by omega)
        obtain ⟨g7, z1, z2, z3⟩ := num_m (cl := 100) (c := 100) hT hR3 (by omega) e3 rfl (by decide) (by rw [ms_num e3, if_pos hc3])
        have hG4 := hG3.go hp3
        have hR4 : RW T K B kd ps sz nm (p + 1 + 1 + 1 + 1) (up g7 67 M (nI (nm (p + 1 + 1 + 1)))) := ⟨by rw [up_other (by decide)]; exact z2.1, by rw [up_other (by decide)]; exact z2.2.1, z2.2.2.1.fr (fun a a1 a2 => up_ne (by omega)) (up_other (by decide)), z2.2.2.2.fr (up_other (by decide)) (up_other (by decide))⟩
        have l7 : lG gm (up g7 67 M (nI (nm (p + 1 + 1 + 1)))) := lG.trans l4 (lG.trans f47_tok.l (lG.trans z3.l ⟨fun a a1 a2 a3 => up_ne (by omega), fun k hk => up_other (by decide)⟩))
        rw [if_pos e3, z1, some_bind, some_bind]
        dsimp only
        rw [if_neg (show ¬ (1 : Int32) = 0 by decide), sto_n (by omega) (by omega), tC _ (p + 1 + 1 + 1 + 1) 2 130 hG4 (by decide) (by decide) rfl]
        unfold S2
        rw [tM _ (p + 1 + 1 + 1 + 1) 2 2 hR4 (by omega) (by decide) rfl]
        by_cases e4 : kd (p + 1 + 1 + 1 + 1) = 2
        · have hp4 : p + 1 + 1 + 1 + 1 < K := kdK hT (by omega) e4 (by decide) (by decide)
          have hq4 := quiet (B := B) (ps := ps) (sz := sz) (nm := nm) (kd := kd) (p := p + 1 + 1 + 1 + 1) (by omega) (by omega) (by rw [e4]; rfl)
          have hR5 := hR4.go hq4.1
          have hG5 := hG4.go hp4
          have l8 := lG.trans l7 (f47_tok (v := nI (p + 1 + 1 + 1 + 1 + 1))).l
          rw [if_pos e4, if_pos e4, some_bind, some_bind]
          dsimp only
          rw [if_neg (show ¬ (1 : Int32) = 0 by decide), tC _ (p + 1 + 1 + 1 + 1 + 1) 41 45 hG5 (by decide) (by decide) rfl, takes_m1 hT hR5.1 hR5.2.1 (by omega) hR5.2.2.1 (s := 41) (c := 41) (by decide) rfl]
          -- ms up to the number
          have hnew : newB kd (p + 1) = true := by
            unfold newB
            rw [show p + 1 - 1 = p by omega, hk]
            simp
          have ms2 : ms kd nm (p + 1 + 1) = ((ms kd nm p).1 + 1, (fun k => if k = (ms kd nm p).1 then p + 1 else (ms kd nm p).2.1 k), (ms kd nm p).2.2) := by
            show mstep kd nm (ms kd nm (p + 1)) (p + 1) = _
            rw [hq.2]
            unfold mstep
            rw [if_pos e1, if_pos hnew]
          have ms5 : ms kd nm (p + 1 + 1 + 1 + 1 + 1) = ((ms kd nm p).1 + 1, (fun k => if k = (ms kd nm p).1 then p + 1 else (ms kd nm p).2.1 k), (ms kd nm p).2.2.1, (ms kd nm p).2.2.2.1, (ms kd nm p).2.2.2.2.1, setO (ms kd nm p).2.2.2.2.2.1 (ms kd nm p).1 (nI (nm (p + 1 + 1 + 1))), (ms kd nm p).2.2.2.2.2.2) := by
            rw [hq4.2]
            show mstep kd nm (ms kd nm (p + 1 + 1 + 1)) (p + 1 + 1 + 1) = _
            rw [hq2.2, ms2]
            unfold mstep
            rw [if_neg (by omega), if_pos e3, if_pos hc3, if_pos (by show 0 < (ms kd nm p).1 + 1; omega)]
            rfl
          -- the end of it
          have fin : ∀ (pn : Nat) (t0 : Int32) (g10 c10 : G), p < pn → pn ≤ K → PG T K B kd ps sz nm pn L c10 → (∀ a, a ≠ 13 → c10 a = gG a) → RW T K B kd ps sz nm pn g10 → (∀ a, a ≠ 47 → g10 a = (up g7 67 M (nI (nm (p + 1 + 1 + 1)))) a) → (∀ k, k < 8 ∨ 11 < k → g10 47 k = g7 47 k) → lC gG c10 → (∀ v w, kd pn = 31 → v = nm pn → w = t0 * nI v → ((errT kd nm (sameN B ps sz) (ms kd nm pn) pn = if nm pn ≤ 90 then 0 else 5) ∧ ms kd nm (pn + 1) = ((ms kd nm p).1 + 1, (fun k => if k = (ms kd nm p).1 then p + 1 else (ms kd nm p).2.1 k), (ms kd nm p).2.2.1, (ms kd nm p).2.2.2.1, (ms kd nm p).2.2.2.2.1, setO (ms kd nm p).2.2.2.2.2.1 (ms kd nm p).1 (nI (nm (p + 1 + 1 + 1))), setO (ms kd nm p).2.2.2.2.2.2 (ms kd nm p).1 w) ∧ (v ≤ 90 → -90 ≤ w ∧ w ≤ 90))) → p + 1 + 1 + 1 < pn → LineOut T K B kd ps sz nm ((k0_take 3 c10).bind fun u => zr u.1 u.2) (k11_mirror_125 (nI M) t0 g10) p gG gm := by
            intro pn t0 g10 c10 hpn hpnK hPc hca hRn hf10 hf10k hlc hv hp3n
            rw [tC c10 pn 31 3 hPc (by decide) (by decide) rfl]
            have l10 : lG gm g10 := by
              refine ⟨fun a a1 a2 a3 => ?_, fun k hk => ?_⟩
              · rw [hf10 a a1]; exact l7.1 a a1 a2 a3
              · rw [hf10k k (by omega)]
                have := l7.2 k hk
                rw [up_other (by decide)] at this
                exact this
            by_cases en : kd pn = 31
            · have hpnK' : pn < K := kdK hT hpnK en (by decide) (by decide)
              obtain ⟨v1, v2, v3⟩ := hv (nm pn) _ en rfl rfl
              obtain ⟨g11, w1, w2, w3⟩ := num_m (cl := 90) (c := 90) hT hRn hpnK en rfl (by decide) v1
              rw [if_pos en, some_bind]
              dsimp only
              unfold k11_mirror_125
              rw [w1, some_bind]
              dsimp only
              have hmin : (if nI M + 1 < 10 then nI M + 1 else 10) = nI (if M < 10 then M + 1 else 10) := by
                rw [nI_1]
                by_cases q : M + 1 < 10
                · rw [if_pos (show nI (M + 1) < 10 from (nI_ltI (a := M + 1) (b := 10) (by omega) (by omega)).mpr q), if_pos (by omega)]
                · rw [if_neg (show ¬ nI (M + 1) < 10 from fun z => q ((nI_ltI (a := M + 1) (b := 10) (by omega) (by omega)).mp z))]
                  by_cases q2 : M < 10
                  · rw [if_pos q2, show M + 1 = 10 by omega]; rfl
                  · rw [if_neg q2]; rfl
              rw [sto_n (by omega) (by omega), bd_eq, hmin, bd_eq, show zr 1 (up c10 13 2 (nI (pn + 1))) = some (1, up c10 13 2 (nI (pn + 1))) from zr_01 (Or.inr rfl)]
              have g11a : ∀ a, a ≠ 47 → g11 a = (up g7 67 M (nI (nm (p + 1 + 1 + 1)))) a := fun a ha => by rw [w3.1 a ha, hf10 a ha]
              have g7a : ∀ a, a ≠ 47 → g7 a = g4 a := fun a ha => by rw [z3.1 a ha, up_ne ha, up_ne ha]
              have gga : ∀ a, a ≠ 47 → a ≠ 53 → g4 a = gm a := fun a a1 a2 => by rw [y5 a a1 a2, up_ne a1]
              have e47 : up (up g11 68 M (t0 * nI (nm pn))) 66 0 (nI (if M < 10 then M + 1 else 10)) 47 = g11 47 := by rw [up_ne (by decide), up_ne (by decide)]
              refine Or.inl ⟨_, _, pn + 1, L, n, rfl, rfl, by omega, mir_ok (x := x) (a := nm (p + 1 + 1 + 1)) (b := 0) (w := t0 * nI (nm pn)) h (by omega) (hPc.go hpnK') (fun a ha => by rw [up_ne ha]; exact hca a ha) b1 b2 b3 b4 hp1 ⟨by rw [e47]; exact w2.1, by rw [e47]; exact w2.2.1, w2.2.2.1.fr (fun a a1 a2 => by rw [up_ne (by omega), up_ne (by omega)]) (by rw [e47]), w2.2.2.2.fr (by rw [e47]) (by rw [e47])⟩ (fun a a1 a2 a3 a4 a5 => by rw [up_ne a3, up_ne a5, g11a a a1, up_ne a4, g7a a a1, gga a a1 a2]) (fun k hk => by rw [up_slot hk, up_other (by decide), g11a 66 (by decide), up_other (by decide), g7a 66 (by decide), gga 66 (by decide) (by decide)]) up_self (fun j => ?_) (fun j => ?_) (fun j j1 j2 => ?_) ?_ v2 (fun z => ?_), hlc.trans at_l, ?_⟩
              · rw [up_other (by decide), up_other (by decide), g11a 67 (by decide), up_app]
                by_cases q : j = M
                · rw [if_pos ⟨rfl, q⟩, if_pos q]
                · rw [if_neg (fun z => q z.2), if_neg q, g7a 67 (by decide), gga 67 (by decide) (by decide)]
              · rw [up_other (by decide), up_app, g11a 68 (by decide), up_other (by decide), g7a 68 (by decide), gga 68 (by decide) (by decide)]
                by_cases q : j = M
                · rw [if_pos ⟨rfl, q⟩, if_pos q]
                · rw [if_neg (fun z => q z.2), if_neg q]
              · rw [up_other (by decide), up_other (by decide), g11a 53 (by decide), up_other (by decide), g7a 53 (by decide), y7 j j1 j2, up_other (by decide)]
              · rw [e47, w3.2 12 (by decide), hf10k 12 (by decide), z3.2 12 (by decide), up_slot (by decide), up_slot (by decide), y6 12 (by decide), up_slot (by decide)]
              · have q3 := z (p + 1 + 1 + 1) (by omega)
                have qn := z pn (by omega)
                have q1 := z (p + 1) (by omega)
                rw [ms_num e3, if_pos hc3] at q3
                rw [v1] at qn
                have h3 : nm (p + 1 + 1 + 1) ≤ 100 := by
                  by_cases y : nm (p + 1 + 1 + 1) ≤ 100
                  · exact y
                  · rw [if_neg y] at q3; cases q3
                have hn90 : nm pn ≤ 90 := by
                  by_cases y : nm pn ≤ 90
                  · exact y
                  · rw [if_neg y] at qn; cases qn
                refine ⟨h3, v3 hn90, ?_⟩
                unfold errT at q1
                rw [if_pos e1, if_pos hnew, hq.2] at q1
                by_cases y : 10 ≤ (ms kd nm p).1
                · rw [if_pos y] at q1
                  split at q1 <;> cases q1
                · omega
              · refine l10.trans (w3.l.trans ⟨fun a a1 a2 a3 => ?_, fun k hk => by rw [e47]⟩)
                rw [up_ne (by omega), up_ne (by omega)]
            · rw [if_neg en, some_bind]
              dsimp only
              rw [fz]
              refine fail_line rfl ?_ hpnK hPc.1 hlc
              unfold k11_mirror_125
              rw [num_bad hT hRn.1 hRn.2.1 hpnK hRn.2.2.1 en, some_bind]
              dsimp only
              rw [sto_n (by omega) (by omega), bd_eq, bd_eq]
              refine ⟨_, rfl, (wr_WM hRn.1).f (by rw [up_ne (by decide), up_ne (by decide)]), l10.trans (f47_wr.l.trans ⟨fun a a1 a2 a3 => by rw [up_ne (by omega), up_ne (by omega)], fun k hk => by rw [up_ne (by decide), up_ne (by decide)]⟩)⟩
          by_cases e5 : kd (p + 1 + 1 + 1 + 1 + 1) = 41
          · have hp5 : p + 1 + 1 + 1 + 1 + 1 < K := kdK hT (by omega) e5 (by decide) (by decide)
            have hq5 := quiet (B := B) (ps := ps) (sz := sz) (nm := nm) (kd := kd) (p := p + 1 + 1 + 1 + 1 + 1) (by omega) (by omega) (by rw [e5]; rfl)
            rw [if_pos e5, if_pos e5, some_bind, some_bind]
            dsimp only
            rw [if_neg (show ¬ (1 : Int32) = 0 by decide)]
            have hctx : ctxN kd (p + 1 + 1 + 1 + 1 + 1 + 1) = 102 := by
              unfold ctxN
              rw [show p + 1 + 1 + 1 + 1 + 1 + 1 - 1 = p + 1 + 1 + 1 + 1 + 1 by omega, show p + 1 + 1 + 1 + 1 + 1 + 1 - 2 = p + 1 + 1 + 1 + 1 by omega, if_pos ⟨by omega, e5, e4⟩]
            have := fin (p + 1 + 1 + 1 + 1 + 1 + 1) (-1) _ _ (by omega) (by omega) (hG5.go hp5) (fun a ha => by rw [up_ne ha, up_ne ha, up_ne ha, up_ne ha, up_ne ha, up_ne ha]) (hR5.go hq5.1) (fun a ha => by rw [up_ne ha, up_ne ha]) (fun k hk => by rw [up_slot (by omega), up_slot (by omega), up_other (by decide)]) (((((at_l.trans at_l).trans at_l).trans at_l).trans at_l).trans at_l) (fun v w h31 hv hw => ?_) (by omega)
            · rcases this with ⟨gG', gm', p', L', n', a1, a2, a3⟩ | ⟨gG', gm', q, a1, a2, a3⟩
              · exact Or.inl ⟨gG', gm', p', L', n', by rw [← a1]; exact zr2 _, by rw [a2]; rfl, a3⟩
              · exact Or.inr ⟨gG', gm', q, by rw [← a1]; exact zr2 _, by rw [a2]; rfl, a3⟩
            · subst hv hw
              have hneg : (-1 : Int32) * nI (nm (p + 1 + 1 + 1 + 1 + 1 + 1)) = -(nI (nm (p + 1 + 1 + 1 + 1 + 1 + 1))) := by rw [show (-1 : Int32) = -(1 : Int32) from rfl, Int32.neg_mul, Int32.one_mul]
              refine ⟨by rw [ms_num h31, hctx]; rfl, ?_, fun z => by rw [hneg]; exact (neg_rng z).1⟩
              show mstep kd nm (ms kd nm (p + 1 + 1 + 1 + 1 + 1 + 1)) (p + 1 + 1 + 1 + 1 + 1 + 1) = _
              rw [hq5.2, ms5, hneg]
              unfold mstep
              rw [if_neg (by omega), if_pos h31, hctx, if_neg (by decide), if_neg (by decide), if_pos rfl, if_pos (by show 0 < (ms kd nm p).1 + 1; omega)]
              rfl
          · rw [if_neg e5, if_neg e5, some_bind, some_bind]
            dsimp only
            rw [if_pos rfl]
            have hctx : ctxN kd (p + 1 + 1 + 1 + 1 + 1) = 2 := ctx_of e4 (by omega)
            have := fin (p + 1 + 1 + 1 + 1 + 1) 1 _ _ (by omega) (by omega) hG5 (fun a ha => by rw [up_ne ha, up_ne ha, up_ne ha, up_ne ha, up_ne ha]) hR5 (fun a ha => by rw [up_ne ha]) (fun k hk => by rw [up_slot (by omega), up_other (by decide)]) ((((at_l.trans at_l).trans at_l).trans at_l).trans at_l) (fun v w h31 hv hw => ?_) (by omega)
            · rcases this with ⟨gG', gm', p', L', n', a1, a2, a3⟩ | ⟨gG', gm', q, a1, a2, a3⟩
              · exact Or.inl ⟨gG', gm', p', L', n', by rw [← a1]; exact zr2 _, by rw [a2]; rfl, a3⟩
              · exact Or.inr ⟨gG', gm', q, by rw [← a1]; exact zr2 _, by rw [a2]; rfl, a3⟩
            · subst hv hw
              rw [Int32.one_mul]
              refine ⟨by rw [ms_num h31, hctx]; rfl, ?_, fun z => (neg_rng z).2⟩
              show mstep kd nm (ms kd nm (p + 1 + 1 + 1 + 1 + 1)) (p + 1 + 1 + 1 + 1 + 1) = _
              rw [ms5]
              unfold mstep
              rw [if_neg (by omega), if_pos h31, hctx, if_neg (by decide), if_pos rfl, if_pos (by show 0 < (ms kd nm p).1 + 1; omega)]
              rfl
        · rw [if_neg e4, if_neg e4, some_bind, some_bind]
          dsimp only
          rw [if_pos rfl, some_bind]
          dsimp only
          rw [fz]
          refine fail_line rfl ?_ (show p + 1 + 1 + 1 + 1 ≤ K by omega) up_self (((at_l.trans at_l).trans at_l).trans at_l)
          rw [takes_w (wr_WM hR4.1).1, some_bind]
          dsimp only
          rw [if_pos rfl]
          obtain ⟨g', a1, a2, a3⟩ := w125 (t0 := 1) (wr_WM hR4.1) (show p + 1 + 1 + 1 + 1 ≤ 400 by omega) b1
          exact ⟨g', by rw [a1]; rfl, a2, l7.trans (f47_wr.l.trans a3)⟩
      · rw [if_neg e3, num_bad hT hR3.1 hR3.2.1 (by omega) hR3.2.2.1 e3, some_bind, some_bind]
        dsimp only
        rw [if_pos rfl, some_bind]
        dsimp only
        rw [fz]
        refine fail_line rfl ?_ (show p + 1 + 1 + 1 ≤ K by omega) up_self ((at_l.trans at_l).trans at_l)
        rw [sto_n (by omega) (by omega)]
        obtain ⟨g', a1, a2, a3⟩ := wS2 (m := M) (g := up (wr (p + 1 + 1 + 1) (up (up g4 47 8 (nI (p + 1 + 1))) 47 8 (nI (p + 1 + 1 + 1)))) 67 M (up (up g4 47 8 (nI (p + 1 + 1))) 47 8 (nI (p + 1 + 1 + 1)) 50 (p + 1 + 1 + 1))) ((wr_WM hR3.1).f (up_ne (by decide))) (by omega) b1
        exact ⟨g', by rw [a1]; rfl, a2, l4.trans (f47_tok.l.trans (f47_wr.l.trans (lG.trans ⟨fun a a1 a2 a3 => up_ne (by omega), fun k hk => up_other (by decide)⟩ a3)))⟩
    · rw [if_neg e2, if_neg e2, some_bind, some_bind]
      dsimp only
      rw [if_pos rfl, some_bind]
      dsimp only
      rw [fz]
      refine fail_line rfl ?_ (show p + 1 + 1 ≤ K by omega) up_self (at_l.trans at_l)
      obtain ⟨g', a1, a2, a3⟩ := wS1 (wr_WM hR2.1) (show p + 1 + 1 ≤ 400 by omega) b1
      exact ⟨g', by rw [a1]; rfl, a2, l4.trans (f47_wr.l.trans a3)⟩
  · have h1 := hM1.1
    have h2 := hM1.2.1
    have i30 : k11_is 30 (up gm 47 8 (nI (p + 1))) = some 0 := by rw [is_m hT h1 h2 (by omega) hM1.2.2.1 (s := 30) (c := 30) (by decide) rfl, if_neg e1]
    rw [if_neg e1, some_bind]
    dsimp only
    rw [if_pos rfl, some_bind]
    dsimp only
    rw [fz]
    refine fail_line rfl ?_ (show p + 1 ≤ K by omega) up_self at_l
    have hmin : (if up gm 47 8 (nI (p + 1)) 66 0 < 10 then up gm 47 8 (nI (p + 1)) 66 0 else 10) = nI M := by
      rw [b2']
      by_cases e : M < 10
      · rw [if_pos (show nI M < 10 from (nI_ltI (a := M) (b := 10) (by omega) (by omega)).mpr e)]
      · rw [if_neg (show ¬ nI M < 10 from fun z => e ((nI_ltI (a := M) (b := 10) (by omega) (by omega)).mp z)), show M = 10 by omega]; rfl
    unfold k11_mirror
    rw [hmin, bd_eq, i30, some_bind, if_pos rfl]
    unfold k11_mirror_35
    rw [i30, some_bind, if_pos rfl]
    unfold k11_mirror_55
    rw [i30, some_bind, if_pos rfl, m80, take_m1 hT h1 h2 (by omega) hM1.2.2.1 (s := 30) (c := 30) (by decide) rfl, if_neg e1, some_bind, take_w (wr_WM h1).1, some_bind]
    obtain ⟨g', a1, a2, a3⟩ := wS1 (wr_WM h1) (show p + 1 ≤ 400 by omega) b1
    exact ⟨g', by rw [a1]; rfl, a2, f47_tok.l.trans (f47_wr.l.trans a3)⟩
end TK
