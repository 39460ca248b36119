/-! teach: an order's beginning -/
def oRest (v1 v2 x : Int32) (g : G) : Option G := sto g 70 17 v2 x fun g12 => sto g12 73 17 v2 (-1) fun g13 => if v1 < 3 then k11_order_107 v2 g13 else (k11_take 6 g13).bind fun g15 => (k11_sum g15).bind fun u16 => sto u16.2 73 17 v2 u16.1 fun g17 => k11_order_107 v2 g17
section TK
variable {T K : Nat} {B : Nat → Int32} {kd ps sz nm : Nat → Nat}
theorem wBy {g : G} {O n q : Nat} (h : WM q g) (hO : O ≤ 16) (hn : g 66 12 = nI n) : ∃ g', ((k11_sum g).bind fun u16 => sto u16.2 73 17 (nI O) u16.1 fun g17 => k11_order_107 (nI O) g17) = some g' ∧ WM q g' ∧ lG g g' := by
  rw [show k11_sum g = some (0, g) from wsum h.1 97, some_bind, sto_n (by omega) (by omega)]
  dsimp only
  obtain ⟨g', a1, a2, a3⟩ := w107 (g := up g 73 O 0) (O := O) (n := n) (h.f (up_ne (by decide))) hO (by rw [up_other (by decide)]; exact hn)
  exact ⟨g', a1, a2, lG.trans ⟨fun a a1 a2 a3 => up_ne (by omega), fun k hk => up_other (by decide)⟩ a3⟩
theorem wRest {g : G} {O n q : Nat} {v1 x : Int32} (h : WM q g) (hO : O ≤ 16) (hn : g 66 12 = nI n) : ∃ g', oRest v1 (nI O) x g = some g' ∧ WM q g' ∧ lG g g' := by
  unfold oRest
  rw [sto_n (by omega) (by omega), sto_n (by omega) (by omega)]
  have hw : WM q (up (up g 70 O x) 73 O (-1)) := h.f (by rw [up_ne (by decide), up_ne (by decide)])
  have h66 : (up (up g 70 O x) 73 O (-1)) 66 12 = nI n := by rw [up_other (by decide), up_other (by decide)]; exact hn
  have f : lG g (up (up g 70 O x) 73 O (-1)) := ⟨fun a a1 a2 a3 => by rw [up_ne (by omega), up_ne (by omega)], fun k hk => by rw [up_other (by decide), up_other (by decide)]⟩
  by_cases e : v1 < 3
  · rw [if_pos e]
    obtain ⟨g', a1, a2, a3⟩ := w107 hw hO h66
    exact ⟨g', a1, a2, f.trans a3⟩
  · rw [if_neg e, take_w hw.1, some_bind]
    obtain ⟨g', a1, a2, a3⟩ := wBy hw hO h66
    exact ⟨g', a1, a2, f.trans a3⟩
theorem order_line {gG gm : G} {p L n : Nat} (hB : Bok T B) (hT : Toks T 0 K kd ps sz nm) (h : LnOK T K B kd ps sz nm p L n gG gm) (hk : kd p = 5 ∨ kd p = 7 ∨ kd p = 8 ∨ kd p = 9 ∨ kd p = 10) : LineOut T K B kd ps sz nm (k0_line gG) (k11_line gm) p gG gm := by
  have hK := hT.2.1
  obtain ⟨hG, hM, ⟨O, hO16, hO⟩, hL⟩ := id h
  have hpK := hG.2.1
  have hp : p < K := kdK hT hpK rfl (by omega) (by omega)
  have hn := hM.2.2.2.2.2.1
  have hLp := hG.2.2.2.2
  obtain ⟨M, x, b1, b2, b3, b4⟩ := hM.2.2.2.2.2.2.bd
  have hd : dOf (kd p) < 5 := by rcases hk with q | q | q | q | q <;> (rw [q]; decide)
  have hkap : nI (kap (kd p)) = nI (doStep (dOf (kd p))) := by rcases hk with q | q | q | q | q <;> (rw [q]; rfl)
  obtain ⟨d, hdd⟩ : ∃ d, dOf (kd p) = d := ⟨_, rfl⟩
  rw [hdd] at hd hkap
  have hob : ordB (kd p) = true := by rcases hk with q | q | q | q | q <;> (rw [q]; rfl)
  have hms1 : ms kd nm (p + 1) = ((ms kd nm p).1, (ms kd nm p).2.1, (ms kd nm p).2.2.1 + 1, (ms kd nm p).2.2.2) := by
    show mstep kd nm (ms kd nm p) p = _
    unfold mstep
    rw [if_neg (by omega), if_neg (by omega), if_pos hob]
  have herr : errT kd nm (sameN B ps sz) (ms kd nm p) p = if (ms kd nm p).2.2.1 + 1 ≤ 16 then 0 else 4 := by
    unfold errT
    rw [if_neg (by omega), if_neg (by omega), if_pos hob]
  have hno : ∀ p', p < p' → noErr kd nm (sameN B ps sz) p' → (ms kd nm p).2.2.1 + 1 ≤ 16 := by
    intro p' hpp z
    have := z p hpp
    rw [herr] at this
    by_cases y : (ms kd nm p).2.2.1 + 1 ≤ 16
    · exact y
    · rw [if_neg y] at this; cases this
  have tC := fun (g : G) (i s : Nat) (c : Int32) (h0 : g 13 2 = nI i) (hi : i ≤ K) (hct : CT T K B kd ps sz nm g) (h1 : okB s = true) (h2 : s < 64) (h3 : c = nI (kap s)) => take_c hT h0 hi hct (s := s) (c := c) h1 h2 h3
  have hG1 := hG.go hp
  -- the class
  have hcls : k0_line gG = (k0_order (nI (kap (kd p))) gG).bind fun u11 => if u11.1 = 0 then some (0, u11.2) else (k0_take 139 u11.2).bind fun u13 => if u13.1 = 0 then (k2_write 8 7 (nI (p + 1)) u13.2).bind fun g17 => k0_line_103 (nI (kap (kd p))) (nI (p + 1)) g17 else (k0_test 0 u13.2).bind fun u15 => if u15.1 = 0 then some (0, u15.2) else k0_line_103 (nI (kap (kd p))) (nI (p + 1)) u15.2 := by
    unfold k0_line
    rw [tC gG p 0 128 hG.1 hpK hG.2.2.1 (by decide) (by decide) rfl, if_neg (by omega), some_bind]
    dsimp only
    rw [if_pos rfl, tC gG p 3 131 hG.1 hpK hG.2.2.1 (by decide) (by decide) rfl, if_neg (by omega), some_bind]
    dsimp only
    rw [if_pos rfl, tC gG p 4 132 hG.1 hpK hG.2.2.1 (by decide) (by decide) rfl, if_neg (by omega), some_bind]
    dsimp only
    rw [if_pos rfl, hG.1, kindAt_n hT hG.2.2.1 hpK, some_bind, nI_1, bd_eq]
  have hmdl : k11_line gm = (k11_order (nI d) gm).bind fun g => some g := by
    have tm := fun (s : Nat) (c : Int32) (h2 : s < 64) (h3 : c = nI s) => takes_m1 hT hM.1 hM.2.1 hpK hM.2.2.1 (s := s) (c := c) h2 h3
    unfold k11_line
    rw [tm 0 0 (by decide) rfl, if_neg (by omega), some_bind]
    dsimp only
    rw [if_pos rfl, tm 3 3 (by decide) rfl, if_neg (by omega), some_bind]
    dsimp only
    rw [if_pos rfl, tm 4 4 (by decide) rfl, if_neg (by omega), some_bind]
    dsimp only
    rw [if_pos rfl, is_m hT hM.1 hM.2.1 hpK hM.2.2.1 (s := 5) (c := 5) (by decide) rfl, some_bind]
    by_cases e5 : kd p = 5
    · rw [if_pos e5, if_neg (by decide), ← hdd, e5]; rfl
    · rw [if_neg e5, if_pos rfl, is_m hT hM.1 hM.2.1 hpK hM.2.2.1 (s := 7) (c := 7) (by decide) rfl, some_bind]
      by_cases e7 : kd p = 7
      · rw [if_pos e7, if_neg (by decide), ← hdd, e7]; rfl
      · have hin : (if nI (kd p) < 8 then (0 : Int32) else if 10 < nI (kd p) then 0 else 1) = 1 := by
          rw [if_neg (show ¬ nI (kd p) < 8 from fun z => absurd ((nI_ltI (a := kd p) (b := 8) (by omega) (by omega)).mp z) (by omega)), if_neg (show ¬ (10 : Int32) < nI (kd p) from fun z => absurd ((nI_ltI (a := 10) (b := kd p) (by omega) (by omega)).mp z) (by omega))]
        rw [if_neg e7, if_pos rfl, hM.1, ld_n (by omega) (by omega), (hM.2.2.1.2.1 p (by omega) hpK).1, k11_isIn_n, some_bind, hin, if_neg (by decide), ld_n (by omega) (by omega), (hM.2.2.1.2.1 p (by omega) hpK).1, show (8 : Int32) = nI 8 from rfl, nI_sub (by omega) (by omega), show kd p - 8 = d by
          rw [← hdd]
          unfold dOf
          rw [if_neg e5, if_neg e7]]
  -- the mark
  obtain ⟨gA, hgA, f0, fE⟩ : ∃ gA, k11_order (nI d) gm = k11_order_24 (nI d) (nI O) gA ∧ f47 gm gA ∧ (gA 47 8 = nI p ∧ gA 47 9 = 0 ∧ EO kd nm (sameN B ps sz) (p + 1) gA) := by
    have hmin : (if gm 66 5 < 16 then gm 66 5 else 16) = nI O := by
      rw [hO]
      by_cases e : O < 16
      · rw [if_pos (show nI O < 16 from (nI_ltI (a := O) (b := 16) (by omega) (by omega)).mpr e)]
      · rw [if_neg (show ¬ nI O < 16 from fun z => e ((nI_ltI (a := O) (b := 16) (by omega) (by omega)).mp z)), show O = 16 by omega]; rfl
    have hEO := hM.2.2.2.2.2.2.eo
    have eO : noErr kd nm (sameN B ps sz) p → O = (ms kd nm p).2.2.1 := fun z => by
      obtain ⟨l1, l2, -⟩ := hL z
      exact (nI_eq (by omega) (by omega)).mp (hO.symm.trans l1)
    unfold k11_order
    rw [hmin, bd_eq]
    by_cases e16 : O = 16
    · rw [if_pos (by rw [e16]; rfl), mark_m hM.1 hM.2.1, some_bind]
      refine ⟨_, rfl, f47_mark, ?_, ?_, ?_⟩
      · split
        · rw [up_slot (by decide), up_slot (by decide)]; exact hM.1
        · exact hM.1
      · split
        · rw [up_slot (by decide), up_slot (by decide)]; exact hM.2.1
        · exact hM.2.1
      · rcases hEO with ⟨a1, a2⟩ | ⟨q, a1, a2, a3, a4, a5⟩
        · have he4 : errT kd nm (sameN B ps sz) (ms kd nm p) p = 4 := by rw [herr, ← eO a1, e16]; rfl
          exact EO.mark (Or.inl ⟨a1, a2⟩) (by rw [he4]; decide) (by rw [he4]; rfl)
        · have hne : ¬ nI (errT kd nm (sameN B ps sz) (ms kd nm q) q) = 0 := nI_ne0 (by omega) (by have := errT_le (kd := kd) (nm := nm) (sm := sameN B ps sz) (st := ms kd nm q) (i := q); omega)
          rw [if_neg (by rw [a4]; exact hne)]
          exact Or.inr ⟨q, by omega, a2, a3, a4, a5⟩
    · rw [if_neg (show ¬ nI O = 16 from fun z => e16 ((nI_eq (a := O) (b := 16) (by omega) (by omega)).mp z))]
      refine ⟨gm, rfl, f47.refl, hM.1, hM.2.1, ?_⟩
      rcases hEO with ⟨a1, a2⟩ | ⟨q, a1, a2⟩
      · exact Or.inl ⟨noErr_s a1 (by rw [herr, ← eO a1, if_pos (by omega)]), a2⟩
      · exact Or.inr ⟨q, by omega, a2⟩
  obtain ⟨fE8, fE9, fEO⟩ := fE
  -- the state behind the order's word
  have hD : PM T K B kd ps sz nm (p + 1) n 0 (up (up (up gA 47 8 (nI (p + 1))) 71 O (nI n)) 69 O (nI d)) := by
    refine ⟨by rw [up_other (by decide), up_other (by decide), up_self], by rw [up_other (by decide), up_other (by decide), up_slot (by decide)]; exact fE9, hM.2.2.1.fr (fun a a1 a2 => by rw [up_ne (by omega), up_ne (by omega), up_ne (by omega), f0.1 a (by omega)]) (by rw [up_other (by decide), up_other (by decide), up_slot (by decide), f0.2 2 (by decide)]), by rw [up_other (by decide), up_other (by decide), up_slot (by decide), f0.2 12 (by decide)]; exact hM.2.2.2.1, by rw [up_other (by decide), up_other (by decide), up_other (by decide), f0.1 66 (by decide)]; exact hM.2.2.2.2.1, by omega, errOK.mk (fEO.fr (by rw [up_other (by decide), up_other (by decide), up_slot (by decide)]) (by rw [up_other (by decide), up_other (by decide), up_slot (by decide)])) b1 (by rw [up_other (by decide), up_other (by decide), up_other (by decide), f0.1 66 (by decide)]; exact b2) (fun j hj => by rw [up_ne (by decide), up_ne (by decide), up_ne (by decide), f0.1 53 (by decide)]; exact b3 j hj) (fun z => ?_)⟩
    obtain ⟨c1, c2⟩ := b4 (fun i hi => z i (by omega))
    rw [hms1]
    exact ⟨c1, fun j _ => by rw [c2]⟩
  have lD : lG gm (up (up (up gA 47 8 (nI (p + 1))) 71 O (nI n)) 69 O (nI d)) := f0.l.trans (f47_tok.l.trans ⟨fun a a1 a2 a3 => by rw [up_ne (by omega), up_ne (by omega)], fun k hk => by rw [up_other (by decide), up_other (by decide)]⟩)
  have h24 : k11_order_24 (nI d) (nI O) gA = (k11_name (up (up (up gA 47 8 (nI (p + 1))) 71 O (nI n)) 69 O (nI d))).bind fun u11 => oRest (nI d) (nI O) u11.1 u11.2 := by
    unfold k11_order_24
    rw [fE8, nI_1, bd_eq, up_other (by decide), f0.1 66 (by decide), hM.2.2.2.2.1, sto_n (by omega) (by omega), sto_n (by omega) (by omega)]
    rfl
  have hbs : ∀ g : G, k8_isOrderBySum (nI (doStep d)) g = some (if 3 ≤ d then 1 else 0) := fun g => by_sum hd
  have hord : k0_order (nI (kap (kd p))) gG = if kd (p + 1) = 30 then (if 3 ≤ d then (k0_take 134 (up (up gG 13 2 (nI (p + 1))) 13 2 (nI (p + 1 + 1)))).bind fun u9 => if u9.1 = 0 then some (0, u9.2) else (k0_sum 0 u9.2).bind fun u11 => if u11.1 = 0 then some (0, u11.2) else some (1, u11.2) else some (1, up (up gG 13 2 (nI (p + 1))) 13 2 (nI (p + 1 + 1)))) else some (0, up gG 13 2 (nI (p + 1))) := by
    unfold k0_order
    rw [isOrder_n (hT.ok hpK).1 (hT.ok hpK).2, hob, some_bind, if_neg (by decide), tC gG p (kd p) _ hG.1 hpK hG.2.2.1 (hT.ok hpK).1 (hT.ok hpK).2 rfl, if_pos rfl, some_bind]
    dsimp only
    rw [if_neg (show ¬ (1 : Int32) = 0 by decide), tC _ (p + 1) 30 2 hG1.1 (by omega) hG1.2.2.1 (by decide) (by decide) rfl]
    by_cases e30 : kd (p + 1) = 30
    · rw [if_pos e30, if_pos e30, some_bind]
      dsimp only
      rw [if_neg (show ¬ (1 : Int32) = 0 by decide), hkap, hbs, some_bind]
      by_cases e3 : 3 ≤ d
      · rw [if_pos e3, if_neg (by decide), if_pos e3]
      · rw [if_neg e3, if_pos rfl, if_neg e3]
    · rw [if_neg e30, if_neg e30, some_bind]
      dsimp only
      rw [if_pos rfl]
  rw [hcls, hmdl, hgA, h24, hord]
  by_cases e30 : kd (p + 1) = 30
  · have hp1 : p + 1 < K := kdK hT (by omega) e30 (by decide) (by decide)
    have hnew : newB kd (p + 1) = false := newB_f (by omega)
    obtain ⟨g3, m, a1, a2, a3, a4, a5⟩ := name_m hB hT hD (by omega) e30 hnew
    have hG2 := hG1.go hp1
    have hms2 : ms kd nm (p + 1 + 1) = ((ms kd nm p).1, (ms kd nm p).2.1, (ms kd nm p).2.2.1 + 1, (ms kd nm p).2.2.2) := (ms_name e30 hnew).trans hms1
    rw [if_pos e30, a1, some_bind]
    dsimp only
    unfold oRest
    rw [sto_n (by omega) (by omega), sto_n (by omega) (by omega)]
    have hPF : PM T K B kd ps sz nm (p + 1 + 1) n 0 (up (up g3 70 O (nI m)) 73 O (-1)) := a2.oth (fun a ha => by rw [up_ne (by omega), up_ne (by omega)]) (by rw [up_other (by decide), up_other (by decide)]) (by rw [up_other (by decide), up_other (by decide)])
    -- what stands in the cells of the order
    have g3a : ∀ a, a ≠ 47 → a ≠ 66 → a ≠ 75 → a ≠ 76 → a ≠ 77 → g3 a = (up (up (up gA 47 8 (nI (p + 1))) 71 O (nI n)) 69 O (nI d)) a := a3.1
    have gDa : ∀ a, a ≠ 47 → a ≠ 71 → a ≠ 69 → (up (up (up gA 47 8 (nI (p + 1))) 71 O (nI n)) 69 O (nI d)) a = gm a := fun a x1 x2 x3 => by rw [up_ne x3, up_ne x2, up_ne x1, f0.1 a x1]
    have F71 : (up (up g3 70 O (nI m)) 73 O (-1)) 71 O = nI n := by rw [up_other (by decide), up_other (by decide), g3a 71 (by decide) (by decide) (by decide) (by decide) (by decide), up_other (by decide), up_self]
    have F69 : (up (up g3 70 O (nI m)) 73 O (-1)) 69 O = nI d := by rw [up_other (by decide), up_other (by decide), g3a 69 (by decide) (by decide) (by decide) (by decide) (by decide), up_self]
    have F70 : (up (up g3 70 O (nI m)) 73 O (-1)) 70 O = nI m := by rw [up_other (by decide), up_self]
    have F73 : (up (up g3 70 O (nI m)) 73 O (-1)) 73 O = -1 := up_self
    have FK : ∀ a k, 69 ≤ a → a ≤ 74 → k ≠ O → (up (up g3 70 O (nI m)) 73 O (-1)) a k = gm a k := by
      intro a k x1 x2 hk
      rw [up_app, up_app, if_neg (fun z => hk z.2), if_neg (fun z => hk z.2), g3a a (by omega) (by omega) (by omega) (by omega) (by omega), up_app, up_app, if_neg (fun z => hk z.2), if_neg (fun z => hk z.2), up_ne (by omega), f0.1 a (by omega)]
    have F66 : ∀ k, k ≠ 12 → (up (up g3 70 O (nI m)) 73 O (-1)) 66 k = gm 66 k := fun k hk => by rw [up_other (by decide), up_other (by decide), a3.2.1 k hk, gDa 66 (by decide) (by decide) (by decide)]
    have F67 : (up (up g3 70 O (nI m)) 73 O (-1)) 67 = gm 67 := by rw [up_ne (by decide), up_ne (by decide), g3a 67 (by decide) (by decide) (by decide) (by decide) (by decide), gDa 67 (by decide) (by decide) (by decide)]
    have F68 : (up (up g3 70 O (nI m)) 73 O (-1)) 68 = gm 68 := by rw [up_ne (by decide), up_ne (by decide), g3a 68 (by decide) (by decide) (by decide) (by decide) (by decide), gDa 68 (by decide) (by decide) (by decide)]
    have F75 : ∀ a i, 75 ≤ a → a ≤ 77 → i < n → (up (up g3 70 O (nI m)) 73 O (-1)) a i = gm a i := fun a i x1 x2 hi => by rw [up_ne (by omega), up_ne (by omega), a3.2.2.2 a i x1 x2 hi, gDa a (by omega) (by omega) (by omega)]
    have lF : lG gm (up (up g3 70 O (nI m)) 73 O (-1)) := lD.trans (a3.l.trans ⟨fun a x1 x2 x3 => by rw [up_ne (by omega), up_ne (by omega)], fun k hk => by rw [up_other (by decide), up_other (by decide)]⟩)
    by_cases e3 : 3 ≤ d
    · have hn3 : ¬ nI d < 3 := fun z => absurd ((nI_ltI (a := d) (b := 3) (by omega) (by omega)).mp z) (by omega)
      rw [if_pos e3, if_neg hn3, tC _ (p + 1 + 1) 6 134 hG2.1 (by omega) hG2.2.2.1 (by decide) (by decide) rfl, take_m1 hT hPF.1 hPF.2.1 (by omega) hPF.2.2.1 (s := 6) (c := 6) (by decide) rfl]
      by_cases e6 : kd (p + 1 + 1) = 6
      · have hp2 : p + 1 + 1 < K := kdK hT (by omega) e6 (by decide) (by decide)
        have hq := quiet (B := B) (ps := ps) (sz := sz) (nm := nm) (kd := kd) (p := p + 1 + 1) (by omega) (by omega) (by rw [e6]; rfl)
        have hM3 := hPF.go hq
        have hG3 := hG2.go hp2
        have hctx : ctxN kd (p + 1 + 1 + 1) = 0 := ctx_next (p := p + 1 + 1) (by omega) (by omega) (by omega) (by omega) (fun z => by omega)
        rw [if_pos e6, if_pos e6, some_bind, some_bind]
        dsimp only
        rw [if_neg (show ¬ (1 : Int32) = 0 by decide)]
        have hS0 := (sums (T := T) (K := K) (B := B) (kd := kd) (ps := ps) (sz := sz) (nm := nm) (dep := 0) (e := 0) hB hT 8 0 rfl).2 100 100 _ _ (p + 1 + 1 + 1) L n (by omega) (by omega) hG3 hM3 hctx
        unfold k0_sum k11_sum
        rcases hS0 with ⟨gG', gm', p', n', r, x1, x2, y1, y2, y3, y4, y5, y6, y7, y8, y9⟩ | ⟨gG', gm', q, n', u, x1, x2, y1, y2, y3, y4, y5, y6, y7, y8, y9⟩
        · obtain ⟨s1, s2, s3, s4⟩ := y7
          have hp'K := y2.2.1
          rw [show kG0 100 3 0 0 (up (up (up gG 13 2 (nI (p + 1))) 13 2 (nI (p + 1 + 1))) 13 2 (nI (p + 1 + 1 + 1))) = some (1, gG') from x1, x2, some_bind, some_bind]
          dsimp only
          rw [if_neg (show ¬ (1 : Int32) = 0 by decide), some_bind]
          dsimp only
          rw [if_neg (show ¬ (1 : Int32) = 0 by decide), sto_n (by omega) (by omega), hkap]
          have gma : ∀ a, a ≠ 47 → a ≠ 66 → a ≠ 75 → a ≠ 76 → a ≠ 77 → gm' a = (up (up g3 70 O (nI m)) 73 O (-1)) a := fun a x1 x2 x3 x4 x5 => by rw [y9.1 a x1 x2 x3 x4 x5, up_ne x1]
          have hPI : PM T K B kd ps sz nm p' n' 0 (up gm' 73 O (nI r)) := y3.oth (fun a ha => up_ne (by omega)) (up_other (by decide)) (up_other (by decide))
          have := order_tail (su := some r) hB hT h hO16 hO hd ⟨fun _ => e3, fun _ => rfl⟩ (show p < p' by omega) y2 hPI ⟨y4, by omega, fun j j1 j2 => (s3 j j1 j2).eqv ⟨rfl, rfl⟩ (fun a a1 a2 => up_ne (by omega)), by rw [nv_fr (fun a a1 a2 => up_ne (by omega)), s4]; rfl, fun r' hr' => by have := Option.some.inj hr'; omega, by rw [up_other (by decide), gma 71 (by decide) (by decide) (by decide) (by decide) (by decide)]; exact F71, by rw [up_other (by decide), gma 69 (by decide) (by decide) (by decide) (by decide) (by decide)]; exact F69, by rw [up_other (by decide), gma 70 (by decide) (by decide) (by decide) (by decide) (by decide)]; exact F70, up_self, fun i hi => by rw [(y8.2.2.2 i hi).1, (y8.2.2.2 i hi).2, up_other (by decide), up_other (by decide), up_other (by decide), up_other (by decide), up_other (by decide), up_other (by decide)]; exact ⟨rfl, rfl⟩, fun a i a1 a2 hi => by rw [up_ne (by omega), y9.2.2.2 a i a1 a2 hi, up_ne (by omega)]; exact F75 a i a1 a2 hi, fun a k a1 a2 hk => by rw [up_app, if_neg (fun z => hk z.2), gma a (by omega) (by omega) (by omega) (by omega) (by omega)]; exact FK a k a1 a2 hk, fun k hk => by rw [up_other (by decide), y9.2.1 k hk, up_other (by decide)]; exact F66 k hk, by rw [up_ne (by decide), gma 67 (by decide) (by decide) (by decide) (by decide) (by decide)]; exact F67, by rw [up_ne (by decide), gma 68 (by decide) (by decide) (by decide) (by decide) (by decide)]; exact F68, ((at_l.trans at_l).trans at_l).trans y8.l, lF.trans (f47_tok.l.trans (y9.l.trans ⟨fun a x1 x2 x3 => up_ne (by omega), fun k hk => up_other (by decide)⟩))⟩ (y1.2.trans (hq.2.trans hms2)) (hno p' (by omega)) hp1 (by omega) e30 hnew a4
          rcases this with ⟨gZ, gY, pp, LL, nn, w1, w2, w3⟩ | ⟨gZ, gY, q, w1, w2, w3⟩
          · exact Or.inl ⟨gZ, gY, pp, LL, nn, w1, by rw [w2]; rfl, w3⟩
          · exact Or.inr ⟨gZ, gY, q, w1, by rw [w2]; rfl, w3⟩
        · rw [show kG0 100 3 0 0 (up (up (up gG 13 2 (nI (p + 1))) 13 2 (nI (p + 1 + 1))) 13 2 (nI (p + 1 + 1 + 1))) = some (0, gG') from x1, x2, some_bind, some_bind]
          dsimp only
          rw [if_pos rfl, some_bind]
          dsimp only
          rw [if_pos rfl, sto_n (by omega) (by omega)]
          refine fail_line rfl ?_ y2 y3 (((at_l.trans at_l).trans at_l).trans y8.l)
          obtain ⟨g', w1, w2, w3⟩ := w107 (g := up gm' 73 O u) (y4.f (up_ne (by decide))) hO16 (n := n') (by rw [up_other (by decide)]; exact y5)
          exact ⟨g', by rw [w1]; rfl, w2, lF.trans (f47_tok.l.trans (y9.l.trans (lG.trans ⟨fun a x1 x2 x3 => up_ne (by omega), fun k hk => up_other (by decide)⟩ w3)))⟩
      · rw [if_neg e6, if_neg e6, some_bind, some_bind]
        dsimp only
        rw [if_pos rfl, some_bind]
        dsimp only
        rw [if_pos rfl]
        refine fail_line rfl ?_ (show p + 1 + 1 ≤ K by omega) up_self (at_l.trans at_l)
        obtain ⟨g', w1, w2, w3⟩ := wBy (wr_WM hPF.1) hO16 (wr_n hPF.2.2.2.2.1)
        exact ⟨g', by rw [w1]; rfl, w2, lF.trans (f47_wr.l.trans w3)⟩
    · have hl3 : nI d < 3 := (nI_ltI (a := d) (b := 3) (by omega) (by omega)).mpr (by omega)
      rw [if_neg e3, if_pos hl3, some_bind]
      dsimp only
      rw [if_neg (show ¬ (1 : Int32) = 0 by decide), hkap]
      have := order_tail (su := none) hB hT h hO16 hO hd ⟨fun z => by (cases z), fun z => absurd z e3⟩ (show p < p + 1 + 1 by omega) (by rw [Nat.sub_self]; exact hG2) hPF ⟨Nat.le_refl n, by omega, fun j j1 j2 => by omega, by rw [Nat.sub_self]; rfl, fun r' hr' => by (cases hr'), F71, F69, F70, F73, fun i hi => by rw [up_other (by decide), up_other (by decide), up_other (by decide), up_other (by decide)]; exact ⟨rfl, rfl⟩, F75, FK, F66, F67, F68, at_l.trans at_l, lF⟩ hms2 (hno (p + 1 + 1) (by omega)) hp1 (by omega) e30 hnew a4
      rcases this with ⟨gZ, gY, pp, LL, nn, w1, w2, w3⟩ | ⟨gZ, gY, q, w1, w2, w3⟩
      · exact Or.inl ⟨gZ, gY, pp, LL, nn, w1, by rw [w2]; rfl, w3⟩
      · exact Or.inr ⟨gZ, gY, q, w1, by rw [w2]; rfl, w3⟩
  · rw [if_neg e30, name_bad hT hD (by omega) e30, some_bind, some_bind]
    dsimp only
    rw [if_pos rfl]
    refine fail_line rfl ?_ (show p + 1 ≤ K by omega) up_self at_l
    obtain ⟨g', w1, w2, w3⟩ := wRest (v1 := nI d) (x := 0) (wr_WM hD.1) hO16 (wr_n hD.2.2.2.2.1)
    exact ⟨g', by rw [w1]; rfl, w2, lD.trans (f47_wr.l.trans w3)⟩
end TK
