/-! teach: the lines of width, limit and mirrors -/
section TK
variable {T K : Nat} {B : Nat → Int32} {kd ps sz nm : Nat → Nat}
theorem errOK.bd {g : G} {p : Nat} (h : errOK K kd nm (sameN B ps sz) p g) : ∃ (M : Nat) (x : Nat → Nat), M ≤ 10 ∧ g 66 0 = nI M ∧ (∀ j, j < M → g 53 j = nI (x j) ∧ x j < K) ∧ (noErr kd nm (sameN B ps sz) p → M = (ms kd nm p).1 ∧ x = (ms kd nm p).2.1) := by
  rcases h with ⟨a1, a2, a3, a4, a5⟩ | ⟨q, a1, a2, a3, a4, a5, M, x, b1, b2, b3⟩
  · exact ⟨_, _, a4, a3, a5, fun _ => ⟨rfl, rfl⟩⟩
  · exact ⟨M, x, b1, b2, b3, fun z => absurd (z q a1) a3⟩
theorem errOK.mk {g : G} {p M : Nat} {x : Nat → Nat} (h : EO kd nm (sameN B ps sz) p g) (hM : M ≤ 10) (h66 : g 66 0 = nI M) (hx : ∀ j, j < M → g 53 j = nI (x j) ∧ x j < K) (hn : noErr kd nm (sameN B ps sz) p → M = (ms kd nm p).1 ∧ ∀ j, j < M → x j = (ms kd nm p).2.1 j) : errOK K kd nm (sameN B ps sz) p g := by
  rcases h with ⟨a1, a2⟩ | ⟨q, a1, a2, a3, a4, a5⟩
  · obtain ⟨e1, e2⟩ := hn a1
    exact Or.inl ⟨a1, a2, by rw [h66, e1], by omega, fun j hj => by rw [← e2 j (by omega)]; exact hx j (by omega)⟩
  · exact Or.inr ⟨q, a1, a2, a3, a4, a5, M, x, hM, h66, hx⟩
theorem ms_num {p : Nat} (h31 : kd p = 31) : errT kd nm (sameN B ps sz) (ms kd nm p) p = (if ctxN kd p = 1 then (if nm p ≤ 100 then 0 else 5) else if ctxN kd p = 2 ∨ ctxN kd p = 102 then (if nm p ≤ 90 then 0 else 5) else if ctxN kd p = 3 then (if nm p ≤ 180 then 0 else 5) else if ctxN kd p = 4 then (if nm p ≤ 10000 then 0 else 5) else 0) := by
  unfold errT
  rw [if_neg (by omega), if_pos h31]
theorem ctx_of {p c : Nat} (h : kd p = c) (hc : c = 1 ∨ c = 2 ∨ c = 3 ∨ c = 4) : ctxN kd (p + 1) = c := by
  unfold ctxN
  rw [show p + 1 - 1 = p by omega, show p + 1 - 2 = p - 1 by omega, h]
  have e0 : ¬ (1 < p + 1 ∧ c = 41 ∧ kd (p - 1) = 2) := by omega
  rw [if_neg e0]
  rcases hc with rfl | rfl | rfl | rfl
  · rw [if_pos ⟨by omega, rfl⟩]
  · rw [if_neg (by omega), if_pos ⟨by omega, rfl⟩]
  · rw [if_neg (by omega), if_neg (by omega), if_pos ⟨by omega, rfl⟩]
  · rw [if_neg (by omega), if_neg (by omega), if_neg (by omega), if_pos ⟨by omega, rfl⟩]
theorem width_line {gG gm : G} {p L n : Nat} (hT : Toks T 0 K kd ps sz nm) (h : LnOK T K B kd ps sz nm p L n gG gm) (hk : kd p = 3 ∨ kd p = 4) : LineOut T K B kd ps sz nm (k0_line gG) (k11_line gm) p gG gm := by
  have hK := hT.2.1
  obtain ⟨hG, hM, hO, hL⟩ := id h
  have hpK := hG.2.1
  have hp : p < K := kdK hT hpK rfl (by omega) (by omega)
  have hq := quiet (B := B) (ps := ps) (sz := sz) (nm := nm) (kd := kd) (p := p) (by omega) (by omega) (by rcases hk with q | q <;> (rw [q]; rfl))
  have hM1 := hM.go hq
  have hG1 := hG.go hp
  obtain ⟨M, x, b1, b2, b3, b4⟩ := hM.2.2.2.2.2.2.bd
  have tk := fun (s : Nat) (c : Int32) (h1 : okB s = true) (h2 : s < 64) (h3 : c = nI (kap s)) => take_c hT hG.1 hpK hG.2.2.1 (s := s) (c := c) h1 h2 h3
  have tm := fun (s : Nat) (c : Int32) (h2 : s < 64) (h3 : c = nI s) => takes_m1 hT hM.1 hM.2.1 hpK hM.2.2.1 (s := s) (c := c) h2 h3
  have hcls : k0_line gG = if kd (p + 1) = 31 then some (1, up (up gG 13 2 (nI (p + 1))) 13 2 (nI (p + 1 + 1))) else some (0, up gG 13 2 (nI (p + 1))) := by
    have h35 : k0_line_35 (up gG 13 2 (nI (p + 1))) = if kd (p + 1) = 31 then some (1, up (up gG 13 2 (nI (p + 1))) 13 2 (nI (p + 1 + 1))) else some (0, up gG 13 2 (nI (p + 1))) := by
      unfold k0_line_35
      rw [take_c hT hG1.1 (by omega) hG1.2.2.1 (s := 31) (c := 3) (by decide) (by decide) rfl]
      by_cases e : kd (p + 1) = 31
      · rw [if_pos e, some_bind]; exact zr_01 (Or.inr rfl)
      · rw [if_neg e, some_bind]; exact zr_01 (Or.inl rfl)
    rw [← h35]
    unfold k0_line
    rw [tk 0 128 (by decide) (by decide) rfl, if_neg (by omega), some_bind]
    dsimp only
    rw [if_pos rfl, tk 3 131 (by decide) (by decide) rfl]
    rcases hk with q | q
    · rw [if_pos q, some_bind]
      dsimp only
      rw [if_neg (by decide)]
    · rw [if_neg (by omega), some_bind]
      dsimp only
      rw [if_pos rfl, tk 4 132 (by decide) (by decide) rfl, if_pos q, some_bind]
      dsimp only
      rw [if_neg (by decide)]
  have hmdl : k11_line gm = (k11_numberTo (if kd p = 3 then 180 else 10000) (up gm 47 8 (nI (p + 1)))).bind fun u21 => some (up u21.2 66 (if kd p = 3 then 1 else 2) u21.1) := by
    unfold k11_line
    rw [tm 0 0 (by decide) rfl, if_neg (by omega), some_bind]
    dsimp only
    rw [if_pos rfl, tm 3 3 (by decide) rfl]
    rcases hk with q | q
    · rw [if_pos q, some_bind]
      dsimp only
      rw [if_neg (by decide), if_pos q, if_pos q]
      rfl
    · rw [if_neg (by omega), some_bind]
      dsimp only
      rw [if_pos rfl, tm 4 4 (by decide) rfl, if_pos q, some_bind]
      dsimp only
      rw [if_neg (by decide), if_neg (by omega), if_neg (by omega)]
      rfl
  rw [hcls, hmdl]
  have sl : (if kd p = 3 then 1 else 2) ≠ 12 ∧ (if kd p = 3 then 1 else 2) ≠ 0 ∧ (if kd p = 3 then 1 else 2) ≠ 5 := by
    rcases hk with q | q <;> simp [q]
  by_cases e : kd (p + 1) = 31
  · have hp1 : p + 1 < K := kdK hT (by omega) e (by decide) (by decide)
    have hctx : ctxN kd (p + 1) = kd p := ctx_of rfl (by omega)
    have he : errT kd nm (sameN B ps sz) (ms kd nm (p + 1)) (p + 1) = if nm (p + 1) ≤ (if kd p = 3 then 180 else 10000) then 0 else 5 := by
      rw [ms_num e, hctx, if_neg (by omega), if_neg (by omega)]
      rcases hk with q | q
      · rw [if_pos q, if_pos q]
      · rw [if_neg (show ¬ kd p = 3 by omega), if_pos q, if_neg (show ¬ kd p = 3 by omega)]
    have hc : (if kd p = 3 then (180 : Int32) else 10000) = nI (if kd p = 3 then 180 else 10000) := by
      rcases hk with q | q
      · rw [if_pos q, if_pos q]; rfl
      · rw [if_neg (by omega), if_neg (by omega)]; rfl
    obtain ⟨g', n1, n2, n3⟩ := num_m hT hM1.rwm (show p + 1 ≤ K by omega) e hc (by split <;> decide) he
    have hG2 := hG1.go hp1
    rw [if_pos e, n1, some_bind]
    dsimp only
    have fA : f47 gm g' := f47_tok.trans n3
    have h66 : ∀ k, k ≠ (if kd p = 3 then 1 else 2) → up g' 66 (if kd p = 3 then 1 else 2) (nI (nm (p + 1))) 66 k = gm 66 k := fun k hk => by rw [up_slot hk, fA.1 66 (by decide)]
    have hms : ms kd nm (p + 1 + 1) = (if kd p = 3 then ((ms kd nm p).1, (ms kd nm p).2.1, (ms kd nm p).2.2.1, nI (nm (p + 1)), (ms kd nm p).2.2.2.2) else ((ms kd nm p).1, (ms kd nm p).2.1, (ms kd nm p).2.2.1, (ms kd nm p).2.2.2.1, nI (nm (p + 1)), (ms kd nm p).2.2.2.2.2)) := by
      show mstep kd nm (ms kd nm (p + 1)) (p + 1) = _
      rw [hq.2]
      unfold mstep
      rw [if_neg (by omega), if_pos e, hctx, if_neg (by omega), if_neg (by omega), if_neg (by omega)]
      rcases hk with q | q
      · rw [if_pos q, if_pos q]
      · rw [if_neg (by omega), if_pos q, if_neg (by omega)]
    have m1 : (ms kd nm (p + 1 + 1)).1 = (ms kd nm p).1 := by rw [hms]; split <;> rfl
    have m2 : (ms kd nm (p + 1 + 1)).2.1 = (ms kd nm p).2.1 := by rw [hms]; split <;> rfl
    have m3 : (ms kd nm (p + 1 + 1)).2.2.1 = (ms kd nm p).2.2.1 := by rw [hms]; split <;> rfl
    have m4 : (ms kd nm (p + 1 + 1)).2.2.2.2.2 = (ms kd nm p).2.2.2.2.2 := by rw [hms]; split <;> rfl
    have e47 : up g' 66 (if kd p = 3 then 1 else 2) (nI (nm (p + 1))) 47 = g' 47 := up_ne (by decide)
    have ne_p : noErr kd nm (sameN B ps sz) (p + 1 + 1) → noErr kd nm (sameN B ps sz) p := fun z i hi => z i (by omega)
    refine Or.inl ⟨_, _, p + 1 + 1, L, n, rfl, rfl, by omega, ⟨hG2, ⟨by rw [e47]; exact n2.1, by rw [e47]; exact n2.2.1, n2.2.2.1.fr (fun a a1 a2 => up_ne (by omega)) (by rw [e47]), by rw [e47, fA.2 12 (by decide)]; exact hM.2.2.2.1, by rw [h66 12 (fun z => sl.1 z.symm)]; exact hM.2.2.2.2.1, by have := hM.2.2.2.2.2.1; omega, ?_⟩, ?_, fun z => ?_⟩, at_l.trans at_l, ?_⟩
    · refine errOK.mk (n2.2.2.2.fr (by rw [e47]) (by rw [e47])) b1 (by rw [h66 0 (fun z => sl.2.1 z.symm)]; exact b2) (fun j hj => by rw [up_ne (by decide), fA.1 53 (by decide)]; exact b3 j hj) (fun z => ?_)
      obtain ⟨c1, c2⟩ := b4 (ne_p z)
      exact ⟨by rw [m1]; exact c1, fun j _ => by rw [m2, c2]⟩
    · obtain ⟨O, o1, o2⟩ := hO
      exact ⟨O, o1, by rw [h66 5 (fun z => sl.2.2 z.symm)]; exact o2⟩
    · obtain ⟨l1, l2, l3, l4, l5, l6⟩ := hL (ne_p z)
      have fo : ∀ a, a ≠ 47 → a ≠ 66 → up g' 66 (if kd p = 3 then 1 else 2) (nI (nm (p + 1))) a = gm a := fun a a1 a2 => by rw [up_ne a2, fA.1 a a1]
      refine ⟨by rw [h66 5 (fun z => sl.2.2 z.symm), m3]; exact l1, by rw [m3]; exact l2, ?_, ?_, fun j hj => ?_, ?_⟩
      · rw [hms]
        rcases hk with q | q
        · rw [if_pos q, if_pos q, up_self]
        · rw [if_neg (by omega), if_neg (by omega), up_slot (by decide), fA.1 66 (by decide)]; exact l3
      · rw [hms]
        rcases hk with q | q
        · rw [if_pos q, if_pos q, up_slot (by decide), fA.1 66 (by decide)]; exact l4
        · rw [if_neg (by omega), if_neg (by omega), up_self]
      · rw [m4, fo 67 (by decide) (by decide), fo 68 (by decide) (by decide)]
        exact l5 j (by rw [← m1]; exact hj)
      · rw [m3]
        exact ords_fr (by omega) l6 (fun i hi => ⟨by rw [up_other (by decide), up_other (by decide)], by rw [up_other (by decide), up_other (by decide)]⟩) (fun a i a1 a2 hi => by rw [fo a (by omega) (by omega)]) (fun a k a1 a2 hk => by rw [fo a (by omega) (by omega)])
    · exact fA.l.trans ⟨fun a a1 a2 a3 => up_ne (by omega), fun k hk => by rw [e47]⟩
  · rw [if_neg e, num_bad hT hM1.1 hM1.2.1 (by omega) hM1.2.2.1 e, some_bind]
    dsimp only
    refine Or.inr ⟨_, _, p + 1, rfl, rfl, by omega, up_self, (wr_WM hM1.1).f (up_ne (by decide)), at_l, (f47_tok.trans f47_wr).l.trans ⟨fun a a1 a2 a3 => up_ne (by omega), fun k hk => by rw [up_ne (by decide)]⟩⟩
/-! a mirror -/
def S2 (v1 : Int32) (g : G) : Option G := (k11_take 2 g).bind fun g9 => (k11_takes 41 g9).bind fun u10 => if u10.1 = 0 then k11_mirror_125 v1 1 u10.2 else k11_mirror_125 v1 (-1) u10.2
def S1 (v1 : Int32) (g : G) : Option G := (k11_numberTo 100 g).bind fun u7 => sto u7.2 67 11 v1 u7.1 fun g8 => S2 v1 g8
theorem m80 {v1 : Int32} {g : G} : k11_mirror_80 v1 g = (k11_take 30 g).bind fun g5 => (k11_take 1 g5).bind fun g6 => S1 v1 g6 := rfl
theorem w125 {g : G} {q m : Nat} {t0 : Int32} (h : WM q g) (hq : q ≤ 400) (hm : m ≤ 10) : ∃ g', k11_mirror_125 (nI m) t0 g = some g' ∧ WM q g' ∧ lG g g' := by
  unfold k11_mirror_125
  rw [num_w h hq, some_bind]
  dsimp only
  rw [sto_n (by omega) (by omega), bd_eq, bd_eq]
  refine ⟨_, rfl, h.f (by rw [up_ne (by decide), up_ne (by decide)]), fun a a1 a2 a3 => ?_, fun k hk => ?_⟩
  · rw [up_ne (by omega), up_ne (by omega)]
  · rw [up_ne (by decide), up_ne (by decide)]
theorem wS2 {g : G} {q m : Nat} (h : WM q g) (hq : q ≤ 400) (hm : m ≤ 10) : ∃ g', S2 (nI m) g = some g' ∧ WM q g' ∧ lG g g' := by
  unfold S2
  rw [take_w h.1, some_bind, takes_w h.1, some_bind]
  dsimp only
  rw [if_pos rfl]
  exact w125 h hq hm
theorem wS1 {g : G} {q m : Nat} (h : WM q g) (hq : q ≤ 400) (hm : m ≤ 10) : ∃ g', S1 (nI m) g = some g' ∧ WM q g' ∧ lG g g' := by
  unfold S1
  rw [num_w h hq, some_bind]
  dsimp only
  rw [sto_n (by omega) (by omega)]
  obtain ⟨g', a1, a2, a3⟩ := wS2 (m := m) (g := up g 67 m (g 50 q)) (h.f (up_ne (by decide))) hq hm
  exact ⟨g', a1, a2, lG.trans ⟨fun a a1 a2 a3 => up_ne (by omega), fun k hk => by rw [up_ne (by decide)]⟩ a3⟩
/-- the marks at a new name -/
theorem mir_marks {g : G} {p M : Nat} {x : Nat → Nat} (hB : Bok T B) (hT : Toks T 0 K kd ps sz nm) (h : RW T K B kd ps sz nm (p + 1) g) (hp : p + 1 ≤ K) (hk : kd p = 0) (h30 : kd (p + 1) = 30) (hM : M ≤ 10) (h66 : g 66 0 = nI M) (hx : ∀ j, j < M → g 53 j = nI (x j) ∧ x j < K) (hn : noErr kd nm (sameN B ps sz) p → M = (ms kd nm p).1 ∧ x = (ms kd nm p).2.1) (hms : ms kd nm (p + 1) = ms kd nm p) : ∃ g4, k11_mirror g = k11_mirror_80 (nI M) g4 ∧ g4 47 8 = nI (p + 1) ∧ g4 47 9 = 0 ∧ EO kd nm (sameN B ps sz) (p + 1 + 1) g4 ∧ (∀ a, a ≠ 47 → a ≠ 53 → g4 a = g a) ∧ (∀ k, k < 8 ∨ 11 < k → g4 47 k = g 47 k) ∧ ∀ j, j ≤ M → j < 10 → g4 53 j = if j = M then nI (p + 1) else g 53 j := by
  have hK := hT.2.1
  obtain ⟨h1, h2, h3, h4⟩ := id h
  have hpK := kdK hT hp h30 (by decide) (by decide)
  have hnew : newB kd (p + 1) = true := by
    unfold newB
    rw [show p + 1 - 1 = p by omega, hk]
    simp
  have herr : errT kd nm (sameN B ps sz) (ms kd nm (p + 1)) (p + 1) = if (mvO (sameN B ps sz) (ms kd nm (p + 1)) (p + 1)).isSome = true then 2 else if 10 ≤ (ms kd nm (p + 1)).1 then 4 else 0 := by
    unfold errT
    rw [if_pos h30, if_pos hnew]
  have hkn := known_m (x := x) hB hT h1 hpK h3 h66 hM hx
  obtain ⟨r, hr⟩ : ∃ r, fnd (sameN B ps sz) x (p + 1) M 0 = r := ⟨_, rfl⟩
  rw [hr] at hkn
  have hrn : noErr kd nm (sameN B ps sz) (p + 1) → mvO (sameN B ps sz) (ms kd nm (p + 1)) (p + 1) = r ∧ (ms kd nm (p + 1)).1 = M := by
    intro z
    obtain ⟨e1, e2⟩ := hn (fun i hi => z i (by omega))
    rw [hms]
    unfold mvO
    rw [← e1, ← e2]
    exact ⟨hr, rfl⟩
  have is30 : ∀ g' : G, g' 47 8 = nI (p + 1) → g' 47 9 = 0 → MT T K B kd ps sz nm g' → k11_is 30 g' = some 1 := fun g' a b c => by rw [is_m hT a b hp c (s := 30) (c := 30) (by decide) rfl, if_pos h30]
  -- the first mark
  obtain ⟨g2, hg2, s8, s9, sf, sE⟩ : ∃ g2, (if optI r = -1 then k11_mirror_35 (nI M) g else (k11_mark 2 g).bind fun g25 => k11_mirror_35 (nI M) g25) = k11_mirror_35 (nI M) g2 ∧ g2 47 8 = nI (p + 1) ∧ g2 47 9 = 0 ∧ f47 g g2 ∧ ((noErr kd nm (sameN B ps sz) (p + 1) ∧ r = none ∧ g2 47 10 = 0) ∨ (EO kd nm (sameN B ps sz) (p + 1 + 1) g2 ∧ g2 47 10 ≠ 0)) := by
    have hne : ∀ q, errT kd nm (sameN B ps sz) (ms kd nm q) q ≠ 0 → ¬ nI (errT kd nm (sameN B ps sz) (ms kd nm q) q) = 0 := fun q hq => nI_ne0 (by omega) (by have := errT_le (kd := kd) (nm := nm) (sm := sameN B ps sz) (st := ms kd nm q) (i := q); omega)
    cases r with
    | none =>
      refine ⟨g, if_pos rfl, h1, h2, f47.refl, ?_⟩
      rcases h4 with ⟨a1, a2⟩ | ⟨q, a1, a2, a3, a4, a5⟩
      · exact Or.inl ⟨a1, rfl, a2⟩
      · exact Or.inr ⟨Or.inr ⟨q, by omega, a2, a3, a4, a5⟩, by rw [a4]; exact hne q a3⟩
    | some j =>
      have hj := fnd_lt _ _ _ hr
      refine ⟨if g 47 10 = 0 then up (up g 47 10 2) 47 11 (nI (p + 1)) else g, by rw [if_neg (show ¬ optI (some j) = -1 from nI_nm1 (j := j) (by omega)), mark_m h1 h2, some_bind], ?_, ?_, f47_mark, Or.inr ?_⟩
      · split
        · rw [up_slot (by decide), up_slot (by decide)]; exact h1
        · exact h1
      · split
        · rw [up_slot (by decide), up_slot (by decide)]; exact h2
        · exact h2
      · rcases h4 with ⟨a1, a2⟩ | ⟨q, a1, a2, a3, a4, a5⟩
        · have he2 : errT kd nm (sameN B ps sz) (ms kd nm (p + 1)) (p + 1) = 2 := by
            rw [herr, (hrn a1).1]; rfl
          refine ⟨EO.mark (Or.inl ⟨a1, a2⟩) (by rw [he2]; decide) (by rw [he2]; rfl), ?_⟩
          rw [if_pos a2, up_slot (by decide), up_self]; decide
        · have := hne q a3
          rw [if_neg (by rw [a4]; exact this)]
          exact ⟨Or.inr ⟨q, by omega, a2, a3, a4, a5⟩, by rw [a4]; exact this⟩
  -- the second
  obtain ⟨g3, hg3, t8, t9, tf, tE⟩ : ∃ g3, k11_mirror_35 (nI M) g2 = k11_mirror_55 (nI M) g3 ∧ g3 47 8 = nI (p + 1) ∧ g3 47 9 = 0 ∧ f47 g2 g3 ∧ EO kd nm (sameN B ps sz) (p + 1 + 1) g3 := by
    unfold k11_mirror_35
    rw [is30 g2 s8 s9 (h3.f47 sf), some_bind, if_neg (by decide)]
    by_cases e10 : M = 10
    · rw [if_pos (by rw [e10]; rfl), mark_m s8 s9, some_bind]
      refine ⟨_, rfl, ?_, ?_, f47_mark, ?_⟩
      · split
        · rw [up_slot (by decide), up_slot (by decide)]; exact s8
        · exact s8
      · split
        · rw [up_slot (by decide), up_slot (by decide)]; exact s9
        · exact s9
      · rcases sE with ⟨a1, a2, a3⟩ | ⟨a1, a2⟩
        · obtain ⟨e1, e2⟩ := hrn a1
          have he4 : errT kd nm (sameN B ps sz) (ms kd nm (p + 1)) (p + 1) = 4 := by
            rw [herr, e1, a2, e2, e10]; rfl
          exact EO.mark (Or.inl ⟨a1, a3⟩) (by rw [he4]; decide) (by rw [he4]; rfl)
        · rw [if_neg a2]; exact a1
    · rw [if_neg (show ¬ nI M = 10 from fun z => e10 ((nI_eq (a := M) (b := 10) (by omega) (by omega)).mp z))]
      refine ⟨g2, rfl, s8, s9, f47.refl, ?_⟩
      rcases sE with ⟨a1, a2, a3⟩ | ⟨a1, a2⟩
      · obtain ⟨e1, e2⟩ := hrn a1
        have he0 : errT kd nm (sameN B ps sz) (ms kd nm (p + 1)) (p + 1) = 0 := by
          rw [herr, e1, a2, e2, if_neg (by decide), if_neg (by omega)]
        exact Or.inl ⟨noErr_s a1 he0, a3⟩
      · exact a1
  have fA : f47 g g3 := sf.trans tf
  have hstart : k11_mirror g = k11_mirror_55 (nI M) g3 := by
    rw [← hg3, ← hg2]
    unfold k11_mirror
    have hmin : (if g 66 0 < 10 then g 66 0 else 10) = nI M := by
      rw [h66]
      by_cases e : M < 10
      · rw [if_pos (show nI M < 10 from (nI_ltI (a := M) (b := 10) (by omega) (by omega)).mpr e)]
      · rw [if_neg (show ¬ nI M < 10 from fun z => e ((nI_ltI (a := M) (b := 10) (by omega) (by omega)).mp z)), show M = 10 by omega]; rfl
    rw [hmin, bd_eq, is30 g h1 h2 h3, some_bind, if_neg (by decide), hkn, some_bind]
  rw [hstart]
  unfold k11_mirror_55
  rw [is30 g3 t8 t9 (h3.f47 fA), some_bind, if_neg (by decide)]
  by_cases e : 10 ≤ M
  · rw [if_pos ((lit_le (M := 10) (k := 10) rfl (by omega) (by omega)).mpr e)]
    exact ⟨g3, rfl, t8, t9, tE, fun a a1 a2 => fA.1 a a1, fA.2, fun j j1 j2 => by rw [if_neg (by omega), fA.1 53 (by decide)]⟩
  · rw [if_neg (fun z => e ((lit_le (M := 10) (k := 10) rfl (by omega) (by omega)).mp z)), sto_n (by omega) (by omega), t8]
    refine ⟨_, rfl, by rw [up_other (by decide)]; exact t8, by rw [up_other (by decide)]; exact t9, tE.fr (up_other (by decide)) (up_other (by decide)), fun a a1 a2 => by rw [up_ne a2, fA.1 a a1], fun k hk => by rw [up_other (by decide)]; exact fA.2 k hk, fun j j1 j2 => ?_⟩
    by_cases q : j = M
    · rw [if_pos q, q, up_self]
    · rw [if_neg q, up_slot q, fA.1 53 (by decide)]
end TK
