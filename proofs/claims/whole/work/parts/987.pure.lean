/-! teach: the small steps of both parsers -/
def MT (T K : Nat) (B : Nat → Int32) (kd ps sz nm : Nat → Nat) (g : G) : Prop := TapeM T B g ∧ RM 0 K kd ps sz nm g
/-- the reference's error at a place: the first one ahead of it -/
def errOK (K : Nat) (kd nm : Nat → Nat) (sm : Nat → Nat → Bool) (p : Nat) (g : G) : Prop :=
  (noErr kd nm sm p ∧ g 47 10 = 0 ∧ g 66 0 = nI (ms kd nm p).1 ∧ (ms kd nm p).1 ≤ 10 ∧ ∀ j, j < (ms kd nm p).1 → g 53 j = nI ((ms kd nm p).2.1 j) ∧ (ms kd nm p).2.1 j < K) ∨
  (∃ q, q < p ∧ noErr kd nm sm q ∧ errT kd nm sm (ms kd nm q) q ≠ 0 ∧ g 47 10 = nI (errT kd nm sm (ms kd nm q) q) ∧ g 47 11 = nI q ∧ ∃ (M : Nat) (x : Nat → Nat), M ≤ 10 ∧ g 66 0 = nI M ∧ ∀ j, j < M → g 53 j = nI (x j) ∧ x j < K)
def PG (T K : Nat) (B : Nat → Int32) (kd ps sz nm : Nat → Nat) (p L : Nat) (g : G) : Prop := g 13 2 = nI p ∧ p ≤ K ∧ CT T K B kd ps sz nm g ∧ g 8 8 = nI L ∧ L ≤ p
def PM (T K : Nat) (B : Nat → Int32) (kd ps sz nm : Nat → Nat) (p n dep : Nat) (g : G) : Prop := g 47 8 = nI p ∧ g 47 9 = 0 ∧ MT T K B kd ps sz nm g ∧ g 47 12 = nI dep ∧ g 66 12 = nI n ∧ n ≤ p ∧ errOK K kd nm (sameN B ps sz) p g
def WM (q : Nat) (g : G) : Prop := g 47 9 = 1 ∧ g 47 8 = nI q ∧ g 47 10 = 1 ∧ g 47 11 = nI q
section TK
variable {T K : Nat} {B : Nat → Int32} {kd ps sz nm : Nat → Nat}
theorem MT.fr {g g' : G} (h : MT T K B kd ps sz nm g) (hf : ∀ a, 48 ≤ a → a ≤ 52 → g' a = g a) (h2 : g' 47 2 = g 47 2) : MT T K B kd ps sz nm g' := by
  obtain ⟨⟨a1, a2⟩, a3, a4⟩ := h
  exact ⟨⟨by rw [h2]; exact a1, fun p hp => by rw [hf 48 (by omega) (by omega)]; exact a2 p hp⟩, fun i i1 i2 => by rw [hf 49 (by omega) (by omega), hf 51 (by omega) (by omega)]; exact a3 i i1 i2, fun i i1 i2 => by rw [hf 52 (by omega) (by omega), hf 50 (by omega) (by omega)]; exact a4 i i1 i2⟩
theorem MT.mG {g g' : G} {n : Nat} (h : MT T K B kd ps sz nm g) (hf : mG n g g') : MT T K B kd ps sz nm g' := h.fr (fun a a1 a2 => hf.1 a (by omega) (by omega) (by omega) (by omega) (by omega)) (hf.2.2.1 2 (by omega))
theorem CT.cG {g g' : G} {L : Nat} (h : CT T K B kd ps sz nm g) (hf : cG L g g') : CT T K B kd ps sz nm g' := h.fr (fun a a1 a2 => hf.1 a (by omega) (by omega) (by omega) (by omega))
theorem kdK (hT : Toks T 0 K kd ps sz nm) {p s : Nat} (hp : p ≤ K) (h : kd p = s) (h1 : s ≠ 32) (h2 : s ≠ 33) : p < K := by
  rcases Nat.lt_or_ge p K with q | q
  · exact q
  · obtain rfl : p = K := by omega
    rcases hT.2.2.2.1 with z | z <;> omega
/-! the class's -/
theorem take_c {g : G} {p s : Nat} {c : Int32} (hT : Toks T 0 K kd ps sz nm) (h13 : g 13 2 = nI p) (hp : p ≤ K) (h : CT T K B kd ps sz nm g) (hs : okB s = true) (hs64 : s < 64) (hc : c = nI (kap s)) : k0_take c g = if kd p = s then some (1, up g 13 2 (nI (p + 1))) else some (0, g) := by
  unfold k0_take
  rw [h13, kindAt_n hT h hp, some_bind]
  by_cases e : kd p = s
  · rw [if_pos ((kap_lit hT hp hs hs64 hc).mpr e), if_pos e, bd_eq, nI_1]
  · rw [if_neg (fun z => e ((kap_lit hT hp hs hs64 hc).mp z)), if_neg e]
theorem next_c {g : G} {p s : Nat} {c : Int32} (hT : Toks T 0 K kd ps sz nm) (h13 : g 13 2 = nI p) (hp : p ≤ K) (h : CT T K B kd ps sz nm g) (hs : okB s = true) (hs64 : s < 64) (hc : c = nI (kap s)) : k0_isNext c g = some (if kd p = s then 1 else 0) := by
  unfold k0_isNext
  rw [h13, kindAt_n hT h hp, some_bind]
  by_cases e : kd p = s
  · rw [if_pos ((kap_lit hT hp hs hs64 hc).mpr e), if_pos e]
  · rw [if_neg (fun z => e ((kap_lit hT hp hs hs64 hc).mp z)), if_neg e]
theorem write_c {g : G} {L : Nat} {c v : Int32} (h : g 8 8 = nI L) (hL : L < 400) : k2_write 8 c v g = some (addS L c v g) := by
  unfold k2_write
  rw [h, if_neg (fun z => absurd ((lit_le (M := 400) (k := 400) rfl (by omega) (by omega)).mp z) (by omega)), sto_n (by omega) (by omega), up_other (by decide), h, sto_n (by omega) (by omega), bd_eq, up_other (by decide), up_other (by decide), h, nI_1]
  rfl
theorem at_fr {g : G} {L p : Nat} : cG L g (up g 13 2 (nI p)) := ⟨fun a a1 a2 a3 a4 => up_ne a4, fun k hk => up_other (by decide), fun k hk => up_slot hk, fun i hi => ⟨up_other (by decide), up_other (by decide)⟩⟩
theorem PG.go {g : G} {p L : Nat} (h : PG T K B kd ps sz nm p L g) (hp : p < K) : PG T K B kd ps sz nm (p + 1) L (up g 13 2 (nI (p + 1))) := by
  obtain ⟨h1, h2, h3, h4, h5⟩ := h
  exact ⟨up_self, by omega, h3.cG (at_fr (L := 0)), by rw [up_other (by decide)]; exact h4, by omega⟩
theorem PG.wr {g : G} {p L : Nat} {c v : Int32} (h : PG T K B kd ps sz nm p L g) : addS L c v g 13 2 = nI p ∧ CT T K B kd ps sz nm (addS L c v g) ∧ addS L c v g 8 8 = nI (L + 1) := by
  obtain ⟨h1, h2, h3, h4, h5⟩ := h
  refine ⟨?_, h3.cG (addS_fr), addS_v.2.2⟩
  unfold addS
  rw [up_other (by decide), up_other (by decide), up_other (by decide)]; exact h1
/-! the reference's -/
theorem nI_lit {s : Nat} {c : Int32} {i : Nat} (hT : Toks T 0 K kd ps sz nm) (hi : i ≤ K) (hs : s < 64) (hc : c = nI s) : nI (kd i) = c ↔ kd i = s := by
  rw [hc]
  exact nI_eq (by have := (hT.ok hi).2; omega) (by omega)
theorem is_m {g : G} {p s : Nat} {c : Int32} (hT : Toks T 0 K kd ps sz nm) (h8 : g 47 8 = nI p) (h9 : g 47 9 = 0) (hp : p ≤ K) (h : MT T K B kd ps sz nm g) (hs : s < 64) (hc : c = nI s) : k11_is c g = some (if kd p = s then 1 else 0) := by
  have hK := hT.2.1
  unfold k11_is
  rw [h9, if_pos rfl, h8, ld_n (by omega) (by omega), (h.2.1 p (by omega) hp).1]
  by_cases e : kd p = s
  · rw [if_pos ((nI_lit hT hp hs hc).mpr e), if_pos e]
  · rw [if_neg (fun z => e ((nI_lit hT hp hs hc).mp z)), if_neg e]
def wr (p : Nat) (g : G) : G := up (up (up g 47 9 1) 47 10 1) 47 11 (nI p)
theorem wrong_m {g : G} {p : Nat} (h8 : g 47 8 = nI p) (h9 : g 47 9 = 0) : k11_wrong g = some (wr p g) := by
  unfold k11_wrong
  rw [if_pos h9, bd_eq, bd_eq, up_slot (by decide), up_slot (by decide), h8, bd_eq]
  rfl
theorem wr_WM {g : G} {p : Nat} (h8 : g 47 8 = nI p) : WM p (wr p g) := by
  unfold wr
  refine ⟨?_, ?_, ?_, up_self⟩
  · rw [up_slot (by decide), up_slot (by decide), up_self]
  · rw [up_slot (by decide), up_slot (by decide), up_slot (by decide)]; exact h8
  · rw [up_slot (by decide), up_self]
theorem wr_fr {g : G} {p n : Nat} : mG n g (wr p g) := by
  unfold wr
  refine ⟨fun a a1 a2 a3 a4 a5 => ?_, fun k hk => ?_, fun k hk => ?_, fun a i a1 a2 hi => ?_⟩
  · rw [up_ne a1, up_ne a1, up_ne a1]
  · rw [up_other (by decide), up_other (by decide), up_other (by decide)]
  · rw [up_slot (by omega), up_slot (by omega), up_slot (by omega)]
  · rw [up_ne (by omega), up_ne (by omega), up_ne (by omega)]
theorem wr_n {g : G} {p n : Nat} (h : g 66 12 = nI n) : wr p g 66 12 = nI n := by
  unfold wr
  rw [up_other (by decide), up_other (by decide), up_other (by decide)]; exact h
theorem take_m1 {g : G} {p s : Nat} {c : Int32} (hT : Toks T 0 K kd ps sz nm) (h8 : g 47 8 = nI p) (h9 : g 47 9 = 0) (hp : p ≤ K) (h : MT T K B kd ps sz nm g) (hs : s < 64) (hc : c = nI s) : k11_take c g = if kd p = s then some (up g 47 8 (nI (p + 1))) else some (wr p g) := by
  unfold k11_take
  rw [is_m hT h8 h9 hp h hs hc, some_bind]
  by_cases e : kd p = s
  · rw [if_pos e, if_neg (by decide), if_pos e, bd_eq, h8, nI_1]
  · rw [if_neg e, if_pos rfl, if_neg e, wrong_m h8 h9]; rfl
theorem takes_m1 {g : G} {p s : Nat} {c : Int32} (hT : Toks T 0 K kd ps sz nm) (h8 : g 47 8 = nI p) (h9 : g 47 9 = 0) (hp : p ≤ K) (h : MT T K B kd ps sz nm g) (hs : s < 64) (hc : c = nI s) : k11_takes c g = if kd p = s then some (1, up g 47 8 (nI (p + 1))) else some (0, g) := by
  unfold k11_takes
  rw [is_m hT h8 h9 hp h hs hc, some_bind]
  by_cases e : kd p = s
  · rw [if_pos e, if_neg (by decide), if_pos e, bd_eq, h8, nI_1]
  · rw [if_neg e, if_pos rfl, if_neg e]
/-- nothing goes on once it is wrong -/
theorem is_w {g : G} {c : Int32} (h : g 47 9 = 1) : k11_is c g = some 0 := by
  unfold k11_is
  rw [if_neg (by rw [h]; decide)]
theorem wrong_w {g : G} (h : g 47 9 = 1) : k11_wrong g = some g := by
  unfold k11_wrong
  rw [if_neg (by rw [h]; decide)]
theorem take_w {g : G} {c : Int32} (h : g 47 9 = 1) : k11_take c g = some g := by
  unfold k11_take
  rw [is_w h, some_bind, if_pos rfl, wrong_w h]; rfl
theorem takes_w {g : G} {c : Int32} (h : g 47 9 = 1) : k11_takes c g = some (0, g) := by
  unfold k11_takes
  rw [is_w h, some_bind, if_pos rfl]
theorem node_m {g : G} {n : Nat} {s l r : Int32} (h : g 66 12 = nI n) (hn : n < 800) : k11_node s l r g = some (nI n, addN n s l r g) := by
  unfold k11_node
  rw [h, bd_eq, sto_n (by omega) (by omega), sto_n (by omega) (by omega), sto_n (by omega) (by omega), bd_eq, up_other (by decide), up_other (by decide), up_other (by decide), h, nI_1]
  rfl
theorem tok_fr {g : G} {n : Nat} {v : Int32} : mG n g (up g 47 8 v) := ⟨fun a a1 a2 a3 a4 a5 => up_ne a1, fun k hk => up_other (by decide), fun k hk => up_slot (by omega), fun a i a1 a2 hi => by rw [up_ne (by omega)]⟩
theorem deep_fr {g : G} {n : Nat} {v : Int32} : mG n g (up g 47 12 v) := ⟨fun a a1 a2 a3 a4 a5 => up_ne a1, fun k hk => up_other (by decide), fun k hk => up_slot (by omega), fun a i a1 a2 hi => by rw [up_ne (by omega)]⟩
theorem errOK.fr {g g' : G} {p : Nat} (h : errOK K kd nm (sameN B ps sz) p g) (h10 : g' 47 10 = g 47 10) (h11 : g' 47 11 = g 47 11) (h66 : g' 66 0 = g 66 0) (h53 : g' 53 = g 53) : errOK K kd nm (sameN B ps sz) p g' := by
  rcases h with ⟨a1, a2, a3, a4, a5⟩ | ⟨q, a1, a2, a3, a4, a5, M, x, b1, b2, b3⟩
  · exact Or.inl ⟨a1, by rw [h10]; exact a2, by rw [h66]; exact a3, a4, fun j hj => by rw [h53]; exact a5 j hj⟩
  · exact Or.inr ⟨q, a1, a2, a3, by rw [h10]; exact a4, by rw [h11]; exact a5, M, x, b1, by rw [h66]; exact b2, fun j hj => by rw [h53]; exact b3 j hj⟩
/-- a token that means nothing by itself -/
theorem quiet {p : Nat} (h30 : kd p ≠ 30) (h31 : kd p = 31 → ctxN kd p = 0) (ho : ordB (kd p) = false) : errT kd nm (sameN B ps sz) (ms kd nm p) p = 0 ∧ ms kd nm (p + 1) = ms kd nm p := by
  constructor
  · unfold errT
    rw [if_neg h30]
    by_cases e : kd p = 31
    · rw [if_pos e, h31 e]; rfl
    · rw [if_neg e, ho]; rfl
  · show mstep kd nm (ms kd nm p) p = _
    unfold mstep
    rw [if_neg h30]
    by_cases e : kd p = 31
    · rw [if_pos e, h31 e]; rfl
    · rw [if_neg e, ho]; rfl
theorem noErr_s {p : Nat} {sm : Nat → Nat → Bool} (h : noErr kd nm sm p) (he : errT kd nm sm (ms kd nm p) p = 0) : noErr kd nm sm (p + 1) := by
  intro i hi
  by_cases q : i = p
  · subst q; exact he
  · exact h i (by omega)
theorem errOK.quiet {g : G} {p : Nat} (h : errOK K kd nm (sameN B ps sz) p g) (hq : errT kd nm (sameN B ps sz) (ms kd nm p) p = 0 ∧ ms kd nm (p + 1) = ms kd nm p) : errOK K kd nm (sameN B ps sz) (p + 1) g := by
  rcases h with ⟨a1, a2, a3, a4, a5⟩ | ⟨q, a1, a2⟩
  · exact Or.inl ⟨noErr_s a1 hq.1, a2, by rw [hq.2]; exact a3, by rw [hq.2]; exact a4, by rw [hq.2]; exact a5⟩
  · exact Or.inr ⟨q, by omega, a2⟩
theorem PM.go {g : G} {p n dep : Nat} (h : PM T K B kd ps sz nm p n dep g) (hq : errT kd nm (sameN B ps sz) (ms kd nm p) p = 0 ∧ ms kd nm (p + 1) = ms kd nm p) : PM T K B kd ps sz nm (p + 1) n dep (up g 47 8 (nI (p + 1))) := by
  obtain ⟨h1, h2, h3, h4, h5, h6, h7⟩ := h
  exact ⟨up_self, by rw [up_slot (by decide)]; exact h2, h3.mG (tok_fr (n := 0)), by rw [up_slot (by decide)]; exact h4, by rw [up_other (by decide)]; exact h5, by omega, (h7.quiet hq).fr (up_slot (by decide)) (up_slot (by decide)) (up_other (by decide)) (up_ne (by decide))⟩
/-- names -/
theorem same_m {g : G} {i j : Nat} (hB : Bok T B) (hT : Toks T 0 K kd ps sz nm) (h : MT T K B kd ps sz nm g) (hi : i < K) (hj : j < K) : k11_isSameName (nI i) (nI j) g = some (if sameN B ps sz i j = true then 1 else 0) := by
  have hK := hT.2.1
  have hTT := hB.1
  have ti := (hT.2.2.1 i (by omega) hi).2.1
  have tj := (hT.2.2.1 j (by omega) hj).2.1
  have loop : sz i = sz j → ∀ (d x f : Nat), sz i = x + d → d < f → k11_isSameName_19 g f (nI i) (nI j) (nI x) = some (if ((List.range d).all fun t => decide (B (ps i + (x + t)) = B (ps j + (x + t)))) = true then 1 else 0) := by
    intro hz d
    induction d with
    | zero =>
      intro x f hd hf
      obtain ⟨f, rfl⟩ : ∃ z, f = z + 1 := ⟨f - 1, by omega⟩
      unfold k11_isSameName_19
      rw [ld_n (by omega) (by omega), (h.2.2 i (by omega) hi).1, if_pos (by rw [nI_leI (by omega) (by omega)]; omega)]
      rfl
    | succ d ih =>
      intro x f hd hf
      obtain ⟨f, rfl⟩ : ∃ z, f = z + 1 := ⟨f - 1, by omega⟩
      unfold k11_isSameName_19
      rw [ld_n (by omega) (by omega), (h.2.2 i (by omega) hi).1, if_neg (by rw [nI_leI (by omega) (by omega)]; omega), ld_n (by omega) (by omega), (h.2.1 i (by omega) (by omega)).2, nI_add, ld_n (by omega) (by omega), ld_n (by omega) (by omega), (h.2.1 j (by omega) (by omega)).2, nI_add, ld_n (by omega) (by omega), h.1.2 _ (by omega), h.1.2 _ (by omega), List.range_succ_eq_map, List.all_cons, List.all_map]
      have hc : ((fun t => decide (B (ps i + (x + t)) = B (ps j + (x + t)))) ∘ Nat.succ) = fun t => decide (B (ps i + (x + 1 + t)) = B (ps j + (x + 1 + t))) := by
        funext t
        show decide (B (ps i + (x + (t + 1))) = B (ps j + (x + (t + 1)))) = _
        rw [show x + (t + 1) = x + 1 + t by omega]
      rw [hc]
      by_cases e : B (ps i + x) = B (ps j + x)
      · rw [if_pos e, bd_eq, nI_1, ih (x + 1) f (by omega) (by omega)]
        rw [show decide (B (ps i + (x + 0)) = B (ps j + (x + 0))) = true from decide_eq_true e, Bool.true_and]
      · rw [if_neg e]
        rw [show decide (B (ps i + (x + 0)) = B (ps j + (x + 0))) = false from decide_eq_false e, Bool.false_and]
        rfl
  unfold k11_isSameName sameN
  rw [ld_n (by omega) (by omega), ld_n (by omega) (by omega), (h.2.2 i (by omega) hi).1, (h.2.2 j (by omega) hj).1]
  by_cases e : sz i = sz j
  · rw [if_pos (by rw [e]), show k11_isSameName_19 g FU (nI i) (nI j) 0 = _ from loop e (sz i) 0 FU (by omega) (by unfold FU; omega), show decide (sz i = sz j) = true from decide_eq_true e, Bool.true_and]
    simp only [Nat.zero_add]
  · rw [if_neg (fun z => e ((nI_eq (by omega) (by omega)).mp z)), show decide (sz i = sz j) = false from decide_eq_false e, Bool.false_and]
    rfl
theorem known_m {g : G} {p M : Nat} {x : Nat → Nat} (hB : Bok T B) (hT : Toks T 0 K kd ps sz nm) (h8 : g 47 8 = nI p) (hp : p < K) (h : MT T K B kd ps sz nm g) (hM : g 66 0 = nI M) (hM9 : M ≤ 10) (hn : ∀ j, j < M → g 53 j = nI (x j) ∧ x j < K) : k11_known g = some (optI (fnd (sameN B ps sz) x p M 0)) := by
  have hK := hT.2.1
  have loop : ∀ (d j f : Nat), M = j + d → d < f → k11_known_2 g f (nI j) = some (optI (fnd (sameN B ps sz) x p d j)) := by
    intro d
    induction d with
    | zero =>
      intro j f hd hf
      obtain ⟨f, rfl⟩ : ∃ z, f = z + 1 := ⟨f - 1, by omega⟩
      unfold k11_known_2
      rw [hM, if_pos (by rw [nI_leI (by omega) (by omega)]; omega)]
      rfl
    | succ d ih =>
      intro j f hd hf
      obtain ⟨f, rfl⟩ : ∃ z, f = z + 1 := ⟨f - 1, by omega⟩
      obtain ⟨n1, n2⟩ := hn j (by omega)
      unfold k11_known_2 fnd
      rw [hM, if_neg (by rw [nI_leI (by omega) (by omega)]; omega), ld_n (by omega) (by omega), n1, h8, same_m hB hT h n2 hp, some_bind]
      by_cases e : sameN B ps sz (x j) p = true
      · rw [if_pos e, if_neg (by decide), if_pos e]
        rfl
      · rw [if_neg e, if_pos rfl, bd_eq, nI_1, if_neg e]
        exact ih (j + 1) f (by omega) (by omega)
  exact loop M 0 FU (by omega) (by unfold FU; omega)
theorem mark_m {g : G} {p : Nat} {e : Int32} (h8 : g 47 8 = nI p) (h9 : g 47 9 = 0) : k11_mark e g = some (if g 47 10 = 0 then up (up g 47 10 e) 47 11 (nI p) else g) := by
  unfold k11_mark
  rw [if_pos h9]
  by_cases q : g 47 10 = 0
  · rw [if_pos q, if_pos q, bd_eq, bd_eq, up_slot (by decide), h8]
  · rw [if_neg q, if_neg q]
/-- a name that is used -/
theorem name_m {g : G} {p n dep : Nat} (hB : Bok T B) (hT : Toks T 0 K kd ps sz nm) (h : PM T K B kd ps sz nm p n dep g) (hp : p ≤ K) (h30 : kd p = 30) (hnew : newB kd p = false) : ∃ g' m, k11_name g = some (nI m, g') ∧ PM T K B kd ps sz nm (p + 1) n dep g' ∧ mG n g g' ∧ (noErr kd nm (sameN B ps sz) (p + 1) → mvO (sameN B ps sz) (ms kd nm p) p = some m) ∧ (m < 10 ∨ m = 0) := by
  obtain ⟨h1, h2, h3, h4, h5, h6, h7⟩ := id h
  have hK := hT.2.1
  have hpK := kdK hT hp h30 (by decide) (by decide)
  have hms : ms kd nm (p + 1) = ms kd nm p := by
    show mstep kd nm (ms kd nm p) p = _
    unfold mstep
    rw [if_pos h30, hnew]; rfl
  have herr : errT kd nm (sameN B ps sz) (ms kd nm p) p = if (mvO (sameN B ps sz) (ms kd nm p) p).isSome = true then 0 else 3 := by
    unfold errT
    rw [if_pos h30, hnew]; rfl
  have is30 : k11_is 30 g = some 1 := by rw [is_m hT h1 h2 hp h3 (s := 30) (c := 30) (by decide) rfl, if_pos h30]
  -- what comes behind the look-up
  have fin : ∀ (r : Option Nat) (g1 : G), (∀ j, r = some j → j < 10) → (g1 = g ∨ g1 = up (up g 47 10 3) 47 11 (nI p)) → k11_known g = some (optI r) → (if optI r = -1 then k11_mark 3 g else some g) = some g1 → errOK K kd nm (sameN B ps sz) (p + 1) g1 → (noErr kd nm (sameN B ps sz) (p + 1) → mvO (sameN B ps sz) (ms kd nm p) p = some (r.getD 0)) → ∃ g' m, k11_name g = some (nI m, g') ∧ PM T K B kd ps sz nm (p + 1) n dep g' ∧ mG n g g' ∧ (noErr kd nm (sameN B ps sz) (p + 1) → mvO (sameN B ps sz) (ms kd nm p) p = some m) ∧ (m < 10 ∨ m = 0) := by
    intro r g1 hr hg1 hk hmk herr1 hmv
    have f1 : mG n g g1 := by
      rcases hg1 with rfl | rfl
      · exact mG.refl
      · refine ⟨fun a a1 a2 a3 a4 a5 => ?_, fun k hk => ?_, fun k hk => ?_, fun a i a1 a2 hi => ?_⟩
        · rw [up_ne a1, up_ne a1]
        · rw [up_other (by decide), up_other (by decide)]
        · rw [up_slot (by omega), up_slot (by omega)]
        · rw [up_ne (by omega), up_ne (by omega)]
    have v8 : g1 47 8 = nI p := by
      rcases hg1 with rfl | rfl
      · exact h1
      · rw [up_slot (by decide), up_slot (by decide)]; exact h1
    have v9 : g1 47 9 = 0 := by
      rcases hg1 with rfl | rfl
      · exact h2
      · rw [up_slot (by decide), up_slot (by decide)]; exact h2
    have v12 : g1 47 12 = nI dep := by
      rcases hg1 with rfl | rfl
      · exact h4
      · rw [up_slot (by decide), up_slot (by decide)]; exact h4
    have v66 : g1 66 12 = nI n := by
      rcases hg1 with rfl | rfl
      · exact h5
      · rw [up_other (by decide), up_other (by decide)]; exact h5
    have hrv : (if 0 < optI r then optI r else 0) = nI (r.getD 0) := by
      cases r with
      | none => rfl
      | some j =>
        have := hr j rfl
        show (if 0 < nI j then nI j else 0) = nI j
        by_cases e : j = 0
        · subst e; rfl
        · rw [if_pos (Int32.not_le.mp (nI_nle (by omega) (by omega)))]
    refine ⟨up g1 47 8 (nI (p + 1)), r.getD 0, ?_, ⟨up_self, by rw [up_slot (by decide)]; exact v9, (h3.mG f1).mG (tok_fr (n := 0)), by rw [up_slot (by decide)]; exact v12, by rw [up_other (by decide)]; exact v66, by omega, herr1.fr (up_slot (by decide)) (up_slot (by decide)) (up_other (by decide)) (up_ne (by decide))⟩, f1.trans (Nat.le_refl n) tok_fr, hmv, ?_⟩
    · unfold k11_name
      rw [is30, some_bind, if_neg (by decide), hk, some_bind]
      unfold k11_name_17 k11_name_28
      have ht := take_m1 hT v8 v9 hp (h3.mG f1) (s := 30) (c := 30) (by decide) rfl
      rw [if_pos h30] at ht
      by_cases e : optI r = -1
      · rw [if_pos e] at hmk ⊢
        rw [hmk, some_bind, ht, some_bind, bd_eq, hrv]
      · rw [if_neg e] at hmk ⊢
        obtain rfl : g = g1 := Option.some.inj hmk
        rw [ht, some_bind, bd_eq, hrv]
    · cases r with
      | none => exact Or.inr rfl
      | some j => exact Or.inl (hr j rfl)
  rcases h7 with ⟨a1, a2, a3, a4, a5⟩ | ⟨q, a1, a2, a3, a4, a5, M, x, b1, b2, b3⟩
  · have hk := known_m hB hT h1 hpK h3 a3 a4 a5
    have hk' : k11_known g = some (optI (mvO (sameN B ps sz) (ms kd nm p) p)) := hk
    obtain ⟨r, hm⟩ : ∃ r, mvO (sameN B ps sz) (ms kd nm p) p = r := ⟨_, rfl⟩
    cases r with
    | some j =>
      have hj : j < (ms kd nm p).1 := by have := fnd_lt _ _ _ hm; omega
      rw [hm] at hk' herr
      refine fin (some j) g (fun i hi => by have := Option.some.inj hi; omega) (Or.inl rfl) hk' (if_neg (show ¬ optI (some j) = -1 from nI_nm1 (j := j) (by omega))) (Or.inl ⟨noErr_s a1 (by rw [herr]; rfl), a2, by rw [hms]; exact a3, by rw [hms]; exact a4, by rw [hms]; exact a5⟩) (fun _ => hm)
    | none =>
      rw [hm] at hk' herr
      have he3 : errT kd nm (sameN B ps sz) (ms kd nm p) p = 3 := by rw [herr]; rfl
      refine fin none (up (up g 47 10 3) 47 11 (nI p)) (fun i hi => by cases hi) (Or.inr rfl) hk' ?_ (Or.inr ⟨p, by omega, a1, by rw [he3]; decide, ?_, up_self, (ms kd nm p).1, (ms kd nm p).2.1, a4, by rw [up_other (by decide), up_other (by decide)]; exact a3, fun j hj => by rw [up_other (by decide), up_other (by decide)]; exact a5 j hj⟩) (fun z => ?_)
      · rw [if_pos (show optI none = -1 from rfl), mark_m h1 h2, if_pos a2]
      · rw [he3, up_slot (by decide), up_self]; rfl
      · have := z p (by omega)
        rw [he3] at this; cases this
  · have hk := known_m hB hT h1 hpK h3 b2 b1 b3
    have hr : ∀ j, fnd (sameN B ps sz) x p M 0 = some j → j < 10 := fun j hj => by have := fnd_lt _ _ _ hj; omega
    have hne : ¬ g 47 10 = 0 := by
      rw [a4]
      exact nI_ne0 (by omega) (by have := errT_le (kd := kd) (nm := nm) (sm := sameN B ps sz) (st := ms kd nm q) (i := q); omega)
    refine fin (fnd (sameN B ps sz) x p M 0) g hr (Or.inl rfl) hk ?_ (Or.inr ⟨q, by omega, a2, a3, a4, a5, M, x, b1, b2, b3⟩) (fun z => absurd (z q (by omega)) a3)
    by_cases e : optI (fnd (sameN B ps sz) x p M 0) = -1
    · rw [if_pos e, mark_m h1 h2, if_neg hne]
    · rw [if_neg e]
end TK
