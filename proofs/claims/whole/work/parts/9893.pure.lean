/-! teach: lines that tell numbers -/
/-- the error so far -/
def EO (kd nm : Nat → Nat) (sm : Nat → Nat → Bool) (p : Nat) (g : G) : Prop := (noErr kd nm sm p ∧ g 47 10 = 0) ∨ (∃ q, q < p ∧ noErr kd nm sm q ∧ errT kd nm sm (ms kd nm q) q ≠ 0 ∧ g 47 10 = nI (errT kd nm sm (ms kd nm q) q) ∧ g 47 11 = nI q)
def RW (T K : Nat) (B : Nat → Int32) (kd ps sz nm : Nat → Nat) (p : Nat) (g : G) : Prop := g 47 8 = nI p ∧ g 47 9 = 0 ∧ MT T K B kd ps sz nm g ∧ EO kd nm (sameN B ps sz) p g
/-- an order, as both parsers keep it -/
def ordD (K : Nat) (kd nm : Nat → Nat) (sm : Nat → Nat → Bool) (gG gm : G) (p k f f' b b' : Nat) : Prop := f ≤ f' ∧ gm 71 k = nI f ∧ gm 72 k = nI f' ∧ (∀ j, f ≤ j → j < f' → ndOK K kd nm sm gG gm p (b + (j - f)) j) ∧ ∃ (d m : Nat) (te su : Option Nat), d < 5 ∧ gm 69 k = nI d ∧ gm 70 k = nI m ∧ gm 74 k = optI te ∧ gm 73 k = optI su ∧ (su.isSome = true ↔ 3 ≤ d) ∧ stkRun (nv gm) (f' - f) f [] = some (te.toList ++ su.toList) ∧ b' = b + (f' - f) + (if te = none then 2 else 1) ∧ (te = none → gG 11 (b + (f' - f)) = 7) ∧ gG 11 (b' - 1) = nI (doStep d) ∧ ∃ tok, tok < p ∧ tok < K ∧ kd tok = 30 ∧ newB kd tok = false ∧ gG 12 (b' - 1) = nI tok ∧ (noErr kd nm sm (tok + 1) → mvO sm (ms kd nm tok) tok = some m)
def Lin (K : Nat) (kd nm : Nat → Nat) (sm : Nat → Nat → Bool) (p L n : Nat) (gG gm : G) : Prop :=
  gm 66 5 = nI (ms kd nm p).2.2.1 ∧ (ms kd nm p).2.2.1 ≤ 16 ∧ gm 66 1 = (ms kd nm p).2.2.2.1 ∧ gm 66 2 = (ms kd nm p).2.2.2.2.1 ∧ (∀ j, j < (ms kd nm p).1 → (ms kd nm p).2.2.2.2.2.1 j = some (gm 67 j) ∧ (ms kd nm p).2.2.2.2.2.2 j = some (gm 68 j) ∧ (0 ≤ gm 67 j ∧ gm 67 j ≤ 100) ∧ (-90 ≤ gm 68 j ∧ gm 68 j ≤ 90)) ∧ ∃ F C : Nat → Nat, F 0 = 0 ∧ C 0 = 0 ∧ F (ms kd nm p).2.2.1 = n ∧ C (ms kd nm p).2.2.1 = L ∧ ∀ k, k < (ms kd nm p).2.2.1 → ordD K kd nm sm gG gm p k (F k) (F (k + 1)) (C k) (C (k + 1))
def LnOK (T K : Nat) (B : Nat → Int32) (kd ps sz nm : Nat → Nat) (p L n : Nat) (gG gm : G) : Prop := PG T K B kd ps sz nm p L gG ∧ PM T K B kd ps sz nm p n 0 gm ∧ (∃ O, O ≤ 16 ∧ gm 66 5 = nI O) ∧ (noErr kd nm (sameN B ps sz) p → Lin K kd nm (sameN B ps sz) p L n gG gm)
def lC (g g' : G) : Prop := (∀ a, a ≠ 8 → a ≠ 11 → a ≠ 12 → a ≠ 13 → g' a = g a) ∧ (∀ k, k ≠ 8 → g' 8 k = g 8 k) ∧ (∀ k, k ≠ 2 → g' 13 k = g 13 k)
def lG (g g' : G) : Prop := (∀ a, a ≠ 47 → a ≠ 53 → a < 66 ∨ 77 < a → g' a = g a) ∧ ∀ k, k < 8 ∨ 12 < k → g' 47 k = g 47 k
theorem lC.refl {g : G} : lC g g := ⟨fun _ _ _ _ _ => rfl, fun _ _ => rfl, fun _ _ => rfl⟩
theorem lG.refl {g : G} : lG g g := ⟨fun _ _ _ _ => rfl, fun _ _ => rfl⟩
theorem lC.trans {a b c : G} (h : lC a b) (h' : lC b c) : lC a c := ⟨fun x x1 x2 x3 x4 => (h'.1 x x1 x2 x3 x4).trans (h.1 x x1 x2 x3 x4), fun k hk => (h'.2.1 k hk).trans (h.2.1 k hk), fun k hk => (h'.2.2 k hk).trans (h.2.2 k hk)⟩
theorem lG.trans {a b c : G} (h : lG a b) (h' : lG b c) : lG a c := ⟨fun x x1 x2 x3 => (h'.1 x x1 x2 x3).trans (h.1 x x1 x2 x3), fun k hk => (h'.2 k hk).trans (h.2 k hk)⟩
theorem cG.l {L : Nat} {g g' : G} (h : cG L g g') : lC g g' := ⟨h.1, h.2.1, h.2.2.1⟩
theorem mG.l {n : Nat} {g g' : G} (h : mG n g g') : lG g g' := ⟨fun a a1 a2 a3 => h.1 a a1 (by omega) (by omega) (by omega) (by omega), h.2.2.1⟩
theorem at_l {g : G} {p : Nat} : lC g (up g 13 2 (nI p)) := (at_fr (L := 0)).l
/-- only the reading goes on -/
def f47 (g g' : G) : Prop := (∀ a, a ≠ 47 → g' a = g a) ∧ ∀ k, k < 8 ∨ 11 < k → g' 47 k = g 47 k
theorem f47.refl {g : G} : f47 g g := ⟨fun _ _ => rfl, fun _ _ => rfl⟩
theorem f47.trans {a b c : G} (h : f47 a b) (h' : f47 b c) : f47 a c := ⟨fun x x1 => (h'.1 x x1).trans (h.1 x x1), fun k hk => (h'.2 k hk).trans (h.2 k hk)⟩
theorem f47.l {g g' : G} (h : f47 g g') : lG g g' := ⟨fun a a1 _ _ => h.1 a a1, fun k hk => h.2 k (by omega)⟩
theorem f47_tok {g : G} {v : Int32} : f47 g (up g 47 8 v) := ⟨fun a ha => up_ne ha, fun k hk => up_slot (by omega)⟩
theorem f47_wr {g : G} {p : Nat} : f47 g (wr p g) := by
  unfold wr
  exact ⟨fun a ha => by rw [up_ne ha, up_ne ha, up_ne ha], fun k hk => by rw [up_slot (by omega), up_slot (by omega), up_slot (by omega)]⟩
theorem f47_mark {g : G} {e : Int32} {p : Nat} : f47 g (if g 47 10 = 0 then up (up g 47 10 e) 47 11 (nI p) else g) := by
  by_cases h : g 47 10 = 0
  · rw [if_pos h]
    exact ⟨fun a ha => by rw [up_ne ha, up_ne ha], fun k hk => by rw [up_slot (by omega), up_slot (by omega)]⟩
  · rw [if_neg h]; exact f47.refl
section TK
variable {T K : Nat} {B : Nat → Int32} {kd ps sz nm : Nat → Nat}
theorem MT.f47 {g g' : G} (h : MT T K B kd ps sz nm g) (hf : f47 g g') : MT T K B kd ps sz nm g' := h.fr (fun a a1 a2 => hf.1 a (by omega)) (hf.2 2 (by omega))
theorem errOK.eo {g : G} {p : Nat} (h : errOK K kd nm (sameN B ps sz) p g) : EO kd nm (sameN B ps sz) p g := by
  rcases h with ⟨a1, a2, -⟩ | ⟨q, a1, a2, a3, a4, a5, -⟩
  · exact Or.inl ⟨a1, a2⟩
  · exact Or.inr ⟨q, a1, a2, a3, a4, a5⟩
theorem PM.rwm {g : G} {p n dep : Nat} (h : PM T K B kd ps sz nm p n dep g) : RW T K B kd ps sz nm p g := ⟨h.1, h.2.1, h.2.2.1, h.2.2.2.2.2.2.eo⟩
theorem EO.fr {g g' : G} {p : Nat} {sm : Nat → Nat → Bool} (h : EO kd nm sm p g) (h10 : g' 47 10 = g 47 10) (h11 : g' 47 11 = g 47 11) : EO kd nm sm p g' := by
  rcases h with ⟨a1, a2⟩ | ⟨q, a1, a2, a3, a4, a5⟩
  · exact Or.inl ⟨a1, by rw [h10]; exact a2⟩
  · exact Or.inr ⟨q, a1, a2, a3, by rw [h10]; exact a4, by rw [h11]; exact a5⟩
theorem EO.ok {g : G} {p : Nat} {sm : Nat → Nat → Bool} (h : EO kd nm sm p g) (he : errT kd nm sm (ms kd nm p) p = 0) : EO kd nm sm (p + 1) g := by
  rcases h with ⟨a1, a2⟩ | ⟨q, a1, a2⟩
  · exact Or.inl ⟨noErr_s a1 he, a2⟩
  · exact Or.inr ⟨q, by omega, a2⟩
/-- the mark of an error at p, if there is none ahead -/
theorem EO.mark {g : G} {p : Nat} {sm : Nat → Nat → Bool} {e : Int32} (h : EO kd nm sm p g) (he : errT kd nm sm (ms kd nm p) p ≠ 0) (hE : e = nI (errT kd nm sm (ms kd nm p) p)) : EO kd nm sm (p + 1) (if g 47 10 = 0 then up (up g 47 10 e) 47 11 (nI p) else g) := by
  rcases h with ⟨a1, a2⟩ | ⟨q, a1, a2, a3, a4, a5⟩
  · rw [if_pos a2]
    exact Or.inr ⟨p, by omega, a1, he, by rw [up_slot (by decide), up_self, hE], up_self⟩
  · have hle := errT_le (kd := kd) (nm := nm) (sm := sm) (st := ms kd nm q) (i := q)
    rw [if_neg (by rw [a4]; exact nI_ne0 (by omega) (by omega))]
    exact Or.inr ⟨q, by omega, a2, a3, a4, a5⟩
theorem RW.go {g : G} {p : Nat} (h : RW T K B kd ps sz nm p g) (he : errT kd nm (sameN B ps sz) (ms kd nm p) p = 0) : RW T K B kd ps sz nm (p + 1) (up g 47 8 (nI (p + 1))) := ⟨up_self, by rw [up_slot (by decide)]; exact h.2.1, h.2.2.1.f47 f47_tok, (h.2.2.2.ok he).fr (up_slot (by decide)) (up_slot (by decide))⟩
/-- a number that may be so great at the most -/
theorem num_m {g : G} {p c : Nat} {cl : Int32} (hT : Toks T 0 K kd ps sz nm) (h : RW T K B kd ps sz nm p g) (hp : p ≤ K) (h31 : kd p = 31) (hc : cl = nI c) (hc9 : c < 2 ^ 20) (he : errT kd nm (sameN B ps sz) (ms kd nm p) p = if nm p ≤ c then 0 else 5) : ∃ g', k11_numberTo cl g = some (nI (nm p), g') ∧ RW T K B kd ps sz nm (p + 1) g' ∧ f47 g g' := by
  have hK := hT.2.1
  have hp' := kdK hT hp h31 (by decide) (by decide)
  have hnm := (hT.2.2.1 p (by omega) hp').2.2
  obtain ⟨h1, h2, h3, h4⟩ := id h
  have i31 : k11_is 31 g = some 1 := by rw [is_m hT h1 h2 hp h3 (s := 31) (c := 31) (by decide) rfl, if_pos h31]
  unfold k11_numberTo k11_numberTo_29
  rw [h1, ld_n (by omega) (by omega), (h3.2.2 p (by omega) hp').2 h31, i31, some_bind, if_neg (by decide)]
  by_cases e : nm p ≤ c
  · rw [if_pos e] at he
    rw [if_pos ((le_lit hc (by omega) (by omega)).mpr e), take_m1 hT h1 h2 hp h3 (s := 31) (c := 31) (by decide) rfl, if_pos h31, some_bind]
    exact ⟨_, rfl, h.go he, f47_tok⟩
  · rw [if_neg e] at he
    have hmk := mark_m (e := 5) h1 h2
    have fm : f47 g (if g 47 10 = 0 then up (up g 47 10 5) 47 11 (nI p) else g) := f47_mark
    have v8 : (if g 47 10 = 0 then up (up g 47 10 5) 47 11 (nI p) else g) 47 8 = nI p := by
      split
      · rw [up_slot (by decide), up_slot (by decide)]; exact h1
      · exact h1
    have v9 : (if g 47 10 = 0 then up (up g 47 10 5) 47 11 (nI p) else g) 47 9 = 0 := by
      split
      · rw [up_slot (by decide), up_slot (by decide)]; exact h2
      · exact h2
    rw [if_neg (by rw [le_lit hc (by omega) (by omega)]; exact e), hmk, some_bind, take_m1 hT v8 v9 hp (h3.f47 fm) (s := 31) (c := 31) (by decide) rfl, if_pos h31, some_bind]
    refine ⟨_, rfl, ⟨up_self, by rw [up_slot (by decide)]; exact v9, (h3.f47 fm).f47 f47_tok, ?_⟩, fm.trans f47_tok⟩
    exact (h4.mark (by rw [he]; decide) (e := 5) (by rw [he]; rfl)).fr (up_slot (by decide)) (up_slot (by decide))
theorem num_bad {g : G} {p : Nat} {cl : Int32} (hT : Toks T 0 K kd ps sz nm) (h8 : g 47 8 = nI p) (h9 : g 47 9 = 0) (hp : p ≤ K) (h : MT T K B kd ps sz nm g) (h31 : kd p ≠ 31) : k11_numberTo cl g = some (g 50 p, wr p g) := by
  have hK := hT.2.1
  unfold k11_numberTo k11_numberTo_29
  rw [h8, ld_n (by omega) (by omega), is_m hT h8 h9 hp h (s := 31) (c := 31) (by decide) rfl, if_neg h31, some_bind, if_pos rfl, take_m1 hT h8 h9 hp h (s := 31) (c := 31) (by decide) rfl, if_neg h31, some_bind]
theorem num_w {g : G} {q : Nat} {cl : Int32} (h : WM q g) (hq : q ≤ 400) : k11_numberTo cl g = some (g 50 q, g) := by
  unfold k11_numberTo k11_numberTo_29
  rw [h.2.1, ld_n (by omega) (by omega), is_w h.1, some_bind, if_pos rfl, take_w h.1, some_bind]
theorem WM.f {g g' : G} {q : Nat} (h : WM q g) (hf : g' 47 = g 47) : WM q g' := by
  unfold WM
  rw [hf]; exact h
/-- what a line may come to -/
def LineOut (T K : Nat) (B : Nat → Int32) (kd ps sz nm : Nat → Nat) (x : Option (Int32 × G)) (y : Option G) (p : Nat) (gG gm : G) : Prop :=
  (∃ gG' gm' p' L' n', x = some (1, gG') ∧ y = some gm' ∧ p < p' ∧ LnOK T K B kd ps sz nm p' L' n' gG' gm' ∧ lC gG gG' ∧ lG gm gm') ∨
  (∃ gG' gm' q, x = some (0, gG') ∧ y = some gm' ∧ q ≤ K ∧ gG' 13 2 = nI q ∧ WM q gm' ∧ lC gG gG' ∧ lG gm gm')
theorem ordD.fr {gG gm gG' gm' : G} {p p' k f f' b b' L n : Nat} (h : ordD K kd nm (sameN B ps sz) gG gm p k f f' b b') (hp : p ≤ p') (hf : f' ≤ n) (hb : b' ≤ L) (hc : ∀ i, i < L → gG' 11 i = gG 11 i ∧ gG' 12 i = gG 12 i) (hm : ∀ a i, 75 ≤ a → a ≤ 77 → i < n → gm' a i = gm a i) (hk : ∀ a, 69 ≤ a → a ≤ 74 → gm' a k = gm a k) : ordD K kd nm (sameN B ps sz) gG' gm' p' k f f' b b' := by
  obtain ⟨h1, h2, h3, h4, d, m, te, su, b1, b2, b3, b4, b5, b6, b7, b8, b9, b10, tok, t1, t2, t3, t4, t5, t6⟩ := h
  have hbb : b + (f' - f) + 1 ≤ b' := by
    rw [b8]
    split <;> omega
  refine ⟨h1, by rw [hk 71 (by decide) (by decide)]; exact h2, by rw [hk 72 (by decide) (by decide)]; exact h3, fun j j1 j2 => (h4 j j1 j2).fr hp hc hm (by omega) (by omega), d, m, te, su, b1, by rw [hk 69 (by decide) (by decide)]; exact b2, by rw [hk 70 (by decide) (by decide)]; exact b3, by rw [hk 74 (by decide) (by decide)]; exact b4, by rw [hk 73 (by decide) (by decide)]; exact b5, b6, ?_, b8, fun z => ?_, by rw [(hc _ (by omega)).1]; exact b10, tok, by omega, t2, t3, t4, by rw [(hc _ (by omega)).2]; exact t5, t6⟩
  · rw [← b7]
    exact stk_congr _ _ _ (fun a i a1 a2 i1 i2 => hm (a + 12) i (by omega) (by omega) (by omega))
  · rw [(hc _ (by omega)).1]; exact b9 z
theorem Lin.ordMono {gG gm : G} {p : Nat} {F C : Nat → Nat} {O : Nat} (h : ∀ k, k < O → ordD K kd nm (sameN B ps sz) gG gm p k (F k) (F (k + 1)) (C k) (C (k + 1))) : (∀ k, k ≤ O → F k ≤ F O) ∧ ∀ k, k ≤ O → C k ≤ C O := by
  have hF : ∀ k, k < O → F k ≤ F (k + 1) := fun k hk => (h k hk).1
  have hC : ∀ k, k < O → C k ≤ C (k + 1) := by
    intro k hk
    obtain ⟨h1, h2, h3, h4, d, m, te, su, b1, b2, b3, b4, b5, b6, b7, b8, -⟩ := h k hk
    rw [b8]
    omega
  exact ⟨fun k hk => by
    have := mono_le hF (O - k) k (by omega)
    rw [show k + (O - k) = O by omega] at this
    exact this, fun k hk => by
    have := mono_le hC (O - k) k (by omega)
    rw [show k + (O - k) = O by omega] at this
    exact this⟩
/-- nothing of the orders is changed -/
theorem ords_fr {gG gm gG' gm' : G} {p p' L n O : Nat} (hp : p ≤ p') (h : ∃ F C : Nat → Nat, F 0 = 0 ∧ C 0 = 0 ∧ F O = n ∧ C O = L ∧ ∀ k, k < O → ordD K kd nm (sameN B ps sz) gG gm p k (F k) (F (k + 1)) (C k) (C (k + 1))) (hc : ∀ i, i < L → gG' 11 i = gG 11 i ∧ gG' 12 i = gG 12 i) (hm : ∀ a i, 75 ≤ a → a ≤ 77 → i < n → gm' a i = gm a i) (hk : ∀ a k, 69 ≤ a → a ≤ 74 → k < O → gm' a k = gm a k) : ∃ F C : Nat → Nat, F 0 = 0 ∧ C 0 = 0 ∧ F O = n ∧ C O = L ∧ ∀ k, k < O → ordD K kd nm (sameN B ps sz) gG' gm' p' k (F k) (F (k + 1)) (C k) (C (k + 1)) := by
  obtain ⟨F, C, h1, h2, h3, h4, h5⟩ := h
  obtain ⟨m1, m2⟩ := Lin.ordMono h5
  refine ⟨F, C, h1, h2, h3, h4, fun k hk0 => (h5 k hk0).fr hp ?_ ?_ hc hm (fun a a1 a2 => hk a k a1 a2 hk0)⟩
  · have := m1 (k + 1) hk0; omega
  · have := m2 (k + 1) hk0; omega
end TK
