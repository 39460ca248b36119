/-! teach: the class's first mistake; what is told of parts of a train -/
theorem errT_le {kd nm : Nat → Nat} {sm : Nat → Nat → Bool} {st : MS} {i : Nat} : errT kd nm sm st i ≤ 5 := by
  unfold errT
  repeat' split
  all_goals omega
def noErr (kd nm : Nat → Nat) (sm : Nat → Nat → Bool) (p : Nat) : Prop := ∀ i, i < p → errT kd nm sm (ms kd nm i) i = 0
section TK
variable {T K : Nat} {B : Nat → Int32} {kd ps sz nm : Nat → Nat}
theorem mean_loop (hB : Bok T B) (hT : Toks T 0 K kd ps sz nm) : ∀ (d i f : Nat) (g : G), K + 1 = i + d → d < f → noErr kd nm (sameN B ps sz) i → MR T K B kd ps sz nm i g → (∃ q g', q ≤ K ∧ noErr kd nm (sameN B ps sz) q ∧ errT kd nm (sameN B ps sz) (ms kd nm q) q ≠ 0 ∧ k1_firstMistake_2 f (nI i) g = some (nI q, g') ∧ g' 14 4 = nI (errT kd nm (sameN B ps sz) (ms kd nm q) q) ∧ mF g g') ∨ (noErr kd nm (sameN B ps sz) (K + 1) ∧ ∃ g', k1_firstMistake_2 f (nI i) g = some (-1, g') ∧ mF g g' ∧ MR T K B kd ps sz nm (K + 1) g') := by
  have hK := hT.2.1
  intro d
  induction d with
  | zero =>
    intro i f g hd hf hno h
    obtain ⟨f, rfl⟩ : ∃ z, f = z + 1 := ⟨f - 1, by omega⟩
    obtain rfl : i = K + 1 := by omega
    refine Or.inr ⟨hno, g, ?_, mF.refl, h⟩
    unfold k1_firstMistake_2
    rw [h.1.2.1, if_pos (by rw [nI_leI (by omega) (by omega)]; omega)]
  | succ d ih =>
    intro i f g hd hf hno h
    obtain ⟨f, rfl⟩ : ∃ z, f = z + 1 := ⟨f - 1, by omega⟩
    obtain ⟨g1, e1, e2, e3⟩ := mean_step hB hT (show i ≤ K by omega) h
    have hle := errT_le (kd := kd) (nm := nm) (sm := sameN B ps sz) (st := ms kd nm i) (i := i)
    have fr : ∀ v, mF g (up g1 14 4 v) := fun v => ⟨fun a a1 a2 a3 a4 a5 a6 => (up_ne a5).trans (e2.1 a a1 a2 a3 a4 a5 a6), fun k hk => (up_other (by decide)).trans (e2.2 k hk)⟩
    by_cases e : errT kd nm (sameN B ps sz) (ms kd nm i) i = 0
    · have hstep : k1_firstMistake_2 (f + 1) (nI i) g = k1_firstMistake_2 f (nI (i + 1)) (up g1 14 4 0) := by
        conv => lhs; unfold k1_firstMistake_2
        rw [h.1.2.1, if_neg (by rw [nI_leI (by omega) (by omega)]; omega), e1, some_bind, bd_eq, e, if_pos (by rw [up_self]; rfl), bd_eq, nI_1]
        rfl
      have hno' : noErr kd nm (sameN B ps sz) (i + 1) := by
        intro j hj
        by_cases q : j = i
        · subst q; exact e
        · exact hno j (by omega)
      rw [hstep]
      rcases ih (i + 1) f (up g1 14 4 0) (by omega) (by omega) hno' (e3 e) with ⟨q, g', a1, a2, a3, a4, a5, a6⟩ | ⟨a1, g', a2, a3, a4⟩
      · exact Or.inl ⟨q, g', a1, a2, a3, a4, a5, (fr 0).trans a6⟩
      · exact Or.inr ⟨a1, g', a2, (fr 0).trans a3, a4⟩
    · refine Or.inl ⟨i, up g1 14 4 (nI (errT kd nm (sameN B ps sz) (ms kd nm i) i)), by omega, hno, e, ?_, up_self, fr _⟩
      unfold k1_firstMistake_2
      rw [h.1.2.1, if_neg (by rw [nI_leI (by omega) (by omega)]; omega), e1, some_bind, bd_eq, if_neg (by rw [up_self]; exact nI_ne0 (by omega) (by omega))]
theorem meaning_c {g : G} (hB : Bok T B) (hT : Toks T 0 K kd ps sz nm) (h : MR T K B kd ps sz nm 0 g) : (∃ q g', q ≤ K ∧ noErr kd nm (sameN B ps sz) q ∧ errT kd nm (sameN B ps sz) (ms kd nm q) q ≠ 0 ∧ k1_firstMistake g = some (nI q, g') ∧ g' 14 4 = nI (errT kd nm (sameN B ps sz) (ms kd nm q) q) ∧ mF g g') ∨ (noErr kd nm (sameN B ps sz) (K + 1) ∧ ∃ g', k1_firstMistake g = some (-1, g') ∧ mF g g' ∧ MR T K B kd ps sz nm (K + 1) g') := mean_loop hB hT (K + 1) 0 FU g (by omega) (by have := hT.2.1; unfold FU; omega) (fun i hi => absurd hi (by omega)) h
end TK
/-! stacks of nodes -/
/-- the nodes that are being told -/
def nv (g : G) : G := fun a => g (a + 12)
theorem stk_s (g : G) (d j : Nat) (st : List Nat) : stkRun g (d + 1) j st = if ariOf (g 63 j).toNatClampNeg = 0 then stkRun g d (j + 1) (j :: st) else if ariOf (g 63 j).toNatClampNeg = 1 then
      (match st with
       | a :: st => if g 64 j = nI a then stkRun g d (j + 1) (j :: st) else none
       | [] => none)
    else
      (match st with
       | b :: a :: st => if g 64 j = nI a ∧ g 65 j = nI b then stkRun g d (j + 1) (j :: st) else none
       | _ => none) := rfl
theorem stk_add (g : G) : ∀ (d1 d2 j : Nat) (st : List Nat), stkRun g (d1 + d2) j st = (stkRun g d1 j st).bind fun st' => stkRun g d2 (j + d1) st' := by
  intro d1
  induction d1 with
  | zero => intro d2 j st; rw [Nat.zero_add]; rfl
  | succ d1 ih =>
    intro d2 j st
    rw [show d1 + 1 + d2 = (d1 + d2) + 1 by omega]
    have hj : j + (d1 + 1) = j + 1 + d1 := by omega
    rw [hj, stk_s, stk_s]
    split
    · exact ih d2 (j + 1) _
    · split
      · cases st with
        | nil => rfl
        | cons a st =>
          dsimp only
          split
          · exact ih d2 (j + 1) _
          · rfl
      · cases st with
        | nil => rfl
        | cons b st =>
          cases st with
          | nil => rfl
          | cons a st =>
            dsimp only
            split
            · exact ih d2 (j + 1) _
            · rfl
theorem stk_congr {g g' : G} : ∀ (d j : Nat) (st : List Nat), (∀ a i, 63 ≤ a → a ≤ 65 → j ≤ i → i < j + d → g' a i = g a i) → stkRun g' d j st = stkRun g d j st := by
  intro d
  induction d with
  | zero => intro j st _; rfl
  | succ d ih =>
    intro j st h
    have ih' : ∀ st, stkRun g' d (j + 1) st = stkRun g d (j + 1) st := fun st => ih (j + 1) st (fun a i a1 a2 i1 i2 => h a i a1 a2 (by omega) (by omega))
    unfold stkRun
    rw [h 63 j (by decide) (by decide) (by omega) (by omega), h 64 j (by decide) (by decide) (by omega) (by omega), h 65 j (by decide) (by decide) (by omega) (by omega)]
    simp only [ih']
section TK2
variable {K : Nat} {kd nm : Nat → Nat} {sm : Nat → Nat → Bool}
/-- a node and its step -/
def ndOK (K : Nat) (kd nm : Nat → Nat) (sm : Nat → Nat → Bool) (gG gm : G) (p b j : Nat) : Prop := ∃ s, s < 64 ∧ ariOf s < 3 ∧ gm 75 j = nI s ∧ gG 11 b = nI (stepOf s) ∧ (ofMirror s → ∃ tok, tok < p ∧ tok < K ∧ kd tok = 30 ∧ newB kd tok = false ∧ gG 12 b = nI tok ∧ (noErr kd nm sm (tok + 1) → ∃ m, mvO sm (ms kd nm tok) tok = some m ∧ gm 76 j = nI m)) ∧ (s = 31 → ∃ tok, tok < p ∧ tok < K ∧ kd tok = 31 ∧ gG 12 b = nI tok ∧ gm 76 j = nI (nm tok))
def SR (K : Nat) (kd nm : Nat → Nat) (sm : Nat → Nat → Bool) (L n p n' r : Nat) (gG gm : G) : Prop := n < n' ∧ r < n' ∧ (∀ j, n ≤ j → j < n' → ndOK K kd nm sm gG gm p (L + (j - n)) j) ∧ ∀ st, stkRun (nv gm) (n' - n) n st = some (r :: st)
/-- what later parts leave alone -/
def cG (L : Nat) (g g' : G) : Prop := (∀ a, a ≠ 8 → a ≠ 11 → a ≠ 12 → a ≠ 13 → g' a = g a) ∧ (∀ k, k ≠ 8 → g' 8 k = g 8 k) ∧ (∀ k, k ≠ 2 → g' 13 k = g 13 k) ∧ ∀ i, i < L → g' 11 i = g 11 i ∧ g' 12 i = g 12 i
def mG (n : Nat) (g g' : G) : Prop := (∀ a, a ≠ 47 → a ≠ 66 → a ≠ 75 → a ≠ 76 → a ≠ 77 → g' a = g a) ∧ (∀ k, k ≠ 12 → g' 66 k = g 66 k) ∧ (∀ k, k < 8 ∨ 12 < k → g' 47 k = g 47 k) ∧ ∀ a i, 75 ≤ a → a ≤ 77 → i < n → g' a i = g a i
theorem cG.refl {L : Nat} {g : G} : cG L g g := ⟨fun _ _ _ _ _ => rfl, fun _ _ => rfl, fun _ _ => rfl, fun _ _ => ⟨rfl, rfl⟩⟩
theorem mG.refl {n : Nat} {g : G} : mG n g g := ⟨fun _ _ _ _ _ _ => rfl, fun _ _ => rfl, fun _ _ => rfl, fun _ _ _ _ _ => rfl⟩
theorem cG.trans {L L' : Nat} {a b c : G} (hL : L ≤ L') (h : cG L a b) (h' : cG L' b c) : cG L a c := ⟨fun x x1 x2 x3 x4 => (h'.1 x x1 x2 x3 x4).trans (h.1 x x1 x2 x3 x4), fun k hk => (h'.2.1 k hk).trans (h.2.1 k hk), fun k hk => (h'.2.2.1 k hk).trans (h.2.2.1 k hk), fun i hi => ⟨(h'.2.2.2 i (by omega)).1.trans (h.2.2.2 i hi).1, (h'.2.2.2 i (by omega)).2.trans (h.2.2.2 i hi).2⟩⟩
theorem mG.trans {n n' : Nat} {a b c : G} (hn : n ≤ n') (h : mG n a b) (h' : mG n' b c) : mG n a c := ⟨fun x x1 x2 x3 x4 x5 => (h'.1 x x1 x2 x3 x4 x5).trans (h.1 x x1 x2 x3 x4 x5), fun k hk => (h'.2.1 k hk).trans (h.2.1 k hk), fun k hk => (h'.2.2.1 k hk).trans (h.2.2.1 k hk), fun x i x1 x2 hi => (h'.2.2.2 x i x1 x2 (by omega)).trans (h.2.2.2 x i x1 x2 hi)⟩
theorem ndOK.fr {gG gm gG' gm' : G} {p p' b j L n : Nat} (h : ndOK K kd nm sm gG gm p b j) (hp : p ≤ p') (hc : ∀ i, i < L → gG' 11 i = gG 11 i ∧ gG' 12 i = gG 12 i) (hm : ∀ a i, 75 ≤ a → a ≤ 77 → i < n → gm' a i = gm a i) (hb : b < L) (hj : j < n) : ndOK K kd nm sm gG' gm' p' b j := by
  obtain ⟨s, s1, s2, s3, s4, s5, s6⟩ := h
  refine ⟨s, s1, s2, by rw [hm 75 j (by decide) (by decide) hj]; exact s3, by rw [(hc b hb).1]; exact s4, fun q => ?_, fun q => ?_⟩
  · obtain ⟨tok, t1, t2, t3, t4, t5, t6⟩ := s5 q
    exact ⟨tok, by omega, t2, t3, t4, by rw [(hc b hb).2]; exact t5, fun z => by rw [hm 76 j (by decide) (by decide) hj]; exact t6 z⟩
  · obtain ⟨tok, t1, t2, t3, t4, t5⟩ := s6 q
    exact ⟨tok, by omega, t2, t3, by rw [(hc b hb).2]; exact t4, by rw [hm 76 j (by decide) (by decide) hj]; exact t5⟩
theorem SR.fr {gG gm gG' gm' : G} {L n p p' n' r : Nat} (h : SR K kd nm sm L n p n' r gG gm) (hp : p ≤ p') (hc : ∀ i, i < L + (n' - n) → gG' 11 i = gG 11 i ∧ gG' 12 i = gG 12 i) (hm : ∀ a i, 75 ≤ a → a ≤ 77 → i < n' → gm' a i = gm a i) : SR K kd nm sm L n p' n' r gG' gm' := by
  obtain ⟨h1, h2, h3, h4⟩ := h
  refine ⟨h1, h2, fun j j1 j2 => (h3 j j1 j2).fr hp hc hm (by omega) j2, fun st => ?_⟩
  rw [← h4 st]
  exact stk_congr _ _ _ (fun a i a1 a2 i1 i2 => hm (a + 12) i (by omega) (by omega) (by omega))
/-- a node at n', a step behind those that stand -/
def addN (n : Nat) (s l r : Int32) (g : G) : G := up (up (up (up g 75 n s) 76 n l) 77 n r) 66 12 (nI (n + 1))
def addS (L : Nat) (c v : Int32) (g : G) : G := up (up (up g 11 L c) 12 L v) 8 8 (nI (L + 1))
theorem addN_fr {n : Nat} {s l r : Int32} {g : G} : mG n g (addN n s l r g) := by
  unfold addN
  refine ⟨fun a a1 a2 a3 a4 a5 => ?_, fun k hk => ?_, fun k hk => ?_, fun a i a1 a2 hi => ?_⟩
  · rw [up_ne a2, up_ne a5, up_ne a4, up_ne a3]
  · rw [up_slot hk, up_other (by decide), up_other (by decide), up_other (by decide)]
  · rw [up_other (by decide), up_other (by decide), up_other (by decide), up_other (by decide)]
  · rw [up_other (by omega), up_app, up_app, up_app, if_neg (by omega), if_neg (by omega), if_neg (by omega)]
theorem addS_fr {L : Nat} {c v : Int32} {g : G} : cG L g (addS L c v g) := by
  unfold addS
  refine ⟨fun a a1 a2 a3 a4 => ?_, fun k hk => ?_, fun k hk => ?_, fun i hi => ⟨?_, ?_⟩⟩
  · rw [up_ne a1, up_ne a3, up_ne a2]
  · rw [up_slot hk, up_other (by decide), up_other (by decide)]
  · rw [up_other (by decide), up_other (by decide), up_other (by decide)]
  · rw [up_other (by decide), up_other (by decide), up_slot (by omega)]
  · rw [up_other (by decide), up_slot (by omega), up_other (by decide)]
theorem addN_v {n : Nat} {s l r : Int32} {g : G} : addN n s l r g 75 n = s ∧ addN n s l r g 76 n = l ∧ addN n s l r g 77 n = r ∧ addN n s l r g 66 12 = nI (n + 1) := by
  unfold addN
  refine ⟨?_, ?_, ?_, up_self⟩
  · rw [up_other (by decide), up_other (by decide), up_other (by decide), up_self]
  · rw [up_other (by decide), up_other (by decide), up_self]
  · rw [up_other (by decide), up_self]
theorem addS_v {L : Nat} {c v : Int32} {g : G} : addS L c v g 11 L = c ∧ addS L c v g 12 L = v ∧ addS L c v g 8 8 = nI (L + 1) := by
  unfold addS
  refine ⟨?_, ?_, up_self⟩
  · rw [up_other (by decide), up_other (by decide), up_self]
  · rw [up_other (by decide), up_self]
/-- the last node of a part: what stands at n, s and where the stack goes -/
theorem stk_one {g : G} {n s : Nat} {st st' : List Nat} (hs : s < 64) (h : g 63 n = nI s) (h0 : ariOf s = 0 → st' = n :: st) (h1 : ariOf s = 1 → ∃ a t, st = a :: t ∧ g 64 n = nI a ∧ st' = n :: t) (h2 : ariOf s = 2 → ∃ b a t, st = b :: a :: t ∧ g 64 n = nI a ∧ g 65 n = nI b ∧ st' = n :: t) (ha : ariOf s < 3) : stkRun g 1 n st = some st' := by
  unfold stkRun
  rw [h, nI_clamp (by omega)]
  rcases (show ariOf s = 0 ∨ ariOf s = 1 ∨ ariOf s = 2 by omega) with q | q | q
  · rw [q, if_pos rfl, h0 q]; rfl
  · obtain ⟨a, t, e1, e2, e3⟩ := h1 q
    rw [q, if_neg (by decide), if_pos rfl, e1, e3]
    dsimp only
    rw [if_pos e2]; rfl
  · obtain ⟨b, a, t, e1, e2, e3, e4⟩ := h2 q
    rw [q, if_neg (by decide), if_neg (by decide), e1, e4]
    dsimp only
    rw [if_pos ⟨e2, e3⟩]; rfl
theorem SR.leaf {gG gm : G} {L n p : Nat} (hn : ndOK K kd nm sm gG gm p L n) (h0 : ∀ s, gm 75 n = nI s → s < 64 → ariOf s = 0) : SR K kd nm sm L n p (n + 1) n gG gm := by
  refine ⟨by omega, by omega, fun j j1 j2 => ?_, fun st => ?_⟩
  · obtain rfl : j = n := by omega
    rw [Nat.sub_self]; exact hn
  · obtain ⟨s, s1, s2, s3, -⟩ := hn
    have a0 := h0 s s3 s1
    rw [show n + 1 - n = 1 by omega]
    exact stk_one (s := s) s1 s3 (fun _ => rfl) (fun q => by omega) (fun q => by omega) s2
theorem SR.una {gG gm : G} {L n p n1 r s : Nat} (h : SR K kd nm sm L n p n1 r gG gm) (hs : s < 64) (hs1 : ariOf s = 1) (hno : ¬ ofMirror s ∧ s ≠ 31) {v : Int32} : SR K kd nm sm L n p (n1 + 1) n1 (addS (L + (n1 - n)) (nI (stepOf s)) v gG) (addN n1 (nI s) (nI r) 0 gm) := by
  have c := (addS_fr (L := L + (n1 - n)) (c := nI (stepOf s)) (v := v) (g := gG)).2.2.2
  have m := (addN_fr (n := n1) (s := nI s) (l := nI r) (r := 0) (g := gm)).2.2.2
  obtain ⟨v1, v2, v3, -⟩ := addN_v (n := n1) (s := nI s) (l := nI r) (r := 0) (g := gm)
  obtain ⟨u1, u2, -⟩ := addS_v (L := L + (n1 - n)) (c := nI (stepOf s)) (v := v) (g := gG)
  obtain ⟨h1, h2, h3, h4⟩ := h.fr (Nat.le_refl p) c m
  refine ⟨by omega, by omega, fun j j1 j2 => ?_, fun st => ?_⟩
  · by_cases e : j = n1
    · subst e
      exact ⟨s, hs, by omega, v1, u1, fun q => absurd q hno.1, fun q => absurd q hno.2⟩
    · exact h3 j j1 (by omega)
  · rw [show n1 + 1 - n = (n1 - n) + 1 by omega, stk_add, h4 st]
    show stkRun _ 1 (n + (n1 - n)) (r :: st) = _
    rw [show n + (n1 - n) = n1 by omega]
    exact stk_one (s := s) hs v1 (fun q => by omega) (fun _ => ⟨r, st, rfl, v2, rfl⟩) (fun q => by omega) (by omega)
theorem SR.bin {gG gm gG2 gm2 : G} {L n p p2 n1 n2 r1 r2 s : Nat} (h : SR K kd nm sm L n p n1 r1 gG gm) (h' : SR K kd nm sm (L + (n1 - n)) n1 p2 n2 r2 gG2 gm2) (hp : p ≤ p2) (hc : cG (L + (n1 - n)) gG gG2) (hm : mG n1 gm gm2) (hs : s < 64) (hs2 : ariOf s = 2) (hno : ¬ ofMirror s ∧ s ≠ 31) {v : Int32} : SR K kd nm sm L n p2 (n2 + 1) n2 (addS (L + (n2 - n)) (nI (stepOf s)) v gG2) (addN n2 (nI s) (nI r1) (nI r2) gm2) := by
  have hn1 := h.1
  have hn2 := h'.1
  have c := (addS_fr (L := L + (n2 - n)) (c := nI (stepOf s)) (v := v) (g := gG2)).2.2.2
  have m := (addN_fr (n := n2) (s := nI s) (l := nI r1) (r := nI r2) (g := gm2)).2.2.2
  obtain ⟨v1, v2, v3, -⟩ := addN_v (n := n2) (s := nI s) (l := nI r1) (r := nI r2) (g := gm2)
  obtain ⟨u1, u2, -⟩ := addS_v (L := L + (n2 - n)) (c := nI (stepOf s)) (v := v) (g := gG2)
  obtain ⟨a1, a2, a3, a4⟩ := (h.fr hp hc.2.2.2 hm.2.2.2).fr (Nat.le_refl p2) (fun i hi => c i (by omega)) (fun a i x1 x2 hi => m a i x1 x2 (by omega))
  obtain ⟨b1, b2, b3, b4⟩ := h'.fr (Nat.le_refl p2) (fun i hi => c i (by omega)) m
  refine ⟨by omega, by omega, fun j j1 j2 => ?_, fun st => ?_⟩
  · by_cases e : j = n2
    · subst e
      exact ⟨s, hs, by omega, v1, u1, fun q => absurd q hno.1, fun q => absurd q hno.2⟩
    · by_cases e2 : j < n1
      · exact a3 j j1 e2
      · have := b3 j (by omega) (by omega)
        rw [show L + (n1 - n) + (j - n1) = L + (j - n) by omega] at this
        exact this
  · rw [show n2 + 1 - n = (n1 - n) + ((n2 - n1) + 1) by omega, stk_add, a4 st]
    show stkRun _ ((n2 - n1) + 1) (n + (n1 - n)) (r1 :: st) = _
    rw [show n + (n1 - n) = n1 by omega, stk_add, b4]
    show stkRun _ 1 (n1 + (n2 - n1)) (r2 :: r1 :: st) = _
    rw [show n1 + (n2 - n1) = n2 by omega]
    exact stk_one (s := s) hs v1 (fun q => by omega) (fun q => by omega) (fun _ => ⟨r2, r1, st, rfl, v2, v3, rfl⟩) (by omega)
end TK2
