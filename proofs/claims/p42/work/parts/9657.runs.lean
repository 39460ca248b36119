/-! runs over words -/
def Rn (W : List Int32) (J : List It) (g0 : G) (k : Nat) (s : Ab) (k' : Nat) (s' : Ab) : Prop := k ≤ k' ∧ ∀ g, MT W J g0 k s g → ∃ g', MT W J g0 k' s' g' ∧ ∀ f, k1_firstMistake_2 (f + (k' - k)) (nI k) g = k1_firstMistake_2 f (nI k') g'
theorem Rn.refl {W : List Int32} {J : List It} {g0 : G} {k : Nat} {s : Ab} : Rn W J g0 k s k s := ⟨Nat.le_refl _, fun g h => ⟨g, h, fun f => by rw [Nat.sub_self, Nat.add_zero]⟩⟩
theorem Rn.trans {W : List Int32} {J : List It} {g0 : G} {a b c : Nat} {s s' s2 : Ab} (h : Rn W J g0 a s b s') (h' : Rn W J g0 b s' c s2) : Rn W J g0 a s c s2 := ⟨Nat.le_trans h.1 h'.1, fun g hM => by
  obtain ⟨g1, a1, a2⟩ := h.2 g hM
  obtain ⟨g2, b1, b2⟩ := h'.2 g1 a1
  refine ⟨g2, b1, fun f => ?_⟩
  have h1 := h.1
  have h2 := h'.1
  rw [show f + (c - a) = (f + (c - b)) + (b - a) by omega, a2, b2]⟩
theorem Rn.one {W : List Int32} {J : List It} {g0 : G} {k : Nat} {s s' : Ab} (h : ES W J g0 k s s') (hk : k ≤ J.length) : Rn W J g0 k s (k + 1) s' := ⟨Nat.le_succ _, fun g hM => by
  obtain ⟨g1, e1, m1, m2, m3, m4, m5, m6, m7, m8, m9⟩ := h g hM
  have hJ := hM.1.2.2.1
  refine ⟨up g1 14 4 0, ⟨m1.up (by decide), m2.oth (by decide), m3.up (Or.inr (Or.inr (Or.inr (Or.inl rfl)))), m4.oth (by decide) (Or.inl (by decide)), m5.oth (by decide), m6.oth (by decide), by rw [up_other (by decide)]; exact m7, by rw [up_other (by decide)]; exact m8, by rw [up_other (by decide)]; exact m9⟩, fun f => ?_⟩
  rw [show f + (k + 1 - k) = f + 1 by omega]
  have e := hM.1.2.1
  conv => lhs; unfold k1_firstMistake_2
  rw [e, if_neg (by rw [nI_leI (by omega) (by omega)]; omega), e1, some_bind, bd_eq, if_pos up_self, bd_eq, nI_1]⟩
theorem Rn.seg {W : List Int32} {J : List It} {g0 : G} {s : Ab} : ∀ n k, k + n ≤ J.length + 1 → (∀ q, k ≤ q → q < k + n → ES W J g0 q s s) → Rn W J g0 k s (k + n) s := by
  intro n
  induction n with
  | zero => intro k _ _; exact Rn.refl
  | succ n ih =>
    intro k hk h
    have := ih (k + 1) (by omega) (fun q h1 h2 => h q (by omega) (by omega))
    rw [show k + (n + 1) = k + 1 + n by omega]
    exact (Rn.one (h k (Nat.le_refl _) (by omega)) (by omega)).trans this
/-! the words of trees say nothing of their own -/
def hd146 : List It → Bool
  | y :: _ => y.1 == 146
  | [] => false
def okAb : List It → Bool
  | [] => true
  | x :: l => (!(decide (128 ≤ x.1) && decide (x.1 ≤ 132)) || hd146 l) && okAb l
def noOr (k : Nat) : Bool := !(k == 133 || k == 135 || k == 136 || k == 137 || k == 138)
def okWd (N : Nat) (x : It) : Prop := (x.1 = 2 → ∃ n, n < N ∧ x = nmI n) ∧ (x.1 = 3 → ∃ n, n < 1000000 ∧ x = numI n) ∧ noOr x.1 = true
def okLs (N : Nat) : List It → Prop
  | [] => True
  | x :: l => okWd N x ∧ okLs N l
theorem okWd_tok {N k : Nat} (h : (noOr k && !(k == 2 || k == 3)) = true) : okWd N (tok k) := by
  have h1 : noOr k = true := (Bool.and_eq_true _ _ ▸ h).1
  have h2 : (!(k == 2 || k == 3)) = true := (Bool.and_eq_true _ _ ▸ h).2
  refine ⟨fun e => ?_, fun e => ?_, by rw [tok_1]; exact h1⟩
  · rw [tok_1] at e
    rw [e] at h2
    cases h2
  · rw [tok_1] at e
    rw [e] at h2
    cases h2
theorem okWd_nm {N n : Nat} (h : n < N) : okWd N (nmI n) := ⟨fun _ => ⟨n, h, rfl⟩, (fun e => by cases e), rfl⟩
theorem okWd_num {N n : Nat} (h : n < 1000000) : okWd N (numI n) := ⟨(fun e => by cases e), fun _ => ⟨n, h, rfl⟩, rfl⟩
def RI (N : Nat) (I : List It) : Prop := okAb (ns I) = true ∧ okLs N (ns I)
theorem okAb_app : ∀ a b, okAb a = true → okAb b = true → okAb (a ++ b) = true := by
  intro a
  induction a with
  | nil => intro b _ h; exact h
  | cons x l ih =>
    intro b h h'
    have h : ((!(decide (128 ≤ x.1) && decide (x.1 ≤ 132)) || hd146 l) && okAb l) = true := h
    rw [Bool.and_eq_true] at h
    show ((!(decide (128 ≤ x.1) && decide (x.1 ≤ 132)) || hd146 (l ++ b)) && okAb (l ++ b)) = true
    rw [Bool.and_eq_true]
    refine ⟨?_, ih b h.2 h'⟩
    cases l with
    | nil =>
      have h1 := h.1
      rw [Bool.or_eq_true] at h1 ⊢
      rcases h1 with z | z
      · exact Or.inl z
      · cases z
    | cons y l => exact h.1
theorem okLs_app {N : Nat} : ∀ a b, okLs N a → okLs N b → okLs N (a ++ b) := by
  intro a
  induction a with
  | nil => intro b _ h; exact h
  | cons x l ih => intro b h h'; exact ⟨h.1, ih b h.2 h'⟩
theorem RI.app {N : Nat} {a b : List It} (h : RI N a) (h' : RI N b) : RI N (a ++ b) := by
  unfold RI
  rw [ns_app]
  exact ⟨okAb_app _ _ h.1 h'.1, okLs_app _ _ h.2 h'.2⟩
theorem okLs_at {N : Nat} : ∀ (T : List It) (i : Nat) (x : It), okLs N T → T[i]? = some x → okWd N x := by
  intro T
  induction T with
  | nil => intro i x _ h; simp at h
  | cons y l ih =>
    intro i x h hx
    cases i with
    | zero =>
      have : y = x := by simpa using hx
      rw [← this]; exact h.1
    | succ i => exact ih i x h.2 (by simpa using hx)
theorem okAb_at : ∀ (T : List It) (i : Nat) (x : It), okAb T = true → T[i]? = some x → 128 ≤ x.1 → x.1 ≤ 132 → ∃ y, T[i + 1]? = some y ∧ y.1 = 146 := by
  intro T
  induction T with
  | nil => intro i x _ h; simp at h
  | cons y l ih =>
    intro i x h hx h1 h2
    have h : ((!(decide (128 ≤ y.1) && decide (y.1 ≤ 132)) || hd146 l) && okAb l) = true := h
    rw [Bool.and_eq_true] at h
    cases i with
    | zero =>
      have e : y = x := by simpa using hx
      rw [e] at h
      have h3 := h.1
      rw [decide_eq_true h1, decide_eq_true h2] at h3
      cases l with
      | nil => cases h3
      | cons z l =>
        have h3 : (z.1 == 146) = true := h3
        exact ⟨z, rfl, by simpa using h3⟩
    | succ i =>
      obtain ⟨z, z1, z2⟩ := ih i x h.2 (by simpa using hx) h1 h2
      exact ⟨z, by simpa using z1, z2⟩
theorem PX.ri {N : Nat} (hN : N ≤ 10) : ∀ d b l i, PX N d b l i → RI N i := by
  intro d
  induction d with
  | zero => intro b l i h; exact h.elim
  | succ d ih =>
    intro b l i h
    obtain ⟨s, ⟨hf, n, h1, -, h3, rfl⟩ | ⟨hf, l1, i1, ht, -, rfl⟩ | ⟨hf, l1, l2, i1, i2, ht, hu, -, rfl⟩⟩ := h
    · have hn := leaf_n hN hf h1 h3
      have hsv : s = 0 ∨ s = 1 ∨ s = 2 ∨ s = 3 ∨ s = 4 ∨ s = 5 ∨ s = 6 ∨ s = 7 ∨ s = 8 ∨ s = 21 ∨ s = 22 := by
        have hf2 := hf
        unfold isLf at hf2
        rcases hf2 with ⟨-, z⟩ | ⟨-, z⟩ <;> omega
      rcases hsv with rfl | rfl | rfl | rfl | rfl | rfl | rfl | rfl | rfl | rfl | rfl
      · exact ⟨rfl, okWd_num h1, trivial⟩
      · exact ⟨rfl, okWd_tok (k := 140) rfl, trivial⟩
      · exact ⟨rfl, okWd_tok (k := 141) rfl, trivial⟩
      · exact ⟨rfl, okWd_tok (k := 142) rfl, trivial⟩
      · exact ⟨rfl, okWd_tok (k := 130) rfl, okWd_tok (k := 146) rfl, okWd_nm (hn (by decide) (by decide)), trivial⟩
      · exact ⟨rfl, okWd_tok (k := 129) rfl, okWd_tok (k := 146) rfl, okWd_nm (hn (by decide) (by decide)), trivial⟩
      · exact ⟨rfl, okWd_tok (k := 145) rfl, okWd_tok (k := 146) rfl, okWd_nm (hn (by decide) (by decide)), trivial⟩
      · exact ⟨rfl, okWd_tok (k := 143) rfl, okWd_tok (k := 146) rfl, okWd_nm (hn (by decide) (by decide)), trivial⟩
      · exact ⟨rfl, okWd_tok (k := 144) rfl, okWd_tok (k := 146) rfl, okWd_nm (hn (by decide) (by decide)), trivial⟩
      · exact ⟨rfl, okWd_tok (k := 147) rfl, trivial⟩
      · exact ⟨rfl, okWd_tok (k := 148) rfl, okWd_nm (hn (by decide) (by decide)), trivial⟩
    · have hu : RI N (unI s) := by
        have hs : s = 9 ∨ s = 23 := by unfold isUn at hf; omega
        rcases hs with rfl | rfl
        · exact ⟨rfl, okWd_tok (k := 45) rfl, trivial⟩
        · exact ⟨rfl, okWd_tok (k := 149) rfl, trivial⟩
      exact hu.app (ih _ _ _ ht)
    · have hs : s = 10 ∨ s = 11 ∨ s = 12 ∨ s = 13 ∨ s = 14 ∨ s = 15 ∨ s = 16 ∨ s = 17 ∨ s = 18 ∨ s = 19 ∨ s = 20 ∨ s = 24 ∨ s = 25 := by
        unfold isBi at hf
        rcases hf with ⟨-, z⟩ | ⟨-, z⟩ <;> omega
      have a1 : RI N (biL s) := by
        rcases hs with rfl | rfl | rfl | rfl | rfl | rfl | rfl | rfl | rfl | rfl | rfl | rfl | rfl
        · exact ⟨rfl, okWd_tok (k := 152) rfl, okWd_tok (k := 40) rfl, trivial⟩
        · exact ⟨rfl, okWd_tok (k := 153) rfl, okWd_tok (k := 40) rfl, trivial⟩
        · exact ⟨rfl, okWd_tok (k := 40) rfl, trivial⟩
        · exact ⟨rfl, okWd_tok (k := 40) rfl, trivial⟩
        · exact ⟨rfl, okWd_tok (k := 40) rfl, trivial⟩
        · exact ⟨rfl, okWd_tok (k := 40) rfl, trivial⟩
        · exact ⟨rfl, trivial⟩
        · exact ⟨rfl, trivial⟩
        · exact ⟨rfl, trivial⟩
        · exact ⟨rfl, trivial⟩
        · exact ⟨rfl, trivial⟩
        · exact ⟨rfl, okWd_tok (k := 91) rfl, trivial⟩
        · exact ⟨rfl, okWd_tok (k := 91) rfl, trivial⟩
      have a2 : RI N (biM s) := by
        rcases hs with rfl | rfl | rfl | rfl | rfl | rfl | rfl | rfl | rfl | rfl | rfl | rfl | rfl
        · exact ⟨rfl, okWd_tok (k := 44) rfl, trivial⟩
        · exact ⟨rfl, okWd_tok (k := 44) rfl, trivial⟩
        · exact ⟨rfl, okWd_tok (k := 43) rfl, trivial⟩
        · exact ⟨rfl, okWd_tok (k := 45) rfl, trivial⟩
        · exact ⟨rfl, okWd_tok (k := 42) rfl, trivial⟩
        · exact ⟨rfl, okWd_tok (k := 47) rfl, trivial⟩
        · exact ⟨rfl, okWd_tok (k := 60) rfl, trivial⟩
        · exact ⟨rfl, okWd_tok (k := 62) rfl, trivial⟩
        · exact ⟨rfl, okWd_tok (k := 61) rfl, trivial⟩
        · exact ⟨rfl, okWd_tok (k := 4) rfl, trivial⟩
        · exact ⟨rfl, okWd_tok (k := 5) rfl, trivial⟩
        · exact ⟨rfl, okWd_tok (k := 150) rfl, trivial⟩
        · exact ⟨rfl, okWd_tok (k := 151) rfl, trivial⟩
      have a3 : RI N (biR s) := by
        rcases hs with rfl | rfl | rfl | rfl | rfl | rfl | rfl | rfl | rfl | rfl | rfl | rfl | rfl
        · exact ⟨rfl, okWd_tok (k := 41) rfl, trivial⟩
        · exact ⟨rfl, okWd_tok (k := 41) rfl, trivial⟩
        · exact ⟨rfl, okWd_tok (k := 41) rfl, trivial⟩
        · exact ⟨rfl, okWd_tok (k := 41) rfl, trivial⟩
        · exact ⟨rfl, okWd_tok (k := 41) rfl, trivial⟩
        · exact ⟨rfl, okWd_tok (k := 41) rfl, trivial⟩
        · exact ⟨rfl, trivial⟩
        · exact ⟨rfl, trivial⟩
        · exact ⟨rfl, trivial⟩
        · exact ⟨rfl, trivial⟩
        · exact ⟨rfl, trivial⟩
        · exact ⟨rfl, okWd_tok (k := 93) rfl, trivial⟩
        · exact ⟨rfl, okWd_tok (k := 93) rfl, trivial⟩
      exact a1.app ((ih _ _ _ ht).app (a2.app ((ih _ _ _ hu).app a3)))
