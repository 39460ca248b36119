/-! the law's store: rows about its words -/
def OB (S : ZS) (c pos : Nat) : Prop := c % 2 = 1 ∧ c / 2 < S.n ∧ S.K (c / 2) = pos
def AR (S : ZS) (c base n : Nat) : Prop := c % 2 = 1 ∧ c / 2 < S.n ∧ S.K (c / 2) = base + n ∧ n < 100000
theorem OB.ok {S : ZS} {c pos : Nat} (h : OB S c pos) : okO S c pos = true := by
  obtain ⟨h1, h2, h3⟩ := h
  unfold okO
  simp [h1, h2, h3]
theorem AR.ok {S : ZS} {c base n : Nat} (h : AR S c base n) : okA S c base = true := by
  obtain ⟨h1, h2, h3, h4⟩ := h
  unfold okA
  simp only [Bool.and_eq_true, beq_iff_eq, decide_eq_true_eq]
  exact ⟨⟨⟨h1, h2⟩, by omega⟩, by omega⟩
theorem AR.inn {S : ZS} {c base n j : Nat} (h : AR S c base n) (hj : j < n) : inA S c base (nI j) = true ∧ (nI j).toNatClampNeg = j := by
  have hc : (nI j).toNatClampNeg = j := nI_clamp (by have := h.2.2.2; omega)
  refine ⟨?_, hc⟩
  unfold inA
  simp only [Bool.and_eq_true, decide_eq_true_eq]
  refine ⟨h.ok, ?_⟩
  rw [hc, h.2.2.1]
  rintro (z | z)
  · exact nI_pos (by have := h.2.2.2; omega) z
  · omega
theorem gI_o {ρ : Type} {S : ZS} {c pos k : Nat} {f : Int32 → Option ρ} (h : OB S c pos) : gI S c pos k f = f (S.i (c / 2) k) := if_pos h.ok
theorem gN_o {ρ : Type} {S : ZS} {c pos k : Nat} {f : Nat → Option ρ} (h : OB S c pos) (h0 : S.r (c / 2) k ≠ 0) : gN S c pos k f = f (S.r (c / 2) k) := if_pos ⟨h.ok, h0⟩
theorem gV_0 {ρ : Type} {S : ZS} {c pos k : Nat} {x : Option ρ} {f : Nat → Option ρ} (h : OB S c pos) (h0 : S.r (c / 2) k = 0) : gV S c pos k x f = x := by
  unfold gV
  rw [if_pos h.ok, if_pos h0]
theorem gV_1 {ρ : Type} {S : ZS} {c pos k : Nat} {x : Option ρ} {f : Nat → Option ρ} (h : OB S c pos) (h0 : S.r (c / 2) k ≠ 0) : gV S c pos k x f = f (S.r (c / 2) k) := by
  unfold gV
  rw [if_pos h.ok, if_neg h0]
theorem pI_o {ρ : Type} {S : ZS} {c pos k : Nat} {v : Int32} {f : ZS → Option ρ} (h : OB S c pos) : pI S c pos k v f = f (S.wi (c / 2) k v) := if_pos h.ok
theorem pR_o {ρ : Type} {S : ZS} {c pos k d : Nat} {f : ZS → Option ρ} (h : OB S c pos) : pR S c pos k d f = f (S.wr (c / 2) k d) := if_pos h.ok
theorem aL_n {ρ : Type} {S : ZS} {c base n : Nat} {f : Int32 → Option ρ} (h : AR S c base n) : aL S c base f = f (nI n) := by
  unfold aL
  rw [if_pos h.ok, h.2.2.1, Nat.add_sub_cancel_left]
theorem aG_n {ρ : Type} {S : ZS} {c base n j : Nat} {f : Int32 → Option ρ} (h : AR S c base n) (hj : j < n) : aG S c base (nI j) f = f (S.i (c / 2) j) := by
  unfold aG
  rw [if_pos (h.inn hj).1, (h.inn hj).2]
theorem aP_n {ρ : Type} {S : ZS} {c base n j : Nat} {v : Int32} {f : ZS → Option ρ} (h : AR S c base n) (hj : j < n) : aP S c base (nI j) v f = f (S.wi (c / 2) j v) := by
  unfold aP
  rw [if_pos (h.inn hj).1, (h.inn hj).2]
theorem aN_n {ρ : Type} {S : ZS} {c base n j : Nat} {f : Nat → Option ρ} (h : AR S c base n) (hj : j < n) (h0 : S.r (c / 2) j ≠ 0) : aN S c base (nI j) f = f (S.r (c / 2) j) := by
  unfold aN
  rw [(h.inn hj).2, if_pos ⟨(h.inn hj).1, h0⟩]
theorem aR_n {ρ : Type} {S : ZS} {c base n j kind d : Nat} {f : ZS → Option ρ} (h : AR S c base n) (hj : j < n) (hd : okE S d kind = true) : aR S c base kind (nI j) d f = f (S.wr (c / 2) j d) := by
  unfold aR
  rw [if_pos ⟨(h.inn hj).1, hd⟩, (h.inn hj).2]
theorem AR.okE {S : ZS} {d n : Nat} (h : AR S d 100000 n) : okE S d 100000 = true := h.ok
theorem OB.okE {S : ZS} {d : Nat} (h : OB S d 13) : okE S d 13 = true := h.ok
theorem AR.ne0 {S : ZS} {c base n : Nat} (h : AR S c base n) : c ≠ 0 := by
  have := h.1
  omega
theorem OB.ne0 {S : ZS} {c pos : Nat} (h : OB S c pos) : c ≠ 0 := by
  have := h.1
  omega
theorem chk_of {ρ : Type} {pr : ρ → ZS} {S : ZS} {x : Option ρ} {r : ρ} (h : x = some r) (hc : (pr r).c ≤ S.c) (hw : (pr r).w ≤ S.w) : chk pr S x = some r := by
  unfold chk
  rw [h]
  exact if_pos ⟨hc, hw⟩
theorem nA_n {ρ : Type} {pr : ρ → ZS} {S : ZS} {base n : Nat} {f : Nat → ZS → Option ρ} (hn : n < 100000) (hc : 1 ≤ S.c) (hw : n ≤ S.w) : nA pr S base (nI n) f = chk pr (S.new (base + n) n z0) (f (2 * S.n + 1) (S.new (base + n) n z0)) := by
  unfold nA
  have h1 : (nI n).toNatClampNeg = n := nI_clamp (by omega)
  rw [h1, if_pos ⟨⟨nI_pos (by omega), hn⟩, hc, hw⟩]
theorem nO_n {ρ : Type} {pr : ρ → ZS} {S : ZS} {kind slots : Nat} {f : Nat → ZS → Option ρ} (hc : 1 ≤ S.c) (hw : slots ≤ S.w) : nO pr S kind slots f = chk pr (S.new kind slots z0) (f (2 * S.n + 1) (S.new kind slots z0)) := if_pos ⟨hc, hw⟩
theorem b2_s {α ρ : Type} {pr : ρ → ZS} {x : α} {S : ZS} {f : α → ZS → Option ρ} : b2 pr (some (x, S)) f = chk pr S (f x S) := rfl
theorem b1_s {ρ : Type} {pr : ρ → ZS} {S : ZS} {f : ZS → Option ρ} : b1 pr (some S) f = chk pr S (f S) := rfl
theorem rcv_o {ρ : Type} {S : ZS} {c pos : Nat} {x : Option ρ} (h : OB S c pos) : rcv S c pos x = x := if_pos h.ok
/-! what a change leaves -/
theorem wi_i {S : ZS} {o k : Nat} {v : Int32} : (S.wi o k v).i = up S.i o k v := rfl
theorem ur_self {r : Nat → Nat → Nat} {o k c : Nat} : ur r o k c o k = c := if_pos ⟨rfl, rfl⟩
theorem ur_ne {r : Nat → Nat → Nat} {o k c o' : Nat} (h : o' ≠ o) : ur r o k c o' = r o' := funext fun _ => if_neg (fun q => h q.1)
theorem ur_slot {r : Nat → Nat → Nat} {o k c k' : Nat} (h : k' ≠ k) : ur r o k c o k' = r o k' := if_neg (fun q => h q.2)
theorem nwK {S : ZS} {kind sl : Nat} {f : Nat → Int32} {o : Nat} (h : o < S.n) : (S.new kind sl f).K o = S.K o := if_neg (by omega)
theorem nwI {S : ZS} {kind sl : Nat} {f : Nat → Int32} {o : Nat} (h : o < S.n) : (S.new kind sl f).i o = S.i o := if_neg (by omega)
theorem nwR {S : ZS} {kind sl : Nat} {f : Nat → Int32} {o : Nat} (h : o < S.n) : (S.new kind sl f).r o = S.r o := if_neg (by omega)
theorem nwK0 {S : ZS} {kind sl : Nat} {f : Nat → Int32} : (S.new kind sl f).K S.n = kind := if_pos rfl
theorem nwI0 {S : ZS} {kind sl : Nat} {f : Nat → Int32} : (S.new kind sl f).i S.n = f := if_pos rfl
theorem nwR0 {S : ZS} {kind sl : Nat} {f : Nat → Int32} {k : Nat} : (S.new kind sl f).r S.n k = 0 := by
  show (if S.n = S.n then (fun _ => 0) else S.r S.n) k = 0
  rw [if_pos rfl]
theorem nw_o (n : Nat) : (2 * n + 1) % 2 = 1 ∧ (2 * n + 1) / 2 = n := ⟨by omega, by omega⟩
theorem AR.new {S : ZS} {c base n kind sl : Nat} {f : Nat → Int32} (h : AR S c base n) : AR (S.new kind sl f) c base n := ⟨h.1, Nat.lt_succ_of_lt h.2.1, by rw [nwK h.2.1]; exact h.2.2.1, h.2.2.2⟩
theorem OB.new {S : ZS} {c pos kind sl : Nat} {f : Nat → Int32} (h : OB S c pos) : OB (S.new kind sl f) c pos := ⟨h.1, Nat.lt_succ_of_lt h.2.1, by rw [nwK h.2.1]; exact h.2.2⟩
theorem AR.mk {S : ZS} {base n sl : Nat} {f : Nat → Int32} (hn : n < 100000) : AR (S.new (base + n) sl f) (2 * S.n + 1) base n := ⟨(nw_o _).1, by rw [(nw_o _).2]; exact Nat.lt_succ_self _, by rw [(nw_o _).2, nwK0], hn⟩
theorem OB.mk {S : ZS} {pos sl : Nat} {f : Nat → Int32} : OB (S.new pos sl f) (2 * S.n + 1) pos := ⟨(nw_o _).1, by rw [(nw_o _).2]; exact Nat.lt_succ_self _, by rw [(nw_o _).2, nwK0]⟩
/-- what is done from S to S': only objects of the kinds Q change; at most x cells and y slots are used -/
def Ste (Q : Nat → Prop) (x y : Nat) (S S' : ZS) : Prop := S'.g = S.g ∧ S.n ≤ S'.n ∧ (∀ o, o < S.n → S'.K o = S.K o ∧ (¬ Q (S.K o) → S'.i o = S.i o ∧ S'.r o = S.r o)) ∧ S'.c ≤ S.c ∧ S.c ≤ S'.c + x ∧ S'.w ≤ S.w ∧ S.w ≤ S'.w + y
theorem Ste.refl {Q : Nat → Prop} {S : ZS} : Ste Q 0 0 S S := ⟨rfl, Nat.le_refl _, fun _ _ => ⟨rfl, fun _ => ⟨rfl, rfl⟩⟩, Nat.le_refl _, Nat.le_refl _, Nat.le_refl _, Nat.le_refl _⟩
theorem Ste.trans {Q : Nat → Prop} {x y x' y' : Nat} {S S1 S2 : ZS} (h : Ste Q x y S S1) (h' : Ste Q x' y' S1 S2) : Ste Q (x + x') (y + y') S S2 := by
  obtain ⟨a1, a2, a3, a4, a5, a6, a7⟩ := h
  obtain ⟨b1, b2, b3, b4, b5, b6, b7⟩ := h'
  refine ⟨b1.trans a1, Nat.le_trans a2 b2, fun o ho => ?_, by omega, by omega, by omega, by omega⟩
  obtain ⟨c1, c2⟩ := a3 o ho
  obtain ⟨d1, d2⟩ := b3 o (by omega)
  refine ⟨d1.trans c1, fun hq => ?_⟩
  obtain ⟨e1, e2⟩ := c2 hq
  obtain ⟨f1, f2⟩ := d2 (by rw [c1]; exact hq)
  exact ⟨f1.trans e1, f2.trans e2⟩
theorem Ste.mono {Q Q' : Nat → Prop} {x y x' y' : Nat} {S S1 : ZS} (h : Ste Q x y S S1) (hq : ∀ k, Q k → Q' k) (hx : x ≤ x') (hy : y ≤ y') : Ste Q' x' y' S S1 := by
  obtain ⟨a1, a2, a3, a4, a5, a6, a7⟩ := h
  exact ⟨a1, a2, fun o ho => ⟨(a3 o ho).1, fun z => (a3 o ho).2 (fun q => z (hq _ q))⟩, a4, by omega, a6, by omega⟩
theorem Ste.new {Q : Nat → Prop} {S : ZS} {kind sl : Nat} {f : Nat → Int32} (hc : 1 ≤ S.c) (hw : sl ≤ S.w) : Ste Q 1 sl S (S.new kind sl f) := by
  refine ⟨rfl, Nat.le_succ _, fun o ho => ⟨nwK ho, fun _ => ⟨nwI ho, nwR ho⟩⟩, Nat.sub_le _ _, ?_, Nat.sub_le _ _, ?_⟩
  · show S.c ≤ S.c - 1 + 1
    omega
  · show S.w ≤ S.w - sl + sl
    omega
theorem Ste.wi {Q : Nat → Prop} {S : ZS} {o k : Nat} {v : Int32} (h : o < S.n → Q (S.K o)) : Ste Q 0 0 S (S.wi o k v) :=
  ⟨rfl, Nat.le_refl _, fun o' ho => ⟨rfl, fun z => ⟨wi_ne (fun e => z (by rw [e]; exact h (by rw [← e]; exact ho))), rfl⟩⟩, Nat.le_refl _, Nat.le_refl _, Nat.le_refl _, Nat.le_refl _⟩
theorem Ste.wr {Q : Nat → Prop} {S : ZS} {o k d : Nat} (h : o < S.n → Q (S.K o)) : Ste Q 0 0 S (S.wr o k d) :=
  ⟨rfl, Nat.le_refl _, fun o' ho => ⟨rfl, fun z => ⟨rfl, wr_ne (fun e => z (by rw [e]; exact h (by rw [← e]; exact ho)))⟩⟩, Nat.le_refl _, Nat.le_refl _, Nat.le_refl _, Nat.le_refl _⟩
theorem AR.ste {Q : Nat → Prop} {x y : Nat} {S S' : ZS} {c base n : Nat} (h : AR S c base n) (s : Ste Q x y S S') : AR S' c base n := ⟨h.1, Nat.lt_of_lt_of_le h.2.1 s.2.1, by rw [(s.2.2.1 _ h.2.1).1]; exact h.2.2.1, h.2.2.2⟩
theorem OB.ste {Q : Nat → Prop} {x y : Nat} {S S' : ZS} {c pos : Nat} (h : OB S c pos) (s : Ste Q x y S S') : OB S' c pos := ⟨h.1, Nat.lt_of_lt_of_le h.2.1 s.2.1, by rw [(s.2.2.1 _ h.2.1).1]; exact h.2.2⟩
theorem half_ne {a b : Nat} (ha : a % 2 = 1) (hb : b % 2 = 1) (h : a ≠ b) : a / 2 ≠ b / 2 := by omega
