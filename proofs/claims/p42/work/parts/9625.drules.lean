/-! rules of the drawing of a train -/
def BB (S : ZS) (c : Nat) (w : List Int32) : Prop := ∃ cap, BX S c w cap ∧ cap ≤ 2 * w.length + 16
theorem BB.o {S : ZS} {c : Nat} {w : List Int32} (h : BB S c w) : OB S c 1 := by
  obtain ⟨cap, h1, -⟩ := h
  exact h1.o
theorem BB.ste {Q : Nat → Prop} {x y : Nat} {S S' : ZS} {c : Nat} {w : List Int32} (h : BB S c w) (s : Ste Q x y S S') (hq : ¬ Q 1 ∧ ∀ n, n < 100000 → ¬ Q (200000 + n)) : BB S' c w := by
  obtain ⟨cap, h, hc⟩ := h
  obtain ⟨a1, a2, a3, a4, a5, a6, a7, a8⟩ := h
  obtain ⟨e1, e2⟩ := (s.2.2.1 _ a1.2.1).2 (by rw [a1.2.2]; exact hq.1)
  have e3 := ((s.2.2.1 _ a4.2.1).2 (by rw [a4.2.2.1]; exact hq.2 _ a4.2.2.2)).1
  exact ⟨cap, ⟨a1.ste s, by rw [e1]; exact a2, by rw [e1]; exact a3, by rw [e2]; exact a4.ste s, a5, a6, fun j hj => by rw [e2, e3]; exact a7 j hj, fun j hj => by rw [e2, e3]; exact a8 j hj⟩, hc⟩
/-- the orders made so far; M: how many there will be (100: not known yet) -/
def OLS (S : ZS) (t N M : Nat) (L : List (OR4 × List It)) : Prop := (M < 100 → AR S (S.r (t / 2) 8) 500000 M) ∧ ∀ j x, L[j]? = some x → OX N S (S.r (S.r (t / 2) 8 / 2) j) x.1 x.2
theorem OLS.ste {Q : Nat → Prop} {x y : Nat} {S S' : ZS} {t N M : Nat} {L : List (OR4 × List It)} (h : OLS S t N M L) (s : Ste Q x y S S') (ht : OB S t 14) (hq : ¬ Q 12 ∧ ¬ Q 13 ∧ ¬ Q 14 ∧ ∀ n, ¬ Q (500000 + n)) (hL : L ≠ [] → M < 100) : OLS S' t N M L := by
  obtain ⟨h1, h2⟩ := h
  have e8 : S'.r (t / 2) = S.r (t / 2) := ((s.2.2.1 _ ht.2.1).2 (by rw [ht.2.2]; exact hq.2.2.1)).2
  refine ⟨fun hM => by rw [e8]; exact (h1 hM).ste s, fun j x hj => ?_⟩
  have hM := hL (fun z => by rw [z] at hj; simp at hj)
  have ha := h1 hM
  rw [e8, ((s.2.2.1 _ ha.2.1).2 (by rw [ha.2.2.1]; exact hq.2.2.2 _)).2]
  exact (h2 j x hj).ste s ⟨hq.1, hq.2.1⟩
def Rx (Φ : Nat → ZS → Prop) (z : Option (Nat × ZS)) (S : ZS) : Prop := ∃ d S', z = some (d, S') ∧ Φ d S' ∧ S'.c ≤ S.c ∧ S'.w ≤ S.w
theorem rx_chk {Φ : Nat → ZS → Prop} {z : Option (Nat × ZS)} {S : ZS} (h : Rx Φ z S) : Rx Φ (chk Prod.snd S z) S := by
  obtain ⟨d, S', h1, h2, h3, h4⟩ := h
  exact ⟨d, S', chk_of h1 h3 h4, h2, h3, h4⟩
theorem Rx.mono {Φ : Nat → ZS → Prop} {z : Option (Nat × ZS)} {S S1 : ZS} (h : Rx Φ z S1) (hc : S1.c ≤ S.c) (hw : S1.w ≤ S.w) : Rx Φ z S := by
  obtain ⟨d, S', h1, h2, h3, h4⟩ := h
  exact ⟨d, S', h1, h2, Nat.le_trans h3 hc, Nat.le_trans h4 hw⟩
theorem rx_b2 {α : Type} {Φ : Nat → ZS → Prop} {S S1 : ZS} {z : Option (α × ZS)} {v : α} {f : α → ZS → Option (Nat × ZS)} (hz : z = some (v, S1)) (hc : S1.c ≤ S.c) (hw : S1.w ≤ S.w) (K : Rx Φ (f v S1) S1) : Rx Φ (b2 Prod.snd z f) S := by
  rw [hz, b2_s]
  exact (rx_chk K).mono hc hw
theorem rx_b1 {Φ : Nat → ZS → Prop} {S S1 : ZS} {z : Option ZS} {f : ZS → Option (Nat × ZS)} (hz : z = some S1) (hc : S1.c ≤ S.c) (hw : S1.w ≤ S.w) (K : Rx Φ (f S1) S1) : Rx Φ (b1 Prod.snd z f) S := by
  rw [hz, b1_s]
  exact (rx_chk K).mono hc hw
theorem RM.sub {S S1 : ZS} {k j x y n : Nat} (h : RM S k) (hc : S.c ≤ S1.c + x) (hw : S.w ≤ S1.w + y) (hx : x ≤ 3 * n) (hy : y ≤ 18 * n) (hj : j + n ≤ k) : RM S1 j := by
  obtain ⟨h1, h2⟩ := h
  exact ⟨by omega, by omega⟩
theorem RM.get {S : ZS} {k a b n : Nat} (h : RM S k) (hn : n ≤ k) (ha : a ≤ 3 * n) (hb : b ≤ 18 * n) : a ≤ S.c ∧ b ≤ S.w := by
  obtain ⟨h1, h2⟩ := h
  exact ⟨by omega, by omega⟩
/-- a train that is being drawn -/
def DR (S : ZS) (t r c : Nat) (A : TA) (w : List Int32) (N M : Nat) (L : List (OR4 × List It)) (g : G) (k : Nat) : Prop := TT S t A ∧ OB S r 11 ∧ BB S c w ∧ OLS S t N M L ∧ (L ≠ [] → M < 100) ∧ S.g = g ∧ RM S k
theorem DR.tt {S : ZS} {t r c : Nat} {A : TA} {w : List Int32} {N M : Nat} {L : List (OR4 × List It)} {g : G} {k : Nat} (h : DR S t r c A w N M L g k) : TT S t A := h.1
theorem DR.ob {S : ZS} {t r c : Nat} {A : TA} {w : List Int32} {N M : Nat} {L : List (OR4 × List It)} {g : G} {k : Nat} (h : DR S t r c A w N M L g k) : OB S r 11 := h.2.1
theorem DR.bb {S : ZS} {t r c : Nat} {A : TA} {w : List Int32} {N M : Nat} {L : List (OR4 × List It)} {g : G} {k : Nat} (h : DR S t r c A w N M L g k) : BB S c w := h.2.2.1
theorem DR.ol {S : ZS} {t r c : Nat} {A : TA} {w : List Int32} {N M : Nat} {L : List (OR4 × List It)} {g : G} {k : Nat} (h : DR S t r c A w N M L g k) : OLS S t N M L := h.2.2.2.1
theorem DR.hl {S : ZS} {t r c : Nat} {A : TA} {w : List Int32} {N M : Nat} {L : List (OR4 × List It)} {g : G} {k : Nat} (h : DR S t r c A w N M L g k) : L ≠ [] → M < 100 := h.2.2.2.2.1
theorem DR.g {S : ZS} {t r c : Nat} {A : TA} {w : List Int32} {N M : Nat} {L : List (OR4 × List It)} {g : G} {k : Nat} (h : DR S t r c A w N M L g k) : S.g = g := h.2.2.2.2.2.1
theorem DR.rm {S : ZS} {t r c : Nat} {A : TA} {w : List Int32} {N M : Nat} {L : List (OR4 × List It)} {g : G} {k : Nat} (h : DR S t r c A w N M L g k) : RM S k := h.2.2.2.2.2.2
theorem DR.le {S : ZS} {t r c : Nat} {A : TA} {w : List Int32} {N M : Nat} {L : List (OR4 × List It)} {g : G} {k j : Nat} (h : DR S t r c A w N M L g k) (hj : j ≤ k) : DR S t r c A w N M L g j := ⟨h.1, h.2.1, h.2.2.1, h.2.2.2.1, h.2.2.2.2.1, h.2.2.2.2.2.1, h.rm.le hj⟩
/-- the store moves on; nothing of train, builder, orders does -/
theorem DR.ste {S S' : ZS} {t r c : Nat} {A : TA} {w : List Int32} {N M : Nat} {L : List (OR4 × List It)} {g : G} {k j x y : Nat} {Q : Nat → Prop} (h : DR S t r c A w N M L g k) (s : Ste Q x y S S') (hq : (∀ q, Q q → noT q) ∧ ¬ Q 12 ∧ ¬ Q 13 ∧ ∀ n, ¬ Q (500000 + n)) (hb : BB S' c w) (hj : RM S' j) : DR S' t r c A w N M L g j :=
  ⟨h.tt.ste s hq.1, h.ob.ste s, hb, h.ol.ste s h.tt.o ⟨hq.2.1, hq.2.2.1, fun z => (hq.1 14 z).1 rfl, hq.2.2.2⟩ h.hl, h.hl, by rw [s.1]; exact h.g, hj⟩
theorem dr_next {Φ : Nat → ZS → Prop} {S : ZS} {t r c : Nat} {A : TA} {w : List Int32} {N M : Nat} {L : List (OR4 × List It)} {g : G} {k n : Nat} {f : Int32 → ZS → Option (Nat × ZS)} (h : DR S t r c A w N M L g k) (h0 : 0 < n) (hn : n < 2 ^ 31) (K : ∀ j S', j < n → DR S' t r c A w N M L g k → Rx Φ (f (nI j) S') S') : Rx Φ (rcv S r 11 (b2 Prod.snd (kX9_next r (nI n) S) f)) S := by
  obtain ⟨j, S1, e1, hj, s1⟩ := k_next h.ob h0 hn
  have hcw := s1.cw
  obtain ⟨m1, m2⟩ := h.rm
  have h1 : DR S1 t r c A w N M L g k := h.ste s1 ⟨fun q hq => by unfold QDc at hq; unfold noT; omega, by unfold QDc; omega, by unfold QDc; omega, fun n => by unfold QDc; omega⟩ (h.bb.ste s1 ⟨by unfold QDc; omega, fun n _ => by unfold QDc; omega⟩) ⟨by omega, by omega⟩
  rw [rcv_o h.ob]
  exact rx_b2 e1 (by omega) (by omega) (K j S1 hj h1)
theorem dr_app {Φ : Nat → ZS → Prop} {S : ZS} {t r c d : Nat} {A : TA} {w v : List Int32} {N M : Nat} {L : List (OR4 × List It)} {g : G} {k : Nat} {f : Nat → ZS → Option (Nat × ZS)} (h : DR S t r c A w N M L g (k + 180)) (hs : SX S d v) (hl : w.length + v.length ≤ 1600) (K : ∀ S', DR S' t r c A (w ++ v) N M L g k → Rx Φ (f c S') S') : Rx Φ (rcv S c 1 <| b2 Prod.snd (kJ4_append_15ec4_C c d S) f) S := by
  obtain ⟨m1, m2⟩ := h.rm
  obtain ⟨cap, hb, hcap⟩ := h.bb
  obtain ⟨S1, e1, b1, f1⟩ := k_app hb hcap hs (by omega) (by omega) (by omega)
  have s1 := f1.q hb
  have hc := s1.2.2.2
  have h1 : DR S1 t r c A (w ++ v) N M L g k := by
    have h2 := h.ste (w := w) (j := 0) s1 ⟨fun q hq => by unfold QB at hq; unfold noT; omega, by unfold QB; omega, by unfold QB; omega, fun n => by unfold QB; omega⟩
    exact ⟨h.tt.ste s1 (fun q hq => by unfold QB at hq; unfold noT; omega), h.ob.ste s1, b1, h.ol.ste s1 h.tt.o ⟨by unfold QB; omega, by unfold QB; omega, by unfold QB; omega, fun n => by unfold QB; omega⟩ h.hl, h.hl, by rw [s1.1]; exact h.g, ⟨by omega, by omega⟩⟩
  rw [rcv_o hb.o]
  exact rx_b2 e1 (by omega) (by omega) (K S1 h1)
theorem dr_appS {Φ : Nat → ZS → Prop} {S : ZS} {t r c d : Nat} {A : TA} {w : List Int32} {N M : Nat} {L : List (OR4 × List It)} {g : G} {k : Nat} {f : Nat → ZS → Option (Nat × ZS)} (h : DR S t r c A w N M L g (k + 180)) (hk : d < NS) (hl : w.length + (sB d).length ≤ 1600) (K : ∀ S', DR S' t r c A (w ++ sB d) N M L g k → Rx Φ (f c S') S') : Rx Φ (rcv S c 1 <| b2 Prod.snd (kJ4_append_15ec4_S c d S) f) S := by
  rw [app_S]
  exact dr_app h (SX.k hk) hl K
theorem dr_appI {Φ : Nat → ZS → Prop} {S : ZS} {t r c n : Nat} {A : TA} {w : List Int32} {N M : Nat} {L : List (OR4 × List It)} {g : G} {k : Nat} {f : Nat → ZS → Option (Nat × ZS)} (h : DR S t r c A w N M L g (k + 180)) (hn : n < 1000000) (hl : w.length ≤ 1600) (K : ∀ S', DR S' t r c A (w ++ dc n) N M L g k → Rx Φ (f c S') S') : Rx Φ (rcv S c 1 <| b2 Prod.snd (kJ4_append_bf812 c (nI n) S) f) S := by
  obtain ⟨m1, m2⟩ := h.rm
  obtain ⟨cap, hb, hcap⟩ := h.bb
  have hL := dc_len hn
  obtain ⟨S1, e1, b1, f1⟩ := k_appI (n := n) hb hcap hn (by omega) (by omega) (by omega)
  have s1 := f1.q hb
  have hc := s1.2.2.2
  have h1 : DR S1 t r c A (w ++ dc n) N M L g k := by
    exact ⟨h.tt.ste s1 (fun q hq => by unfold QB at hq; unfold noT; omega), h.ob.ste s1, b1, h.ol.ste s1 h.tt.o ⟨by unfold QB; omega, by unfold QB; omega, by unfold QB; omega, fun n => by unfold QB; omega⟩ h.hl, h.hl, by rw [s1.1]; exact h.g, ⟨by omega, by omega⟩⟩
  rw [rcv_o hb.o]
  exact rx_b2 e1 (by omega) (by omega) (K S1 h1)
/-! what a drawn train is -/
abbrev Mi : Type := Nat × Bool × Nat
def ofV (x : Mi) : Int32 := if x.2.1 = true then -nI x.2.2 else nI x.2.2
def miOK (x : Mi) : Prop := x.1 ≤ 100 ∧ x.2.2 ≤ 90
def TrM (A : TA) (ms : List Mi) (W lim : Int32) : Prop := A.N = ms.length ∧ A.W = W ∧ A.lim = lim ∧ (∀ m x, ms[m]? = some x → A.cl m = nI x.1 ∧ A.be m = 100 ∧ A.of m = ofV x) ∧ (∀ p, p < ms.length → A.rw p = p) ∧ A.J = 0 ∧ A.go = 0 ∧ A.mi = 0 ∧ A.dn = 0
theorem TrM.nil {W lim : Int32} : TrM (trN W lim) [] W lim := ⟨rfl, rfl, rfl, fun m x h => by simp at h, fun p h => absurd h (Nat.not_lt_zero _), rfl, rfl, rfl, rfl⟩
theorem TrM.add {A : TA} {ms : List Mi} {W lim : Int32} {x : Mi} (h : TrM A ms W lim) : TrM (addA A (nI x.1) (ofV x)) (ms ++ [x]) W lim := by
  obtain ⟨h1, h2, h3, h4, h5, h6⟩ := h
  refine ⟨by rw [List.length_append]; show A.N + 1 = _; rw [h1]; rfl, h2, h3, fun m y hm => ?_, fun p hp => ?_, h6⟩
  · by_cases e : m < ms.length
    · rw [List.getElem?_append_left e] at hm
      obtain ⟨k1, k2, k3⟩ := h4 m y hm
      exact ⟨(updI_ne (by omega)).trans k1, (updI_ne (by omega)).trans k2, (updI_ne (by omega)).trans k3⟩
    · rw [List.getElem?_append_right (by omega)] at hm
      obtain ⟨z, hz⟩ : ∃ z, m - ms.length = z := ⟨_, rfl⟩
      rw [hz] at hm
      cases z with
      | zero =>
        have em : m = A.N := by omega
        have ey : x = y := by simpa using hm
        subst ey
        rw [em]
        exact ⟨updI_eq, updI_eq, updI_eq⟩
      | succ z => simp at hm
  · rw [List.length_append] at hp
    have hp : p < ms.length + 1 := hp
    by_cases e : p = A.N
    · rw [e]; exact updN_eq
    · exact (updN_ne e).trans (h5 p (by omega))
theorem ofV_all : ((List.range 91).all fun a => decide ((-90 ≤ nI a ∧ nI a ≤ 90) ∧ -90 ≤ -nI a ∧ -nI a ≤ 90)) = true := by decide +kernel
theorem ofV_rng {x : Mi} (h : miOK x) : -90 ≤ ofV x ∧ ofV x ≤ 90 := by
  obtain ⟨h1, h2⟩ := of_decide_eq_true (List.all_eq_true.mp ofV_all x.2.2 (List.mem_range.mpr (by have := h.2; omega)))
  unfold ofV
  split
  · exact h2
  · exact h1
theorem TrM.wa {A : TA} {ms : List Mi} {W lim : Int32} (h : TrM A ms W lim) (hm : ∀ x, x ∈ ms → miOK x) (hN : ms.length ≤ 10) : WA A := by
  obtain ⟨h1, h2, h3, h4, h5, h6, h7, h8, h9⟩ := h
  refine ⟨by omega, fun p hp => by rw [h5 p (by omega)]; exact hp, fun p q hp hq e => by rw [h5 p (by omega), h5 q (by omega)] at e; exact e, fun m hm2 => ?_, by omega, fun k hk => by omega, fun k j _ hj => by omega, by rw [h7]; decide, fun _ => h7⟩
  have hm3 : m < ms.length := by omega
  obtain ⟨k1, k2, k3⟩ := h4 m ms[m] (List.getElem?_eq_getElem hm3)
  have hok := hm _ (List.getElem_mem hm3)
  refine ⟨?_, by rw [k2]; decide, by rw [k3]; exact ofV_rng hok⟩
  rw [k1]
  exact ⟨nI_pos' (by have := hok.1; omega), (nI_leI (b := 100) (by have := hok.1; omega) (by omega)).mpr hok.1⟩
def widthI (o : Option Nat) : List It := match o with
  | none => []
  | some W => [tok 131, bl, numI W, tok 59, bl]
def limitI (o : Option Nat) : List It := match o with
  | none => []
  | some W => [tok 132, bl, numI W, tok 59, nl]
def mirI (m : Nat) (x : Mi) : List It := tok 128 :: bl :: nmI m :: bl :: tok 129 :: bl :: numI x.1 :: bl :: tok 130 :: bl :: ((if x.2.1 = true then [tok 45] else []) ++ [numI x.2.2, tok 59])
def msI : List Mi → Nat → List It
  | [], _ => []
  | x :: l, m => mirI m x ++ msI l (m + 1)
theorem msI_app : ∀ (l : List Mi) (m : Nat) (x : Mi), msI (l ++ [x]) m = msI l m ++ mirI (m + l.length) x := by
  intro l
  induction l with
  | nil => intro m x; exact List.append_nil _
  | cons y l ih =>
    intro m x
    show mirI m y ++ msI (l ++ [x]) (m + 1) = (mirI m y ++ msI l (m + 1)) ++ mirI (m + (l.length + 1)) x
    rw [ih, List.append_assoc, show m + 1 + l.length = m + (l.length + 1) by omega]
theorem mir_len {m : Nat} {x : Mi} (hm : m < 10) (hx : miOK x) : (spl (mirI m x)).length ≤ 36 := by
  have h1 := dc_len (m := m) (by omega)
  have h2 := dc_len (m := x.1) (by have := hx.1; omega)
  have h3 := dc_len (m := x.2.2) (by have := hx.2; omega)
  have e2 : (dc x.1).length ≤ 3 := by
    rw [h2.2.2]
    have := hx.1
    repeat' split
    all_goals omega
  have e3 : (dc x.2.2).length ≤ 2 := by
    rw [h3.2.2]
    have := hx.2
    repeat' split
    all_goals omega
  have e1 : (dc m).length = 1 := by rw [h1.2.2, if_pos hm]
  have ee : spl (mirI m x) = sB 65 ++ (dc m ++ (sB 66 ++ (dc x.1 ++ (sB 67 ++ ((if x.2.1 = true then sB 48 else sB 68) ++ (dc x.2.2 ++ sB 69)))))) := by
    unfold mirI
    cases x.2.1 <;> rfl
  have l5 : (sB 65).length = 8 := rfl
  have l6 : (sB 66).length = 9 := rfl
  have l7 : (sB 67).length = 8 := rfl
  have l9 : (sB 69).length = 1 := rfl
  have l4 : (if x.2.1 = true then sB 48 else sB 68).length ≤ 1 := by
    split <;> decide
  rw [ee]
  simp only [List.length_append]
  omega
