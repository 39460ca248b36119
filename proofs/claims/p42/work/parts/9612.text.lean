/-! the text of a tree -/
/-- a builder under way: what is still to come -/
def TBq (S0 S : ZS) (c : Nat) (W u : List Int32) (x y : Nat) : Prop := ∃ w, w ++ u = W ∧ TBd S0 S c w x y
theorem tq_new {S0 S : ZS} {x y X Y : Nat} {W : List Int32} {F : Nat → ZS → Option (Nat × ZS)} (s : Ste NO x y S0 S) (hx : x + 2 ≤ S0.c) (hy : y + 20 ≤ S0.w) (K : ∀ S4, TBq S0 S4 (2 * S.n + 1) W W (x + 2) (y + 20) → TxR (F (2 * S.n + 1) S4) S0 S4 W X Y) : TxR (nO Prod.snd S 1 4 fun c S2 => b1 Prod.snd (kJ4_init_da8c8 c S2) fun S4 => F c S4) S0 S W X Y :=
  tx_new s hx hy (fun S4 h4 => K S4 ⟨[], rfl, h4⟩)
theorem tq_len {w v u W : List Int32} {L : Nat} (h : w ++ (v ++ u) = W) (hL : W.length ≤ L) : w.length + v.length ≤ L := by
  rw [← h, List.length_append, List.length_append] at hL
  omega
theorem TBd.more {S0 S : ZS} {c x y y' : Nat} {w : List Int32} (h : TBd S0 S c w x y) (hy : y ≤ y') : TBd S0 S c w x y' := ⟨h.1.mono (fun _ z => z) (Nat.le_refl _) hy, h.2⟩
theorem tq_app {S0 S : ZS} {c d x y X Y L : Nat} {W v u : List Int32} {f : Nat → ZS → Option (Nat × ZS)} (h : TBq S0 S c W (v ++ u) x y) (hs : SX S d v) (hL : W.length ≤ L) (hL2 : L < 18000) (hx : x + 1 ≤ S0.c) (hy : y + 2 * L ≤ S0.w) (K : ∀ S', TBq S0 S' c W u (x + 1) (y + 2 * L) → TxR (f c S') S0 S' W X Y) : TxR (rcv S c 1 <| b2 Prod.snd (kJ4_append_15ec4_C c d S) f) S0 S W X Y := by
  obtain ⟨w, hw, h⟩ := h
  have hl := tq_len hw hL
  exact tx_app h hs (by omega) hx (by omega) (fun S' h' => K S' ⟨w ++ v, by rw [List.append_assoc]; exact hw, h'.more (by omega)⟩)
theorem tq_appS {S0 S : ZS} {c k x y X Y L : Nat} {W u : List Int32} {f : Nat → ZS → Option (Nat × ZS)} (h : TBq S0 S c W (sB k ++ u) x y) (hk : k < NS) (hL : W.length ≤ L) (hL2 : L < 18000) (hx : x + 1 ≤ S0.c) (hy : y + 2 * L ≤ S0.w) (K : ∀ S', TBq S0 S' c W u (x + 1) (y + 2 * L) → TxR (f c S') S0 S' W X Y) : TxR (rcv S c 1 <| b2 Prod.snd (kJ4_append_15ec4_S c k S) f) S0 S W X Y := by
  rw [app_S]
  exact tq_app h (SX.k hk) hL hL2 hx hy K
theorem tq_appI {S0 S : ZS} {c n x y X Y L : Nat} {W u : List Int32} {f : Nat → ZS → Option (Nat × ZS)} (h : TBq S0 S c W (dc n ++ u) x y) (hn : n < 1000000) (hL : W.length ≤ L) (hL2 : L < 18000) (hx : x + 1 ≤ S0.c) (hy : y + 2 * L ≤ S0.w) (K : ∀ S', TBq S0 S' c W u (x + 1) (y + 2 * L) → TxR (f c S') S0 S' W X Y) : TxR (rcv S c 1 <| b2 Prod.snd (kJ4_append_bf812 c (nI n) S) f) S0 S W X Y := by
  obtain ⟨w, hw, h⟩ := h
  have hl := tq_len hw hL
  exact tx_appI h hn (by omega) hx (by omega) (fun S' h' => K S' ⟨w ++ dc n, by rw [List.append_assoc]; exact hw, h'.more (by omega)⟩)
theorem tq_end {S0 S : ZS} {c x y X Y L : Nat} {W : List Int32} (h : TBq S0 S c W [] x y) (hL : W.length ≤ L) (hX : x + 2 ≤ X) (hY : y + (L + 4) ≤ Y) (hx : X ≤ S0.c) (hy : Y ≤ S0.w) : TxR (rcv S c 1 <| b2 Prod.snd (kJ4_toString_0e30d c S) fun c' S' => some (c', S')) S0 S W X Y := by
  obtain ⟨w, hw, h⟩ := h
  rw [List.append_nil] at hw
  rw [← hw] at hL
  exact tx_end h hw hX (by omega) hx hy
theorem tq_rec {S0 S : ZS} {c c2 x y X Y a b : Nat} {v u W : List Int32} {z : Option (Nat × ZS)} {f : Nat → ZS → Option (Nat × ZS)} (h : TBq S0 S c W u x y) (ho : OB S c2 12) (hz : ∃ d S1, z = some (d, S1) ∧ SX S1 d v ∧ Ste NO a b S S1) (K : ∀ d S1, SX S1 d v → TBq S0 S1 c W u (x + a) (y + b) → TxR (f d S1) S0 S1 W X Y) : TxR (rcv S c2 12 <| b2 Prod.snd z f) S0 S W X Y := by
  obtain ⟨w, hw, h⟩ := h
  exact tx_rec h ho hz (fun d S1 k1 k2 => K d S1 k1 ⟨w, hw, k2⟩)
theorem TBq.rd {S0 S : ZS} {c c0 x y p : Nat} {W u : List Int32} (h : TBq S0 S c W u x y) (ho : OB S0 c0 p) : OB S c0 p ∧ S.i (c0 / 2) = S0.i (c0 / 2) ∧ S.r (c0 / 2) = S0.r (c0 / 2) := by
  obtain ⟨w, hw, h⟩ := h
  obtain ⟨e1, e2⟩ := h.s.old ho.2.1
  exact ⟨ho.ste h.s, e1, e2⟩
theorem TBq.rm {S0 S : ZS} {c x y : Nat} {W u : List Int32} (h : TBq S0 S c W u x y) : S0.c ≤ S.c + x ∧ S0.w ≤ S.w + y := by
  obtain ⟨w, hw, h⟩ := h
  exact h.rm
theorem TBq.tx {N d : Nat} {b : Bool} {S0 S : ZS} {c c2 x y : Nat} {W u : List Int32} {l : List SS} {i : List It} (h : TBq S0 S c W u x y) (t : TX N d b S0 c2 l i) : TX N d b S c2 l i := by
  obtain ⟨w, hw, h⟩ := h
  exact TX.ste h.s (fun z => z) _ _ _ _ _ t
theorem TxR.done {S0 S : ZS} {d x y X Y : Nat} {w : List Int32} (s : Ste NO x y S0 S) (h : SX S d w) (hX : x ≤ X) (hY : y ≤ Y) : TxR (some (d, S)) S0 S w X Y := ⟨d, S, rfl, h, s.mono (fun _ z => z) hX hY, Nat.le_refl _, Nat.le_refl _⟩
theorem op_txt {s : Nat} (h : 12 ≤ s) (h2 : s ≤ 20) : sB (47 + (s - 12)) = spl [tok (binS s)] ∧ 47 + (s - 12) < NS := by
  have all : ((List.range 21).all fun s => decide (12 ≤ s → sB (47 + (s - 12)) = spl [tok (binS s)] ∧ 47 + (s - 12) < NS)) = true := by decide +kernel
  exact of_decide_eq_true (List.all_eq_true.mp all s (List.mem_range.mpr (by omega))) h
/-- what a tree's text is when the trees of less depth have one -/
def TOK (N d : Nat) (R : Nat → ZS → Option (Nat × ZS)) : Prop := ∀ b c l i S, TX N (d + 1) b S c l i → tC d ≤ S.c → tW d ≤ S.w → ∃ e S', R c S = some (e, S') ∧ SX S' e (spl i) ∧ Ste NO (tC d) (tW d) S S'
