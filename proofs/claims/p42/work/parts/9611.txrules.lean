/-! rules of a method that writes a text -/
def TBd (S0 S : ZS) (c : Nat) (w : List Int32) (x y : Nat) : Prop := Ste NO x y S0 S ∧ S0.n ≤ c / 2 ∧ S0.n ≤ S.r (c / 2) 0 / 2 ∧ ∃ cap, BX S c w cap ∧ cap ≤ 2 * w.length + 16
def TxR (z : Option (Nat × ZS)) (S0 S : ZS) (w : List Int32) (X Y : Nat) : Prop := ∃ d S', z = some (d, S') ∧ SX S' d w ∧ Ste NO X Y S0 S' ∧ S'.c ≤ S.c ∧ S'.w ≤ S.w
theorem TBd.s {S0 S : ZS} {c x y : Nat} {w : List Int32} (h : TBd S0 S c w x y) : Ste NO x y S0 S := h.1
theorem TBd.rm {S0 S : ZS} {c x y : Nat} {w : List Int32} (h : TBd S0 S c w x y) : S0.c ≤ S.c + x ∧ S0.w ≤ S.w + y := ⟨h.1.2.2.2.2.1, h.1.2.2.2.2.2.2⟩
theorem TBd.o {S0 S : ZS} {c x y : Nat} {w : List Int32} (h : TBd S0 S c w x y) : OB S c 1 := by
  obtain ⟨cap, h1, -⟩ := h.2.2.2
  exact h1.o
theorem BE.tb {S0 S S' : ZS} {c x y a b : Nat} {w w' : List Int32} (h : TBd S0 S c w x y) (e : BE c w' a b S S') : TBd S0 S' c w' (x + a) (y + b) := by
  obtain ⟨h1, h2, h3, h4⟩ := h
  obtain ⟨s, n⟩ := Fb.ste h1 e.2 h2 h3
  exact ⟨s, h2, n, e.1⟩
/-- the store moves on, the builder stays -/
theorem TBd.no {S0 S S' : ZS} {c x y a b : Nat} {w : List Int32} (h : TBd S0 S c w x y) (s : Ste NO a b S S') : TBd S0 S' c w (x + a) (y + b) := by
  obtain ⟨h1, h2, h3, cap, h4, h5⟩ := h
  obtain ⟨k1, k2⟩ := h4.no s
  exact ⟨h1.trans s, h2, by rw [k2]; exact h3, cap, k1, h5⟩
theorem TxR.chk' {z : Option (Nat × ZS)} {S0 S : ZS} {w : List Int32} {X Y : Nat} (h : TxR z S0 S w X Y) : TxR (chk Prod.snd S z) S0 S w X Y := by
  obtain ⟨d, S', h1, h2, h3, h4, h5⟩ := h
  exact ⟨d, S', chk_of h1 h4 h5, h2, h3, h4, h5⟩
theorem TxR.mono {z : Option (Nat × ZS)} {S0 S S1 : ZS} {w : List Int32} {X Y : Nat} (h : TxR z S0 S1 w X Y) (hc : S1.c ≤ S.c) (hw : S1.w ≤ S.w) : TxR z S0 S w X Y := by
  obtain ⟨d, S', h1, h2, h3, h4, h5⟩ := h
  exact ⟨d, S', h1, h2, h3, Nat.le_trans h4 hc, Nat.le_trans h5 hw⟩
theorem tx_eq {z z' : Option (Nat × ZS)} {S0 S : ZS} {w : List Int32} {X Y : Nat} (e : z = z') (h : TxR z' S0 S w X Y) : TxR z S0 S w X Y := by
  rw [e]
  exact h
theorem tx_new {S0 S : ZS} {x y X Y : Nat} {w : List Int32} {F : Nat → ZS → Option (Nat × ZS)} (s : Ste NO x y S0 S) (hx : x + 2 ≤ S0.c) (hy : y + 20 ≤ S0.w) (K : ∀ S4, TBd S0 S4 (2 * S.n + 1) [] (x + 2) (y + 20) → TxR (F (2 * S.n + 1) S4) S0 S4 w X Y) : TxR (nO Prod.snd S 1 4 fun c S2 => b1 Prod.snd (kJ4_init_da8c8 c S2) fun S4 => F c S4) S0 S w X Y := by
  have hs := s.2.2.2
  obtain ⟨S4, e, b, s4, l1, l2, n⟩ := sb_new (S := S) (by omega) (by omega)
  have hd : (2 * S.n + 1) / 2 = S.n := (nw_o _).2
  have h4 : TBd S0 S4 (2 * S.n + 1) [] (x + 2) (y + 20) := ⟨s.trans s4, by rw [hd]; exact s.2.1, Nat.le_trans s.2.1 n, 16, b, by decide⟩
  rw [nO_n (by omega) (by omega), e, b1_s]
  have hle := s4.2.2.2
  exact ((K S4 h4).chk'.mono l1 l2).chk'.mono (Nat.sub_le _ _) (Nat.sub_le _ _)
theorem tx_app {S0 S : ZS} {c d x y X Y : Nat} {w v W : List Int32} {f : Nat → ZS → Option (Nat × ZS)} (h : TBd S0 S c w x y) (hs : SX S d v) (hl : w.length + v.length < 19000) (hx : x + 1 ≤ S0.c) (hy : y + 2 * (w.length + v.length) ≤ S0.w) (K : ∀ S', TBd S0 S' c (w ++ v) (x + 1) (y + 2 * (w.length + v.length)) → TxR (f c S') S0 S' W X Y) : TxR (rcv S c 1 <| b2 Prod.snd (kJ4_append_15ec4_C c d S) f) S0 S W X Y := by
  obtain ⟨r1, r2⟩ := h.rm
  obtain ⟨cap, hb, hcap⟩ := h.2.2.2
  obtain ⟨S', e, he⟩ := k_app hb hcap hs (by omega) (by omega) (by omega)
  have hf := he.2.2.2.2.2
  rw [rcv_o hb.o, e, b2_s]
  exact (K S' (BE.tb h he)).chk'.mono hf.1 hf.2.2.1
theorem app_S {c k : Nat} {S : ZS} : kJ4_append_15ec4_S c k S = kJ4_append_15ec4_C c (2 * k + 2) S := by
  unfold kJ4_append_15ec4_C
  rw [if_neg (by omega), show (2 * k + 2) / 2 - 1 = k by omega]
theorem tx_appS {S0 S : ZS} {c k x y X Y : Nat} {w W : List Int32} {f : Nat → ZS → Option (Nat × ZS)} (h : TBd S0 S c w x y) (hk : k < NS) (hl : w.length + (sB k).length < 19000) (hx : x + 1 ≤ S0.c) (hy : y + 2 * (w.length + (sB k).length) ≤ S0.w) (K : ∀ S', TBd S0 S' c (w ++ sB k) (x + 1) (y + 2 * (w.length + (sB k).length)) → TxR (f c S') S0 S' W X Y) : TxR (rcv S c 1 <| b2 Prod.snd (kJ4_append_15ec4_S c k S) f) S0 S W X Y := by
  rw [app_S]
  exact tx_app h (SX.k hk) hl hx hy K
theorem tx_appI {S0 S : ZS} {c n x y X Y : Nat} {w W : List Int32} {f : Nat → ZS → Option (Nat × ZS)} (h : TBd S0 S c w x y) (hn : n < 1000000) (hl : w.length < 18000) (hx : x + 1 ≤ S0.c) (hy : y + 2 * (w.length + (dc n).length) ≤ S0.w) (K : ∀ S', TBd S0 S' c (w ++ dc n) (x + 1) (y + 2 * (w.length + (dc n).length)) → TxR (f c S') S0 S' W X Y) : TxR (rcv S c 1 <| b2 Prod.snd (kJ4_append_bf812 c (nI n) S) f) S0 S W X Y := by
  obtain ⟨r1, r2⟩ := h.rm
  obtain ⟨cap, hb, hcap⟩ := h.2.2.2
  obtain ⟨S', e, he⟩ := k_appI (n := n) hb hcap hn (by omega) (by omega) (by omega)
  have hf := he.2.2.2.2.2
  rw [rcv_o hb.o, e, b2_s]
  exact (K S' (BE.tb h he)).chk'.mono hf.1 hf.2.2.1
theorem tx_end {S0 S : ZS} {c x y X Y : Nat} {w W : List Int32} (h : TBd S0 S c w x y) (hW : w = W) (hX : x + 2 ≤ X) (hY : y + (w.length + 4) ≤ Y) (hx : X ≤ S0.c) (hy : Y ≤ S0.w) : TxR (rcv S c 1 <| b2 Prod.snd (kJ4_toString_0e30d c S) fun c' S' => some (c', S')) S0 S W X Y := by
  obtain ⟨r1, r2⟩ := h.rm
  have ho := h.o
  have hs := h.s
  obtain ⟨cap, hb, hcap⟩ := h.2.2.2
  obtain ⟨d, S', e, k1, k2⟩ := k_toString hb (by omega) (by omega)
  have hf := k2.2.2.2
  subst hW
  refine ⟨d, S', ?_, k1.sx, (hs.trans k2).mono (fun _ z => z) (by omega) (by omega), hf.1, hf.2.2.1⟩
  rw [rcv_o ho, e, b2_s]
  exact chk_of rfl (Nat.le_refl _) (Nat.le_refl _)
theorem tx_rec {S0 S : ZS} {c c2 x y X Y a b : Nat} {w v W : List Int32} {z : Option (Nat × ZS)} {f : Nat → ZS → Option (Nat × ZS)} (h : TBd S0 S c w x y) (ho : OB S c2 12) (hz : ∃ d S1, z = some (d, S1) ∧ SX S1 d v ∧ Ste NO a b S S1) (K : ∀ d S1, SX S1 d v → TBd S0 S1 c w (x + a) (y + b) → TxR (f d S1) S0 S1 W X Y) : TxR (rcv S c2 12 <| b2 Prod.snd z f) S0 S W X Y := by
  obtain ⟨d, S1, e, k1, k2⟩ := hz
  have hf := k2.2.2.2
  rw [rcv_o ho, e, b2_s]
  exact (K d S1 k1 (h.no k2)).chk'.mono hf.1 hf.2.2.1
theorem stN_n {ρ : Type} {j i : Nat} {f : Nat → Option ρ} (hi : i < (stG j).2.2.1) (h : i < 100) : stN j (nI i) f = f ((stG j).2.2.2 + i) := by
  unfold stN
  rw [nI_clamp (by omega), if_pos]
  rintro (z | z)
  · exact nI_pos (by omega) z
  · omega
