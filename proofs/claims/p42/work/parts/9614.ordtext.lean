/-! an order's text -/
def ordI (o : OR4) (i1 i2 : List It) : List It := tok (doStep o.1) :: bl :: nmI o.2.1 :: ((if o.1 < 3 then [] else bl :: tok 134 :: bl :: i1) ++ ((if o.2.2.2 = [] then [] else bl :: tok 139 :: bl :: i2) ++ [tok 59]))
def PO (N : Nat) (o : OR4) (i : List It) : Prop := o.1 < 5 ∧ o.2.1 < N ∧ ∃ i1 i2, ((o.1 < 3 ∧ o.2.2.1 = []) ∨ (3 ≤ o.1 ∧ PX N 3 false o.2.2.1 i1)) ∧ (o.2.2.2 = [] ∨ (o.2.2.2 ≠ [] ∧ PX N 4 true o.2.2.2 i2)) ∧ i = ordI o i1 i2
/-- an order of the law's store, as steps and as words -/
def OX (N : Nat) (S : ZS) (c : Nat) (o : OR4) (i : List It) : Prop := OB S c 13 ∧ S.i (c / 2) 0 = nI o.1 ∧ o.1 < 5 ∧ S.i (c / 2) 1 = nI o.2.1 ∧ o.2.1 < N ∧ ∃ i1 i2, ((o.1 < 3 ∧ o.2.2.1 = [] ∧ S.r (c / 2) 2 = 0) ∨ (3 ≤ o.1 ∧ TX N 3 false S (S.r (c / 2) 2) o.2.2.1 i1)) ∧ ((S.r (c / 2) 3 = 0 ∧ o.2.2.2 = []) ∨ (S.r (c / 2) 3 ≠ 0 ∧ o.2.2.2 ≠ [] ∧ TX N 4 true S (S.r (c / 2) 3) o.2.2.2 i2)) ∧ i = ordI o i1 i2
theorem OX.p {N : Nat} {S : ZS} {c : Nat} {o : OR4} {i : List It} (h : OX N S c o i) : PO N o i := by
  obtain ⟨h1, h2, h3, h4, h5, i1, i2, h6, h7, h8⟩ := h
  exact ⟨h3, h5, i1, i2, h6.imp (fun z => ⟨z.1, z.2.1⟩) (fun z => ⟨z.1, TX.p _ _ _ _ _ z.2⟩), h7.imp (fun z => z.2) (fun z => ⟨z.2.1, TX.p _ _ _ _ _ z.2.2⟩), h8⟩
theorem OX.s {N : Nat} {S : ZS} {c : Nat} {o : OR4} {i : List It} (h : OX N S c o i) : OS N S c o := by
  obtain ⟨h1, h2, h3, h4, h5, i1, i2, h6, h7, h8⟩ := h
  exact ⟨h1, h2, h3, h4, h5, h6.imp (fun z => ⟨z.1, z.2.1⟩) (fun z => ⟨z.1, TS.up _ _ _ _ _ (by omega) (TX.t _ _ _ _ _ z.2)⟩), h7.imp id (fun z => ⟨z.1, z.2.1, TS.up _ _ _ _ _ (by omega) (TX.t _ _ _ _ _ z.2.2)⟩)⟩
theorem OX.ste {N : Nat} {Q : Nat → Prop} {x y : Nat} {S S' : ZS} {c : Nat} {o : OR4} {i : List It} (h : OX N S c o i) (s : Ste Q x y S S') (hq : ¬ Q 12 ∧ ¬ Q 13) : OX N S' c o i := by
  obtain ⟨h1, h2, h3, h4, h5, i1, i2, h6, h7, h8⟩ := h
  obtain ⟨e1, e2⟩ := (s.2.2.1 _ h1.2.1).2 (by rw [h1.2.2]; exact hq.2)
  refine ⟨h1.ste s, by rw [e1]; exact h2, h3, by rw [e1]; exact h4, h5, i1, i2, ?_, ?_, h8⟩
  · rw [e2]
    exact h6.imp id (fun z => ⟨z.1, TX.ste s hq.1 _ _ _ _ _ z.2⟩)
  · rw [e2]
    exact h7.imp id (fun z => ⟨z.1, z.2.1, TX.ste s hq.1 _ _ _ _ _ z.2.2⟩)
/-! the builder's methods, as equations -/
theorem tb_new {S : ZS} {W : List Int32} (hc : 2 ≤ S.c) (hw : 20 ≤ S.w) : ∃ S4, kJ4_init_da8c8 (2 * S.n + 1) (S.new 1 4 z0) = some S4 ∧ TBq S S4 (2 * S.n + 1) W W 2 20 ∧ Ste NO 2 20 S S4 ∧ S4.c ≤ (S.new 1 4 z0).c ∧ S4.w ≤ (S.new 1 4 z0).w := by
  obtain ⟨S4, e, b, s4, l1, l2, n⟩ := sb_new (S := S) hc hw
  have hd : (2 * S.n + 1) / 2 = S.n := (nw_o _).2
  exact ⟨S4, e, ⟨[], rfl, s4, by rw [hd]; exact Nat.le_refl _, n, 16, b, by decide⟩, s4, l1, l2⟩
theorem tb_app {B S : ZS} {c d x y L : Nat} {W v u : List Int32} (h : TBq B S c W (v ++ u) x y) (hs : SX S d v) (hL : W.length ≤ L) (hL2 : L < 18000) (hx : x + 1 ≤ B.c) (hy : y + 2 * L ≤ B.w) : ∃ S', kJ4_append_15ec4_C c d S = some (c, S') ∧ TBq B S' c W u (x + 1) (y + 2 * L) ∧ S'.c ≤ S.c ∧ S'.w ≤ S.w ∧ OB S c 1 ∧ Fb c 1 (2 * L) S S' ∧ (∃ w cap, BX S c w cap) := by
  obtain ⟨w, hw, h⟩ := h
  have hl := tq_len hw hL
  obtain ⟨r1, r2⟩ := h.rm
  obtain ⟨cap, hb, hcap⟩ := h.2.2.2
  obtain ⟨S', e, he⟩ := k_app hb hcap hs (by omega) (by omega) (by omega)
  have hf := he.2.2.2.2.2
  exact ⟨S', e, ⟨w ++ v, by rw [List.append_assoc]; exact hw, (BE.tb h he).more (by omega)⟩, hf.1, hf.2.2.1, hb.o, he.2.mono (by omega) (by omega), w, cap, hb⟩
theorem tb_appS {B S : ZS} {c k x y L : Nat} {W u : List Int32} (h : TBq B S c W (sB k ++ u) x y) (hk : k < NS) (hL : W.length ≤ L) (hL2 : L < 18000) (hx : x + 1 ≤ B.c) (hy : y + 2 * L ≤ B.w) : ∃ S', kJ4_append_15ec4_S c k S = some (c, S') ∧ TBq B S' c W u (x + 1) (y + 2 * L) ∧ S'.c ≤ S.c ∧ S'.w ≤ S.w ∧ OB S c 1 ∧ Fb c 1 (2 * L) S S' ∧ (∃ w cap, BX S c w cap) := by
  rw [app_S]
  exact tb_app h (SX.k hk) hL hL2 hx hy
theorem tb_appI {B S : ZS} {c n x y L : Nat} {W u : List Int32} (h : TBq B S c W (dc n ++ u) x y) (hn : n < 1000000) (hL : W.length ≤ L) (hL2 : L < 18000) (hx : x + 1 ≤ B.c) (hy : y + 2 * L ≤ B.w) : ∃ S', kJ4_append_bf812 c (nI n) S = some (c, S') ∧ TBq B S' c W u (x + 1) (y + 2 * L) ∧ S'.c ≤ S.c ∧ S'.w ≤ S.w ∧ OB S c 1 ∧ Fb c 1 (2 * L) S S' ∧ (∃ w cap, BX S c w cap) := by
  obtain ⟨w, hw, h⟩ := h
  have hl := tq_len hw hL
  obtain ⟨r1, r2⟩ := h.rm
  obtain ⟨cap, hb, hcap⟩ := h.2.2.2
  obtain ⟨S', e, he⟩ := k_appI (n := n) hb hcap hn (by omega) (by omega) (by omega)
  have hf := he.2.2.2.2.2
  exact ⟨S', e, ⟨w ++ dc n, by rw [List.append_assoc]; exact hw, (BE.tb h he).more (by omega)⟩, hf.1, hf.2.2.1, hb.o, he.2.mono (by omega) (by omega), w, cap, hb⟩
theorem tb_str {B S : ZS} {c x y L : Nat} {W : List Int32} (h : TBq B S c W [] x y) (hL : W.length ≤ L) (hx : x + 2 ≤ B.c) (hy : y + (L + 4) ≤ B.w) : ∃ d S', kJ4_toString_0e30d c S = some (d, S') ∧ SO S' d W ∧ Ste NO (x + 2) (y + (L + 4)) B S' ∧ Ste NO 2 (L + 4) S S' ∧ OB S c 1 := by
  obtain ⟨w, hw, h⟩ := h
  rw [List.append_nil] at hw
  subst hw
  obtain ⟨r1, r2⟩ := h.rm
  have hs := h.s
  obtain ⟨cap, hb, hcap⟩ := h.2.2.2
  obtain ⟨d, S', e, k1, k2⟩ := k_toString hb (by omega) (by omega)
  exact ⟨d, S', e, k1, (hs.trans k2).mono (fun _ z => z) (by omega) (by omega), k2.mono (fun _ z => z) (by omega) (by omega), hb.o⟩
theorem tx_b2 {α : Type} {S0 S S1 : ZS} {z : Option (α × ZS)} {v : α} {f : α → ZS → Option (Nat × ZS)} {W : List Int32} {X Y : Nat} (hz : z = some (v, S1)) (hc : S1.c ≤ S.c) (hw : S1.w ≤ S.w) (K : TxR (f v S1) S0 S1 W X Y) : TxR (b2 Prod.snd z f) S0 S W X Y := by
  rw [hz, b2_s]
  exact K.chk'.mono hc hw
theorem TBq.no {S0 S S' : ZS} {c x y a b : Nat} {W u : List Int32} (h : TBq S0 S c W u x y) (s : Ste NO a b S S') : TBq S0 S' c W u (x + a) (y + b) := by
  obtain ⟨w, hw, h⟩ := h
  exact ⟨w, hw, h.no s⟩
/-- a constant and a tree's text, as one String -/
theorem tx_piece {N d k fld X Y L c0 : Nat} {b : Bool} {S0 S : ZS} {W : List Int32} {l : List SS} {i : List It} {F : Nat → ZS → Option (Nat × ZS)} (hN : N ≤ 10) (hd : d ≤ 6) (hk : k < NS) (ho : OB S c0 13) (t : TX N (d + 1) b S (S.r (c0 / 2) fld) l i) (hL : (sB k).length + tL d ≤ L) (hL2 : L < 18000) (hx : tC d + 6 ≤ S.c) (hy : tW d + 6 * L + 30 ≤ S.w) (K : ∀ e S', SX S' e (sB k ++ spl i) → Ste NO (tC d + 6) (tW d + 6 * L + 30) S S' → TxR (F e S') S0 S' W X Y) : TxR (nO Prod.snd S 1 4 fun c32 S33 => b1 Prod.snd (kJ4_init_da8c8 c32 S33) fun S35 => rcv S35 c32 1 <| b2 Prod.snd (kJ4_append_15ec4_S c32 k S35) fun c39 S37 => gN S37 c0 13 fld fun c40 => rcv S37 c40 12 <| b2 Prod.snd (kX10_text c40 S37) fun c43 S41 => rcv S41 c39 1 <| b2 Prod.snd (kJ4_append_15ec4_C c39 c43 S41) fun c46 S44 => rcv S44 c46 1 <| b2 Prod.snd (kJ4_toString_0e30d c46 S44) F) S0 S W X Y := by
  have hW : (sB k ++ (spl i ++ [])).length ≤ L := by
    have := PX.len hN d _ _ _ (TX.p _ _ _ _ _ t)
    rw [List.append_nil, List.length_append]
    omega
  obtain ⟨S4, e4, q4, s4, l1, l2⟩ := tb_new (S := S) (W := sB k ++ (spl i ++ [])) (by omega) (by omega)
  rw [nO_n (by omega) (by omega), e4, b1_s]
  refine (TxR.mono (TxR.chk' ?_) l1 l2).chk'.mono (Nat.sub_le _ _) (Nat.sub_le _ _)
  obtain ⟨S5, e5, q5, c5, w5, o5, -, -⟩ := tb_appS q4 hk hW hL2 (by omega) (by omega)
  rw [rcv_o o5]
  refine tx_b2 e5 c5 w5 ?_
  obtain ⟨o6, -, r6⟩ := q5.rd ho
  have t6 := q5.tx t
  have m6 := q5.rm
  rw [gN_o o6 (by rw [r6]; exact (TX.o t).ne0), r6, rcv_o (TX.o t6)]
  obtain ⟨e, S7, e7, k7, s7⟩ := text_ok hN d 12 _ _ _ _ _ (by omega) hd t6 (by omega) (by omega)
  have f7 := s7.2.2.2
  refine tx_b2 e7 f7.1 f7.2.2.1 ?_
  have q7 := q5.no s7
  obtain ⟨S8, e8, q8, c8, w8, o8, -, -⟩ := tb_app q7 k7 hW hL2 (by omega) (by omega)
  rw [rcv_o o8]
  refine tx_b2 e8 c8 w8 ?_
  obtain ⟨d9, S9, e9, k9, s9, s10, o9⟩ := tb_str q8 hW (by omega) (by omega)
  have f10 := s10.2.2.2
  rw [rcv_o o9]
  refine tx_b2 e9 f10.1 f10.2.2.1 ?_
  rw [List.append_nil] at k9
  exact K d9 S9 k9.sx (s9.mono (fun _ z => z) (by omega) (by omega))
def ordU2 (o : OR4) (i2 : List It) : List Int32 := (if o.2.2.2 = [] then sB 90 else sB 92 ++ spl i2) ++ (sB 93 ++ [])
/-- the second half: the test, the end -/
theorem ord_half {N x y X Y L c0 c1 : Nat} {S0 S : ZS} {W : List Int32} {o : OR4} {i2 : List It} (hN : N ≤ 10) (ho : OB S0 c0 13) (hT : (S0.r (c0 / 2) 3 = 0 ∧ o.2.2.2 = []) ∨ (S0.r (c0 / 2) 3 ≠ 0 ∧ o.2.2.2 ≠ [] ∧ TX N 4 true S0 (S0.r (c0 / 2) 3) o.2.2.2 i2)) (q : TBq S0 S c1 W (ordU2 o i2) x y) (hL : W.length ≤ L) (hL1 : 200 ≤ L) (hL2 : L < 18000) (hX : x + tC 3 + 10 ≤ X) (hY : y + (tW 3 + 6 * L + 30) + 5 * L + 4 ≤ Y) (hx : X ≤ S0.c) (hy : Y ≤ S0.w) : TxR (gV S c0 13 3 (
      rcv S c1 1 <| b2 Prod.snd (kJ4_append_15ec4_S c1 90 S) fun c25 S23 =>
      rcv S23 c25 1 <| b2 Prod.snd (kJ4_append_15ec4_S c25 93 S23) fun c28 S26 =>
      rcv S26 c28 1 <| b2 Prod.snd (kJ4_toString_0e30d c28 S26) fun c31 S29 =>
      some (c31, S29)) fun c22 =>
      nO Prod.snd S 1 4 fun c32 S33 =>
      b1 Prod.snd (kJ4_init_da8c8 c32 S33) fun S35 =>
      rcv S35 c32 1 <| b2 Prod.snd (kJ4_append_15ec4_S c32 92 S35) fun c39 S37 =>
      gN S37 c0 13 3 fun c40 =>
      rcv S37 c40 12 <| b2 Prod.snd (kX10_text c40 S37) fun c43 S41 =>
      rcv S41 c39 1 <| b2 Prod.snd (kJ4_append_15ec4_C c39 c43 S41) fun c46 S44 =>
      rcv S44 c46 1 <| b2 Prod.snd (kJ4_toString_0e30d c46 S44) fun c49 S47 =>
      rcv S47 c1 1 <| b2 Prod.snd (kJ4_append_15ec4_C c1 c49 S47) fun c52 S50 =>
      rcv S50 c52 1 <| b2 Prod.snd (kJ4_append_15ec4_S c52 93 S50) fun c55 S53 =>
      rcv S53 c55 1 <| b2 Prod.snd (kJ4_toString_0e30d c55 S53) fun c58 S56 =>
      some (c58, S56)) S0 S W X Y := by
  obtain ⟨o1, -, r1⟩ := q.rd ho
  have m1 := q.rm
  unfold ordU2 at q
  rcases hT with ⟨z1, z2⟩ | ⟨z1, z2, z3⟩
  · rw [gV_0 o1 (by rw [r1]; exact z1)]
    rw [if_pos z2] at q
    refine tq_appS (k := 90) q (by decide) hL hL2 (by omega) (by omega) (fun S2 q2 => ?_)
    refine tq_appS (k := 93) q2 (by decide) hL hL2 (by omega) (by omega) (fun S3 q3 => ?_)
    exact tq_end q3 hL (by omega) (by omega) hx hy
  · rw [gV_1 o1 (by rw [r1]; exact z1)]
    rw [if_neg z2] at q
    have t1 := q.tx z3
    rw [← r1] at t1
    have hl3 : tL 3 = 184 := rfl
    have hk92 : (sB 92).length = 6 := rfl
    refine tx_piece (d := 3) (L := L) hN (by omega) (by decide) o1 t1 (by omega) hL2 (by omega) (by omega) (fun e S2 k2 s2 => ?_)
    have q2 := q.no s2
    refine tq_app q2 k2 hL hL2 (by omega) (by omega) (fun S3 q3 => ?_)
    refine tq_appS (k := 93) q3 (by decide) hL hL2 (by omega) (by omega) (fun S4 q4 => ?_)
    exact tq_end q4 hL (by omega) (by omega) hx hy
theorem ord_spl {o : OR4} {i1 i2 : List It} (h : o.1 < 5) : spl (ordI o i1 i2) = sB (56 + o.1) ++ (sB 89 ++ (dc o.2.1 ++ ((if o.1 < 3 then sB 90 else sB 91 ++ spl i1) ++ ordU2 o i2))) := by
  have e0 : sB (56 + o.1) = (tok (doStep o.1)).2 := by
    rcases (show o.1 = 0 ∨ o.1 = 1 ∨ o.1 = 2 ∨ o.1 = 3 ∨ o.1 = 4 by omega) with z | z | z | z | z <;> rw [z] <;> rfl
  unfold ordI ordU2
  rw [spl_cons, spl_cons, spl_cons, spl_app, spl_app, e0]
  congr 1
  show [32] ++ ((109 :: dc o.2.1) ++ _) = _
  have e1 : spl (if o.1 < 3 then [] else bl :: tok 134 :: bl :: i1) = (if o.1 < 3 then sB 90 else sB 91 ++ spl i1) := by
    split
    · rfl
    · rfl
  have e2 : spl (if o.2.2.2 = [] then [] else bl :: tok 139 :: bl :: i2) = (if o.2.2.2 = [] then sB 90 else sB 92 ++ spl i2) := by
    split
    · rfl
    · rfl
  rw [e1, e2]
  rfl



set_option maxHeartbeats 4000000 in
theorem ord_mid {N x y X Y L c0 c1 : Nat} {S0 S : ZS} {W : List Int32} {o : OR4} {i1 i2 : List It} (hN : N ≤ 10) (ho : OB S0 c0 13) (hU : (o.1 < 3 ∧ o.2.2.1 = [] ∧ S0.r (c0 / 2) 2 = 0) ∨ (3 ≤ o.1 ∧ TX N 3 false S0 (S0.r (c0 / 2) 2) o.2.2.1 i1)) (hT : (S0.r (c0 / 2) 3 = 0 ∧ o.2.2.2 = []) ∨ (S0.r (c0 / 2) 3 ≠ 0 ∧ o.2.2.2 ≠ [] ∧ TX N 4 true S0 (S0.r (c0 / 2) 3) o.2.2.2 i2)) (q : TBq S0 S c1 W ((if o.1 < 3 then sB 90 else sB 91 ++ spl i1) ++ ordU2 o i2) x y) (hL : W.length ≤ L) (hL1 : 200 ≤ L) (hL2 : L < 18000) (hX : x + 1 + (tC 2 + 6) + tC 3 + 10 ≤ X) (hY : y + 2 * L + (tW 2 + 6 * L + 30) + (tW 3 + 6 * L + 30) + 5 * L + 4 ≤ Y) (hx : X ≤ S0.c) (hy : Y ≤ S0.w) : TxR (gV S c0 13 2 (
    rcv S c1 1 <| b2 Prod.snd (kJ4_append_15ec4_S c1 90 S) fun c21 S19 =>
    gV S19 c0 13 3 (
      rcv S19 c21 1 <| b2 Prod.snd (kJ4_append_15ec4_S c21 90 S19) fun c25 S23 =>
      rcv S23 c25 1 <| b2 Prod.snd (kJ4_append_15ec4_S c25 93 S23) fun c28 S26 =>
      rcv S26 c28 1 <| b2 Prod.snd (kJ4_toString_0e30d c28 S26) fun c31 S29 =>
      some (c31, S29)) fun c22 =>
      nO Prod.snd S19 1 4 fun c32 S33 =>
      b1 Prod.snd (kJ4_init_da8c8 c32 S33) fun S35 =>
      rcv S35 c32 1 <| b2 Prod.snd (kJ4_append_15ec4_S c32 92 S35) fun c39 S37 =>
      gN S37 c0 13 3 fun c40 =>
      rcv S37 c40 12 <| b2 Prod.snd (kX10_text c40 S37) fun c43 S41 =>
      rcv S41 c39 1 <| b2 Prod.snd (kJ4_append_15ec4_C c39 c43 S41) fun c46 S44 =>
      rcv S44 c46 1 <| b2 Prod.snd (kJ4_toString_0e30d c46 S44) fun c49 S47 =>
      rcv S47 c21 1 <| b2 Prod.snd (kJ4_append_15ec4_C c21 c49 S47) fun c52 S50 =>
      rcv S50 c52 1 <| b2 Prod.snd (kJ4_append_15ec4_S c52 93 S50) fun c55 S53 =>
      rcv S53 c55 1 <| b2 Prod.snd (kJ4_toString_0e30d c55 S53) fun c58 S56 =>
      some (c58, S56)) fun c18 =>
    nO Prod.snd S 1 4 fun c59 S60 =>
    b1 Prod.snd (kJ4_init_da8c8 c59 S60) fun S62 =>
    rcv S62 c59 1 <| b2 Prod.snd (kJ4_append_15ec4_S c59 91 S62) fun c66 S64 =>
    gN S64 c0 13 2 fun c67 =>
    rcv S64 c67 12 <| b2 Prod.snd (kX10_text c67 S64) fun c70 S68 =>
    rcv S68 c66 1 <| b2 Prod.snd (kJ4_append_15ec4_C c66 c70 S68) fun c73 S71 =>
    rcv S71 c73 1 <| b2 Prod.snd (kJ4_toString_0e30d c73 S71) fun c76 S74 =>
    rcv S74 c1 1 <| b2 Prod.snd (kJ4_append_15ec4_C c1 c76 S74) fun c79 S77 =>
    gV S77 c0 13 3 (
      rcv S77 c79 1 <| b2 Prod.snd (kJ4_append_15ec4_S c79 90 S77) fun c83 S81 =>
      rcv S81 c83 1 <| b2 Prod.snd (kJ4_append_15ec4_S c83 93 S81) fun c86 S84 =>
      rcv S84 c86 1 <| b2 Prod.snd (kJ4_toString_0e30d c86 S84) fun c89 S87 =>
      some (c89, S87)) fun c80 =>
      nO Prod.snd S77 1 4 fun c90 S91 =>
      b1 Prod.snd (kJ4_init_da8c8 c90 S91) fun S93 =>
      rcv S93 c90 1 <| b2 Prod.snd (kJ4_append_15ec4_S c90 92 S93) fun c97 S95 =>
      gN S95 c0 13 3 fun c98 =>
      rcv S95 c98 12 <| b2 Prod.snd (kX10_text c98 S95) fun c101 S99 =>
      rcv S99 c97 1 <| b2 Prod.snd (kJ4_append_15ec4_C c97 c101 S99) fun c104 S102 =>
      rcv S102 c104 1 <| b2 Prod.snd (kJ4_toString_0e30d c104 S102) fun c107 S105 =>
      rcv S105 c79 1 <| b2 Prod.snd (kJ4_append_15ec4_C c79 c107 S105) fun c110 S108 =>
      rcv S108 c110 1 <| b2 Prod.snd (kJ4_append_15ec4_S c110 93 S108) fun c113 S111 =>
      rcv S111 c113 1 <| b2 Prod.snd (kJ4_toString_0e30d c113 S111) fun c116 S114 =>
      some (c116, S114)) S0 S W X Y := by
  obtain ⟨p4, j4, r4⟩ := q.rd ho
  have m4 := q.rm
  rcases hU with ⟨z, -, z2⟩ | ⟨z, t⟩
  · rw [if_pos z] at q
    rw [gV_0 p4 (by rw [r4]; exact z2)]
    refine tq_appS (k := 90) q (by decide) hL hL2 (by omega) (by omega) (fun S5 q5 => ?_)
    exact ord_half hN ho hT q5 hL hL1 hL2 (by omega) (by omega) hx hy
  · rw [if_neg (show ¬ o.1 < 3 by omega)] at q
    rw [gV_1 p4 (by rw [r4]; exact (TX.o t).ne0)]
    have t4 := q.tx t
    rw [← r4] at t4
    have hk91 : (sB 91).length = 4 := rfl
    have hl2 : tL 2 = 88 := rfl
    refine tx_piece (d := 2) (L := L) hN (by omega) (by decide) p4 t4 (by omega) (by omega) (by omega) (by omega) (fun e S5 k5 s5 => ?_)
    have q5 := q.no s5
    refine tq_app q5 k5 hL hL2 (by omega) (by omega) (fun S6 q6 => ?_)
    exact ord_half hN ho hT q6 hL hL1 hL2 (by omega) (by omega) hx hy
set_option maxRecDepth 20000 in
theorem k_ordText {N : Nat} {S : ZS} {c : Nat} {o : OR4} {i : List It} (hN : N ≤ 10) (h : OX N S c o i) (hc : 400 ≤ S.c) (hw : 30000 ≤ S.w) : ∃ e S', kX11_text c S = some (e, S') ∧ SX S' e (spl i) ∧ Ste NO 400 30000 S S' ∧ (spl i).length ≤ 320 := by
  obtain ⟨h1, h2, h3, h4, h5, i1, i2, h6, h7, h8⟩ := h
  subst h8
  have hl3 : tL 3 = 184 ∧ tL 2 = 88 ∧ tC 3 = 165 ∧ tC 2 = 77 ∧ tW 3 = 8920 ∧ tW 2 = 3336 := ⟨rfl, rfl, rfl, rfl, rfl, rfl⟩
  have hW := ord_spl (i1 := i1) (i2 := i2) h3
  have a1 : (if o.1 < 3 then sB 90 else sB 91 ++ spl i1).length ≤ 92 := by
    rcases h6 with ⟨z, -, -⟩ | ⟨z, t⟩
    · rw [if_pos z]
      decide
    · rw [if_neg (by omega), List.length_append]
      have := PX.len hN 2 _ _ _ (TX.p _ _ _ _ _ t)
      have e : (sB 91).length = 4 := rfl
      omega
  have a2 : (ordU2 o i2).length ≤ 191 := by
    unfold ordU2
    rcases h7 with ⟨-, z⟩ | ⟨-, z, t⟩
    · rw [if_pos z]
      decide
    · rw [if_neg z, List.length_append, List.length_append]
      have := PX.len hN 3 _ _ _ (TX.p _ _ _ _ _ t)
      have e : (sB 92).length = 6 := rfl
      have e2 : (sB 93 ++ []).length = 1 := rfl
      omega
  have a3 : (dc o.2.1).length = 1 := by rw [(dc_len (m := o.2.1) (by omega)).2.2, if_pos (by omega)]
  have a4 : (sB (56 + o.1)).length ≤ 7 := by
    rcases (show o.1 = 0 ∨ o.1 = 1 ∨ o.1 = 2 ∨ o.1 = 3 ∨ o.1 = 4 by omega) with z | z | z | z | z <;> rw [z] <;> decide
  have a5 : (sB 89).length = 2 := rfl
  have hL : (spl (ordI o i1 i2)).length ≤ 320 := by
    rw [hW, List.length_append, List.length_append, List.length_append, List.length_append]
    omega
  have key : TxR (kX11_text c S) S S (spl (ordI o i1 i2)) 400 30000 := by
    rw [hW] at hL ⊢
    unfold kX11_text
    refine TxR.chk' ?_
    refine tq_new Ste.refl (by omega) (by omega) (fun S1 q1 => ?_)
    obtain ⟨p1, j1, r1⟩ := q1.rd h1
    rw [gI_o p1, j1, h2, stN_n (j := 2) (by show o.1 < 5; exact h3) (by omega)]
    refine tq_appS (k := 56 + o.1) q1 (by show 56 + o.1 < 94; omega) hL (by omega) (by omega) (by omega) (fun S2 q2 => ?_)
    refine tq_appS (k := 89) q2 (by decide) hL (by omega) (by omega) (by omega) (fun S3 q3 => ?_)
    obtain ⟨p3, j3, r3⟩ := q3.rd h1
    rw [gI_o p3, j3, h4]
    refine tq_appI q3 (by omega) hL (by omega) (by omega) (by omega) (fun S4 q4 => ?_)
    obtain ⟨b1, b2, b3, b4, b5, b6⟩ := hl3
    refine ord_mid (L := 320) hN h1 h6 h7 q4 hL (Nat.le_of_ble_eq_true rfl) (Nat.le_of_ble_eq_true rfl) ?_ ?_ hc hw
    · rw [b3, b4]
      exact Nat.le_of_ble_eq_true rfl
    · rw [b5, b6]
      exact Nat.le_of_ble_eq_true rfl
  obtain ⟨e, S', k1, k2, k3, -⟩ := key
  exact ⟨e, S', k1, k2, k3, hL⟩
