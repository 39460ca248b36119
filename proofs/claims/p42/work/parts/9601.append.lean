/-! a String is appended -/
theorem s_len {S : ZS} {d : Nat} {w : List Int32} (h : OB S d 0) (h1 : S.i (d / 2) 1 = 0) (h2 : AR S (S.r (d / 2) 0) 200000 w.length) : kNJ0_length_8abf5 d S = some (nI w.length, S) := by
  unfold kNJ0_length_8abf5 kNJ0_coder_7d493
  refine chk_of ?_ (Nat.le_refl _) (Nat.le_refl _)
  rw [gN_o h h2.ne0, aL_n h2, rcv_o h, gI_o h, h1]
  have e : zbL 0 S = some (0, S) := if_pos (Or.inl rfl)
  rw [e]
  have e2 : chk Prod.snd S (some ((0 : Int32), S)) = some (0, S) := chk_of rfl (Nat.le_refl _) (Nat.le_refl _)
  rw [e2, b2_s, sh_r0]
  exact chk_of rfl (Nat.le_refl _) (Nat.le_refl _)
theorem s_cod {S : ZS} {d : Nat} (h : OB S d 0) (h1 : S.i (d / 2) 1 = 0) : kNJ0_coder_7d493 d S = some (0, S) := by
  unfold kNJ0_coder_7d493
  refine chk_of ?_ (Nat.le_refl _) (Nat.le_refl _)
  rw [gI_o h, h1]
  exact if_pos (Or.inl rfl)
theorem s_put {S : ZS} {c d cap : Nat} {w v : List Int32} (hb : BX S c w cap) (h : OB S d 0) (h1 : S.i (d / 2) 1 = 0) (h2 : AR S (S.r (d / 2) 0) 200000 v.length) (hf : ∀ j, j < v.length → fitB (S.i (S.r (d / 2) 0 / 2) j) = true) (hl : w.length + v.length ≤ cap) : kJ5_putStringAt_47b60 c (nI w.length) d S = some (S.wa (S.r (c / 2) 0 / 2) (va_cpy (S.i (S.r (d / 2) 0 / 2)) (S.i (S.r (c / 2) 0 / 2)) 0 w.length v.length)) := by
  obtain ⟨a1, a2, a3, a4, a5, a6, a7, a8⟩ := id hb
  have hc9 := a4.2.2.2
  unfold kJ5_putStringAt_47b60 kJ5_inflateIfNeededFor_a7421 kNJ0_getBytes_840e7
  refine chk_of ?_ (Nat.le_refl _) (Nat.le_refl _)
  have e1 : chk id S (gI S c 1 1 fun x1 => rcv S d 0 <| b2 id (kNJ0_coder_7d493 d S) fun x4 S2 => if x1 = x4 then some S2 else none) = some S := by
    refine chk_of ?_ (Nat.le_refl _) (Nat.le_refl _)
    rw [gI_o a1, a2, rcv_o h, s_cod h h1, b2_s]
    refine chk_of ?_ (Nat.le_refl _) (Nat.le_refl _)
    rw [if_pos rfl]
  rw [rcv_o a1, e1, b1_s]
  refine chk_of ?_ (Nat.le_refl _) (Nat.le_refl _)
  rw [gN_o a1 a4.ne0, gI_o a1, a2, rcv_o h]
  obtain ⟨S9, e9⟩ : ∃ z, z = S.wa (S.r (c / 2) 0 / 2) (va_cpy (S.i (S.r (d / 2) 0 / 2)) (S.i (S.r (c / 2) 0 / 2)) 0 w.length v.length) := ⟨_, rfl⟩
  have hle : S9.c ≤ S.c ∧ S9.w ≤ S.w := by rw [e9]; exact ⟨Nat.le_refl _, Nat.le_refl _⟩
  have e2 : chk id S (rcv S d 0 <| b2 id (kNJ0_coder_7d493 d S) fun x3 S1 => if x3 = 0 then gN S1 d 0 0 fun c8 => gN S1 d 0 0 fun c9 => aL S1 c9 200000 fun x10 => cpB S1 c8 0 (S.r (c / 2) 0) (nI w.length <<< (0 &&& 31)) x10 fun S11 => some S11 else gN S1 d 0 0 fun c5 => gN S1 d 0 0 fun c6 => aL S1 c6 200000 fun x7 => none) = some S9 := by
    refine chk_of ?_ hle.1 hle.2
    rw [rcv_o h, s_cod h h1, b2_s]
    refine chk_of ?_ hle.1 hle.2
    rw [if_pos rfl, gN_o h h2.ne0, gN_o h h2.ne0, aL_n h2, sh_l0]
    have ez : (0 : Int32).toNatClampNeg = 0 := rfl
    have eq : (nI v.length).toNatClampNeg = v.length := nI_clamp (by omega)
    have ew : (nI w.length).toNatClampNeg = w.length := nI_clamp (by omega)
    unfold cpB
    rw [ez, eq, ew, if_pos, e9]
    refine ⟨⟨h2.ok, a4.ok⟩, ⟨by decide, nI_pos (by omega), nI_pos (by omega)⟩, ⟨?_, ?_⟩, ?_⟩
    · rw [h2.2.2.1]; omega
    · rw [a4.2.2.1]; omega
    · unfold fitR
      refine List.all_eq_true.mpr (fun i hi => ?_)
      rw [Nat.zero_add]
      exact hf i (List.mem_range.mp hi)
  rw [e2, b1_s]
  rw [← e9]
  exact chk_of rfl (Nat.le_refl _) (Nat.le_refl _)
theorem s_putK {S : ZS} {c k cap : Nat} {w : List Int32} (hb : BX S c w cap) (hk : k < NS) (hl : w.length + (sB k).length ≤ cap) : kJ5_putStringAt_47b60_S c (nI w.length) k S = some (S.wa (S.r (c / 2) 0 / 2) (va_cpy (sF k) (S.i (S.r (c / 2) 0 / 2)) 0 w.length (sB k).length)) := by
  obtain ⟨a1, a2, a3, a4, a5, a6, a7, a8⟩ := id hb
  have hc9 := a4.2.2.2
  have hcod : ∀ g, kJ0_coder_7d493 k g = some 0 := fun g => if_pos hk
  unfold kJ5_putStringAt_47b60_S kJ5_inflateIfNeededFor_a7421_S kNJ0_getBytes_840e7_S
  refine chk_of ?_ (Nat.le_refl _) (Nat.le_refl _)
  have e1 : chk id S (gI S c 1 1 fun x1 => ckS k <| (kJ0_coder_7d493 k S.g).bind fun x2 => if x1 = x2 then some S else none) = some S := by
    refine chk_of ?_ (Nat.le_refl _) (Nat.le_refl _)
    rw [gI_o a1, a2, hcod, some_bind, if_pos rfl]
    exact if_pos hk
  rw [rcv_o a1, e1, b1_s]
  refine chk_of ?_ (Nat.le_refl _) (Nat.le_refl _)
  rw [gN_o a1 a4.ne0, gI_o a1, a2]
  obtain ⟨S9, e9⟩ : ∃ z, z = S.wa (S.r (c / 2) 0 / 2) (va_cpy (sF k) (S.i (S.r (c / 2) 0 / 2)) 0 w.length (sB k).length) := ⟨_, rfl⟩
  have hle : S9.c ≤ S.c ∧ S9.w ≤ S.w := by rw [e9]; exact ⟨Nat.le_refl _, Nat.le_refl _⟩
  have e2 : chk id S (ckS k <| (kJ0_coder_7d493 k S.g).bind fun x1 => if x1 = 0 then ckS k <| ckS k <| ckS k <| cpS S k 0 (S.r (c / 2) 0) (nI w.length <<< (0 &&& 31)) (nI (sL k)) fun S3 => some S3 else ckS k <| ckS k <| ckS k <| none) = some S9 := by
    refine chk_of ?_ hle.1 hle.2
    rw [hcod, some_bind, if_pos rfl, sh_l0]
    unfold ckS
    rw [if_pos hk, if_pos hk, if_pos hk, if_pos hk]
    have ez : (0 : Int32).toNatClampNeg = 0 := rfl
    have el : sL k = (sB k).length := rfl
    have eq : (nI (sB k).length).toNatClampNeg = (sB k).length := nI_clamp (by omega)
    have ew : (nI w.length).toNatClampNeg = w.length := nI_clamp (by omega)
    unfold cpS
    rw [el, ez, eq, ew, if_pos, e9]
    refine ⟨⟨hk, a4.ok⟩, ⟨by decide, nI_pos (by omega), nI_pos (by omega)⟩, ⟨?_, ?_⟩, ?_⟩
    · rw [Nat.zero_add]; exact Nat.le_refl _
    · rw [a4.2.2.1]; omega
    · unfold fitR
      refine List.all_eq_true.mpr (fun i hi => ?_)
      rw [Nat.zero_add]
      exact (sB_by hk).fit (List.mem_range.mp hi)
  rw [e2]
  refine Eq.trans (if_pos hk) ?_
  rw [b1_s, ← e9]
  exact chk_of rfl (Nat.le_refl _) (Nat.le_refl _)
theorem cpy_lo {α : Type} {f g : Nat → α} {dp n j : Nat} (h : j < dp) : va_cpy f g 0 dp n j = g j := if_neg (by omega)
theorem cpy_in {α : Type} {f g : Nat → α} {dp n j : Nat} (h : j < n) : va_cpy f g 0 dp n (dp + j) = f j := by
  unfold va_cpy
  rw [if_pos (by omega), Nat.zero_add, Nat.add_sub_cancel_left]
theorem cpy_all {f g : Nat → Int32} {dp n cap : Nat} (hf : ∀ j, j < n → fitB (f j) = true) (hg : ∀ j, j < cap → fitB (g j) = true) : ∀ j, j < cap → fitB (va_cpy f g 0 dp n j) = true := by
  intro j hj
  unfold va_cpy
  by_cases e : dp ≤ j ∧ j < dp + n
  · rw [if_pos e, Nat.zero_add]
    exact hf _ (by omega)
  · rw [if_neg e]
    exact hg j hj
/-- a builder and its text, behind it -/
def BE (c : Nat) (w : List Int32) (x y : Nat) (S S' : ZS) : Prop := (∃ cap, BX S' c w cap ∧ cap ≤ 2 * w.length + 16) ∧ Fb c x y S S'
theorem k_app {S : ZS} {c d cap : Nat} {w v : List Int32} (hb : BX S c w cap) (hcap : cap ≤ 2 * w.length + 16) (hs : SX S d v) (hl : w.length + v.length < 20000) (hc : 1 ≤ S.c) (hw : 2 * (w.length + v.length) ≤ S.w) : ∃ S', kJ4_append_15ec4_C c d S = some (c, S') ∧ BE c (w ++ v) 1 (2 * (w.length + v.length)) S S' := by
  obtain ⟨S1, cap', e1, bb, n1, n2, f1, o1⟩ := k_ensure (need := w.length + v.length) hb hl (by omega) hcap hc hw
  obtain ⟨hby, hs⟩ := hs
  have a3 := hb.2.2.1
  have a3' := bb.2.2.1
  have hE : nI w.length + nI v.length = nI (w.length + v.length) := nI_plus
  have o1' : OB S1 c 1 := bb.o
  have hcE : BE c (w ++ v) 1 (2 * (w.length + v.length)) S ((S1.wa (S1.r (c / 2) 0 / 2) (va_cpy (fun j => v.getD j 0) (S1.i (S1.r (c / 2) 0 / 2)) 0 w.length v.length)).wi (c / 2) 3 (nI (w.length + v.length))) :=
    ⟨⟨cap', bb.put hby n1 (fun j hj => cpy_lo hj) (fun j hj => cpy_in hj) (cpy_all (fun j hj => hby.fit hj) bb.2.2.2.2.2.2.2), by rw [List.length_append]; omega⟩, (f1.trans (Fb.put bb)).mono (by omega) (by omega)⟩
  have f5 := hcE.2.2.2.2.2
  obtain ⟨S9, e9⟩ : ∃ z, z = ((S1.wa (S1.r (c / 2) 0 / 2) (va_cpy (fun j => v.getD j 0) (S1.i (S1.r (c / 2) 0 / 2)) 0 w.length v.length)).wi (c / 2) 3 (nI (w.length + v.length))) := ⟨_, rfl⟩
  rw [← e9] at hcE f5
  have hle1 : S1.c ≤ S.c ∧ S1.w ≤ S.w := ⟨f1.2.2.2.2.1, f1.2.2.2.2.2.2.1⟩
  have hle9 : S9.c ≤ S1.c ∧ S9.w ≤ S1.w := by rw [e9]; exact ⟨Nat.le_refl _, Nat.le_refl _⟩
  have hle : S9.c ≤ S.c ∧ S9.w ≤ S.w := ⟨Nat.le_trans hle9.1 hle1.1, Nat.le_trans hle9.2 hle1.2⟩
  refine ⟨S9, ?_, hcE⟩
  unfold kJ4_append_15ec4_C
  rcases hs with ⟨p1, p2, p3, p4, p5⟩ | ⟨k, rfl, hk, rfl⟩
  · have hdn := p2.2.1
    have hdc : d / 2 ≠ c / 2 := fun z => by
      have h1 := p2.2.2
      rw [z, hb.o.2.2] at h1
      cases h1
    obtain ⟨q1, q2⟩ := o1 _ hdn
    have hd1 : OB S1 d 0 := ⟨p1, Nat.lt_of_lt_of_le hdn f1.2.1, by rw [(f1.2.2.1 _ hdn).1]; exact p2.2.2⟩
    have hr1 := congrFun (q2 hdc) 0
    have har : AR S1 (S1.r (d / 2) 0) 200000 v.length := by
      rw [hr1]
      exact ⟨p4.1, Nat.lt_of_lt_of_le p4.2.1 f1.2.1, by rw [(f1.2.2.1 _ p4.2.1).1]; exact p4.2.2.1, p4.2.2.2⟩
    have hco : ∀ j, j < v.length → S1.i (S1.r (d / 2) 0 / 2) j = v.getD j 0 := fun j hj => by
      rw [hr1, (o1 _ p4.2.1).1]
      exact p5 j hj
    have hcpy : va_cpy (S1.i (S1.r (d / 2) 0 / 2)) (S1.i (S1.r (c / 2) 0 / 2)) 0 w.length v.length = va_cpy (fun j => v.getD j 0) (S1.i (S1.r (c / 2) 0 / 2)) 0 w.length v.length := by
      funext j
      unfold va_cpy
      by_cases z : w.length ≤ j ∧ j < w.length + v.length
      · rw [if_pos z, if_pos z]
        exact hco _ (by omega)
      · rw [if_neg z, if_neg z]
    have hput := s_put bb hd1 (by rw [q1]; exact p3) har (fun j hj => by rw [hco j hj]; exact hby.fit hj) n1
    rw [hcpy] at hput
    rw [if_pos p1]
    unfold kJ4_append_15ec4 kJ5_append_cf1ce
    have e3 : chk Prod.snd S (rcv S d 0 <| b2 Prod.snd (kNJ0_length_8abf5 d S) fun x3 S1 => gI S1 c 1 3 fun x4 => rcv S1 c 1 <| b1 Prod.snd (kJ5_ensureCapacityInternal_d00df c (x4 + x3) S1) fun S5 => gI S5 c 1 3 fun x7 => rcv S5 c 1 <| b1 Prod.snd (kJ5_putStringAt_47b60 c x7 d S5) fun S8 => gI S8 c 1 3 fun x10 => pI S8 c 1 3 (x10 + x3) fun S11 => some (c, S11)) = some (c, S9) := by
      refine chk_of ?_ hle.1 hle.2
      rw [rcv_o p2, s_len p2 p3 p4, b2_s]
      refine chk_of ?_ hle.1 hle.2
      rw [gI_o hb.o, a3, hE, rcv_o hb.o, e1, b1_s]
      refine chk_of ?_ hle9.1 hle9.2
      rw [gI_o o1', a3', rcv_o o1', hput, b1_s]
      refine chk_of ?_ (by rw [e9]; exact Nat.le_refl _) (by rw [e9]; exact Nat.le_refl _)
      have o9 : OB (S1.wa (S1.r (c / 2) 0 / 2) (va_cpy (fun j => v.getD j 0) (S1.i (S1.r (c / 2) 0 / 2)) 0 w.length v.length)) c 1 := o1'
      have a9 : (S1.wa (S1.r (c / 2) 0 / 2) (va_cpy (fun j => v.getD j 0) (S1.i (S1.r (c / 2) 0 / 2)) 0 w.length v.length)).i (c / 2) 3 = nI w.length := by
        rw [wa_ne (Ne.symm bb.ne)]
        exact a3'
      rw [gI_o o9, a9, hE, pI_o o9, ← e9]
    refine chk_of ?_ hle.1 hle.2
    rw [rcv_o hb.o, e3, b2_s]
    exact chk_of rfl (Nat.le_refl _) (Nat.le_refl _)
  · have e0 : ¬ (2 * k + 2) % 2 = 1 := by omega
    have ek : (2 * k + 2) / 2 - 1 = k := by omega
    have hput := s_putK bb hk n1
    have hlen : ∀ g, kJ0_length_8abf5 k g = some (nI (sB k).length) := fun g => by
      unfold kJ0_length_8abf5 kJ0_coder_7d493 ckS
      rw [if_pos hk, if_pos hk, if_pos hk, if_pos hk, some_bind, sh_r0]
      rfl
    have hcpy : va_cpy (sF k) (S1.i (S1.r (c / 2) 0 / 2)) 0 w.length (sB k).length = va_cpy (fun j => (sB k).getD j 0) (S1.i (S1.r (c / 2) 0 / 2)) 0 w.length (sB k).length := rfl
    rw [hcpy] at hput
    rw [if_neg e0, ek]
    unfold kJ4_append_15ec4_S kJ5_append_cf1ce_S
    have e3 : chk Prod.snd S (ckS k <| (kJ0_length_8abf5 k S.g).bind fun x1 => gI S c 1 3 fun x2 => rcv S c 1 <| b1 Prod.snd (kJ5_ensureCapacityInternal_d00df c (x2 + x1) S) fun S3 => gI S3 c 1 3 fun x5 => rcv S3 c 1 <| b1 Prod.snd (kJ5_putStringAt_47b60_S c x5 k S3) fun S6 => gI S6 c 1 3 fun x8 => pI S6 c 1 3 (x8 + x1) fun S9 => some (c, S9)) = some (c, S9) := by
      refine chk_of ?_ hle.1 hle.2
      refine Eq.trans (if_pos hk) ?_
      rw [hlen, some_bind, gI_o hb.o, a3, hE, rcv_o hb.o, e1, b1_s]
      refine chk_of ?_ hle9.1 hle9.2
      rw [gI_o o1', a3', rcv_o o1', hput, b1_s]
      refine chk_of ?_ (by rw [e9]; exact Nat.le_refl _) (by rw [e9]; exact Nat.le_refl _)
      have o9 : OB (S1.wa (S1.r (c / 2) 0 / 2) (va_cpy (fun j => (sB k).getD j 0) (S1.i (S1.r (c / 2) 0 / 2)) 0 w.length (sB k).length)) c 1 := o1'
      have a9 : (S1.wa (S1.r (c / 2) 0 / 2) (va_cpy (fun j => (sB k).getD j 0) (S1.i (S1.r (c / 2) 0 / 2)) 0 w.length (sB k).length)).i (c / 2) 3 = nI w.length := by
        rw [wa_ne (Ne.symm bb.ne)]
        exact a3'
      rw [gI_o o9, a9, hE, pI_o o9, ← e9]
    refine chk_of ?_ hle.1 hle.2
    rw [rcv_o hb.o, e3, b2_s]
    exact chk_of rfl (Nat.le_refl _) (Nat.le_refl _)
