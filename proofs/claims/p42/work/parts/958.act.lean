/-! the acts, one by one -/
theorem clX_F0 {S : ZS} {g' : G} {z : Option XR} {v : Int32} {f : Int32 → ZS → Option (Int32 × ZS)} {h : ZS → Option (Int32 × ZS)} {Q : Nat → Prop} {a b : Nat} {Pr : Int32 → ZS → Prop} (hc : 3 ≤ S.c) (hw : 18 ≤ S.w) (hz : z = some (0, v, g')) (k : ∃ x S', f v (ZU S g' (S.c - 3) (S.w - 18)) = some (x, S') ∧ Fte Q a b (ZU S g' (S.c - 3) (S.w - 18)) S' ∧ Pr x S') : ∃ x S', clX Prod.snd S 3 18 z f h = some (x, S') ∧ Fte Q (3 + a) (18 + b) S S' ∧ Pr x S' := by
  obtain ⟨x, S', k1, k2, k3⟩ := k
  refine ⟨x, S', ?_, Fte.zu.trans k2, k3⟩
  unfold clX
  rw [if_pos ⟨hc, hw⟩, hz]
  show chk Prod.snd (ZU S g' (S.c - 3) (S.w - 18)) (if (0 : Nat) = 0 then f v (ZU S g' (S.c - 3) (S.w - 18)) else if (0 : Nat) = 1 then h (ZU S g' (S.c - 3) (S.w - 18)) else none) = _
  rw [if_pos rfl]
  exact chk_of k1 k2.2.2.1 k2.2.2.2.2.1
theorem clX_F1 {S : ZS} {g' : G} {z : Option XR} {v : Int32} {f : Int32 → ZS → Option (Int32 × ZS)} {h : ZS → Option (Int32 × ZS)} {Q : Nat → Prop} {a b : Nat} {Pr : Int32 → ZS → Prop} (hc : 3 ≤ S.c) (hw : 18 ≤ S.w) (hz : z = some (1, v, g')) (k : ∃ x S', h (ZU S g' (S.c - 3) (S.w - 18)) = some (x, S') ∧ Fte Q a b (ZU S g' (S.c - 3) (S.w - 18)) S' ∧ Pr x S') : ∃ x S', clX Prod.snd S 3 18 z f h = some (x, S') ∧ Fte Q (3 + a) (18 + b) S S' ∧ Pr x S' := by
  obtain ⟨x, S', k1, k2, k3⟩ := k
  refine ⟨x, S', ?_, Fte.zu.trans k2, k3⟩
  unfold clX
  rw [if_pos ⟨hc, hw⟩, hz]
  show chk Prod.snd (ZU S g' (S.c - 3) (S.w - 18)) (if (1 : Nat) = 0 then f v (ZU S g' (S.c - 3) (S.w - 18)) else if (1 : Nat) = 1 then h (ZU S g' (S.c - 3) (S.w - 18)) else none) = _
  rw [if_neg (by decide), if_pos rfl]
  exact chk_of k1 k2.2.2.1 k2.2.2.2.2.1
theorem E_F {S : ZS} {z z' : Option (Int32 × ZS)} {Q : Nat → Prop} {a b : Nat} {Pr : Int32 → ZS → Prop} (e : z = z') (k : ∃ x S', z' = some (x, S') ∧ Fte Q a b S S' ∧ Pr x S') : ∃ x S', z = some (x, S') ∧ Fte Q a b S S' ∧ Pr x S' := by
  rw [e]
  exact k
/-- the train is another, no job done -/
theorem AE.mk {S' : ZS} {t r n : Nat} {A A' : TA} {P : List OR4} (h : LV S' t r A' P) (hN : A'.N = A.N) (hl : A'.lim = A.lim ∧ A'.W = A.W) (hd : A'.dn = A.dn) : AE t r A P n 1 S' :=
  ⟨rfl, A', h, hN, hl, fun D e => ⟨D, by rw [hd]; exact e, by omega⟩⟩
theorem Ste.cw {Q : Nat → Prop} {S S' : ZS} (s : Ste Q 0 0 S S') : S'.c = S.c ∧ S'.w = S.w := by
  have := s.2.2.2
  omega
/-- a number of dice moves nothing of the train -/
theorem Ste.dr {S S' : ZS} (s : Ste QDc 0 0 S S') {o : Nat} (ho : o < S.n) (hk : S.K o ≠ 11) : S'.r o = S.r o := ((s.2.2.1 o ho).2 hk).2
theorem Ste.tr {S S' : ZS} {t : Nat} {A : TA} (s : Ste QDc 0 0 S S') (h : TT S t A) : S'.r (t / 2) = S.r (t / 2) ∧ S'.r (S.r (t / 2) 2 / 2) = S.r (S.r (t / 2) 2 / 2) :=
  ⟨s.dr h.o.2.1 (by rw [h.o.2.2]; decide), s.dr h.am.2.1 (by rw [h.am.2.2.1]; omega)⟩
theorem act169 {S : ZS} {v : Int32} {Q : Nat → Prop} {Pr : Int32 → ZS → Prop} (h : Pr 1 S) : ∃ x S', kL_act_169 v v S = some (x, S') ∧ Fte Q 0 0 S S' ∧ Pr x S' := by
  unfold kL_act_169
  rw [if_pos rfl]
  exact F_done h
theorem ordA_same {A : TA} {v : Int32} {m : Nat} : (ordA A v m).N = A.N ∧ ((ordA A v m).lim = A.lim ∧ (ordA A v m).W = A.W) ∧ (ordA A v m).dn = A.dn := by
  unfold ordA
  split
  · exact ⟨rfl, ⟨rfl, rfl⟩, rfl⟩
  · split <;> exact ⟨rfl, ⟨rfl, rfl⟩, rfl⟩
theorem WW.of {A A' : TA} (h : WW A) (e : A'.W = A.W) : WW A' := by
  unfold WW at h ⊢
  rw [e]
  exact h
set_option maxRecDepth 8000 in
theorem act120 {S : ZS} {t r m : Nat} {A : TA} {P : List OR4} (h : LV S t r A P) (hm : m < A.N) (hc : 2000 ≤ S.c) (hw : 20000 ≤ S.w) : ∃ x S', kL_act_120 t r (nI m) S = some (x, S') ∧ Fte QLc 1100 11000 S S' ∧ AE t r A P 30 x S' := by
  obtain ⟨j, S1, e1, hj, s1⟩ := k_next (k := 3) h.ob (by omega) (by omega)
  have h1 := h.D s1
  have hcw := s1.cw
  obtain ⟨v, S2, e2, s2, t2, r2, f1, f2⟩ := k_order (k := j) h1.tt h1.wa hm hj (by omega) (by omega)
  have c2 := s2.2.2.2
  have hg2 : S2.g = S1.g := s2.1
  have hR2 : RC A P S2.g := by rw [hg2]; exact h1.rc
  obtain ⟨g3, e, w, e3, r3, d1, d2⟩ := q_orderJob (k := j) hR2 hm hj
  obtain ⟨o1, o2, o3⟩ := ordA_same (A := A) (v := nI j) (m := m)
  have hT3 : TT (ZU S2 g3 (S2.c - 3) (S2.w - 18)) t (ordA A (nI j) m) := t2
  have hend : AE t r A P 30 1 (ZU S2 g3 (S2.c - 3) (S2.w - 18)) := AE.mk (h1.next ((s2.mono QT_QM (Nat.le_refl _) (Nat.le_refl _)).f.trans (Fte.zu (a := 3) (b := 18))) hT3 r2 r3 (h1.ww.of o2.2) o1) o1 o2 o3
  unfold kL_act_120
  rw [rcv_o h.ob]
  refine F_more (b2_F (a := 2 + (3 + 0)) (b := 20 + (18 + 0)) e1 (s1.f.mono QD_QL (Nat.le_refl _) (Nat.le_refl _)) ?_) (by omega) (by omega)
  rw [rcv_o h1.tt.o]
  refine b2_F e2 (s2.f.mono QT_QL (Nat.le_refl _) (Nat.le_refl _)) ?_
  by_cases hx : jhas A (nI j) m = true ∨ 12 ≤ A.J
  · have hv := f1 hx
    have he := d1 hx
    subst he
    rw [if_pos hv]
    unfold kL_act_148
    rw [bd_eq]
    exact clX_F1 (by omega) (by omega) e3 (act169 hend)
  · obtain ⟨x1, x2⟩ := not_or.mp hx
    have hv := f2 x1 x2
    obtain ⟨he, hwv⟩ := d2 x1 x2
    subst he
    have haj := t2.aj
    have hJ : (ordA A (nI j) m).J = A.J + 1 := by rw [ordA_new x1 x2]; rfl
    rw [hJ] at haj
    rw [if_neg (by rw [hv]; decide), gN_o t2.o haj.ne0, aL_n haj]
    unfold kL_act_148
    rw [bd_eq, ← hwv]
    exact clX_F0 (by omega) (by omega) e3 (act169 hend)
set_option maxRecDepth 8000 in
theorem act_c2 {S : ZS} {t r : Nat} {A : TA} {P : List OR4} (h : LV S t r A P) (h0 : ¬ nI A.J = 0) (hc : 2000 ≤ S.c) (hw : 20000 ≤ S.w) : ∃ x S', (b2 Prod.snd (kX9_next r (nI A.J) S) fun x42 S40 =>
              clR Prod.snd S40 3 18 (k8_cancelJob x42 S40.g) fun x43 S44 =>
              rcv S44 t 14 <| b2 Prod.snd (kX12_take t x42 S44) fun c47 S45 =>
              aG S45 c47 100000 1 fun x48 =>
              if x43 = x48 then
                some (1, S45)
              else
                some (0, S45)) = some (x, S') ∧ Fte QLc 1100 11000 S S' ∧ AE t r A P 30 x S' := by
  have hJ12 := h.wa.J12
  have hJ : 0 < A.J := by
    rcases Nat.eq_zero_or_pos A.J with z | z
    · exact absurd (by rw [z]; rfl) h0
    · exact z
  obtain ⟨j, S1, e1, hj, s1⟩ := k_next (k := A.J) h.ob hJ (by omega)
  have h1 := h.D s1
  have hcw := s1.cw
  obtain ⟨g2, e2, r2⟩ := q_cancelJob h1.rc hj
  have hT2 : TT (ZU S1 g2 (S1.c - 3) (S1.w - 18)) t A := h1.tt
  obtain ⟨c, S3, e3, s3, t3, r3, j3⟩ := k_take hT2 h1.wa hj (by show 1 ≤ S1.c - 3; omega) (by show 12 ≤ S1.w - 18; omega)
  refine F_more (b2_F (a := 3 + (1 + 0)) (b := 18 + (11 + 0)) e1 (s1.f.mono QD_QL (Nat.le_refl _) (Nat.le_refl _)) ?_) (by omega) (by omega)
  refine clR_F (by omega) (by omega) e2 ?_
  rw [rcv_o hT2.o]
  refine b2_F e3 (s3.f.mono QT_QL (Nat.le_refl _) (Nat.le_refl _)) ?_
  refine E_F ((aG_n (j := 1) j3.1 (by omega)).trans (by rw [j3.2.2, if_pos rfl])) (F_done ?_)
  have g3 : S3.g = g2 := s3.1
  exact AE.mk (h1.next (Fte.zu.trans (s3.mono QT_QM (Nat.le_refl _) (Nat.le_refl _)).f) t3 (r3 8 (by decide)) (by rw [g3]; exact r2) h1.ww rfl) rfl ⟨rfl, rfl⟩ rfl
theorem ofs_in : ((List.range 181).all fun i => decide (-90 ≤ nI i - 90 ∧ nI i - 90 ≤ 90)) = true := by decide +kernel
set_option maxRecDepth 8000 in
theorem act_c3 {S : ZS} {t r m : Nat} {A : TA} {P : List OR4} (h : LV S t r A P) (hm : m < A.N) (hc : 2000 ≤ S.c) (hw : 20000 ≤ S.w) : ∃ x S', (b2 Prod.snd (kX9_next r 181 S) fun x58 S56 =>
            aP S56 (S.r (S.r (t / 2) 2 / 2) m) 100000 2 (x58 - 90) fun S59 =>
            gN S59 t 14 2 fun c60 =>
            aN S59 c60 400000 (nI m) fun c61 =>
            aG S59 c61 100000 2 fun x62 =>
            clR Prod.snd S59 3 18 (k8_turnMirror (nI m) x62 S59.g) fun x63 S64 =>
            if x63 = (A.of m) then
              some (1, S64)
            else
              some (0, S64)) = some (x, S') ∧ Fte QLc 1100 11000 S S' ∧ AE t r A P 30 x S' := by
  obtain ⟨j, S1, e1, hj, s1⟩ := k_next (k := 181) h.ob (by omega) (by omega)
  have h1 := h.D s1
  have hcw := s1.cw
  obtain ⟨y1, y2⟩ := s1.tr h.tt
  have hv : -90 ≤ nI j - 90 ∧ nI j - 90 ≤ 90 := of_decide_eq_true (List.all_eq_true.mp ofs_in j (List.mem_range.mpr hj))
  obtain ⟨b1, b2, b3, b4⟩ := h1.tt.m hm
  have hT2 := h1.tt.turn (v := nI j - 90) hm
  have s2 : Ste QM 0 0 S1 (S1.wi (S1.r (S1.r (t / 2) 2 / 2) m / 2) 2 (nI j - 90)) := Ste.num h1.tt hm
  obtain ⟨S2, eS2⟩ : ∃ z, z = S1.wi (S1.r (S1.r (t / 2) 2 / 2) m / 2) 2 (nI j - 90) := ⟨_, rfl⟩
  rw [← eS2] at hT2 s2
  have hcw2 := s2.cw
  have hg2 : S2.g = S1.g := s2.1
  obtain ⟨d1, d2, d3, d4⟩ := hT2.m (show m < (turnA A m (nI j - 90)).N from hm)
  have hR : RC A P S2.g := by rw [hg2]; exact h1.rc
  obtain ⟨g3, e3, r3⟩ := q_turnMirror hR hm hv
  refine F_more (b2_F (a := 0 + (3 + 0)) (b := 0 + (18 + 0)) e1 (s1.f.mono QD_QL (Nat.le_refl _) (Nat.le_refl _)) ?_) (by omega) (by omega)
  rw [← y2, ← y1]
  refine E_F (aP_n (j := 2) b1 (by omega)) ?_
  rw [← eS2, gN_o hT2.o hT2.am.ne0, aN_n hT2.am hm d1.ne0]
  refine E_F (aG_n (j := 2) d1 (by omega)) ?_
  rw [d4]
  have ev : (turnA A m (nI j - 90)).of m = nI j - 90 := updI_eq
  rw [ev]
  obtain ⟨x, S', k1, k2, k3⟩ := clR_F (Q := QLc) (a := 0) (b := 0) (Pr := AE t r A P 30) (S := S2) (f := fun x63 S64 => if x63 = A.of m then some (1, S64) else some (0, S64)) (by omega) (by omega) e3 (by
    show ∃ x S', (if A.of m = A.of m then some (1, ZU S2 g3 (S2.c - 3) (S2.w - 18)) else some (0, ZU S2 g3 (S2.c - 3) (S2.w - 18))) = some (x, S') ∧ _
    rw [if_pos rfl]
    refine F_done ?_
    exact AE.mk (A' := turnA A m (nI j - 90)) (h1.next (s2.f.trans (Fte.zu (a := 3) (b := 18))) hT2 (by rw [eS2]; rfl) r3 h1.ww rfl) rfl ⟨rfl, rfl⟩ rfl)
  exact ⟨x, S', k1, (s2.f.mono QM_QL (Nat.le_refl _) (Nat.le_refl _)).trans k2, k3⟩
set_option maxRecDepth 8000 in
theorem act_c4 {S : ZS} {t r m : Nat} {A : TA} {P : List OR4} (h : LV S t r A P) (hm : m < A.N) (hc : 2000 ≤ S.c) (hw : 20000 ≤ S.w) : ∃ x S', (b2 Prod.snd (kX9_next r 101 S) fun x69 S67 =>
            gN S67 t 14 2 fun c70 =>
            aN S67 c70 400000 (nI m) fun c71 =>
            gN S67 t 14 2 fun c72 =>
            aN S67 c72 400000 (nI m) fun c73 =>
            aG S67 c73 100000 0 fun x74 =>
            bd (if 0 < (x74 - x69) then (x74 - x69) else 0) fun x75 =>
            aP S67 c71 100000 0 x75 fun S76 =>
            clR Prod.snd S76 3 18 (k8_dustMirror (nI m) x69 S76.g) fun x77 S78 =>
            gN S78 t 14 2 fun c79 =>
            aN S78 c79 400000 (nI m) fun c80 =>
            aG S78 c80 100000 0 fun x81 =>
            if x77 = x81 then
              some (1, S78)
            else
              some (0, S78)) = some (x, S') ∧ Fte QLc 1100 11000 S S' ∧ AE t r A P 30 x S' := by
  obtain ⟨j, S1, e1, hj, s1⟩ := k_next (k := 101) h.ob (by omega) (by omega)
  have h1 := h.D s1
  have hcw := s1.cw
  obtain ⟨b1, b2, b3, b4⟩ := h1.tt.m hm
  obtain ⟨v, ev⟩ : ∃ z, z = (if 0 < A.cl m - nI j then A.cl m - nI j else 0) := ⟨_, rfl⟩
  have hT2 := h1.tt.clar (v := v) hm
  have s2 : Ste QM 0 0 S1 (S1.wi (S1.r (S1.r (t / 2) 2 / 2) m / 2) 0 v) := Ste.num h1.tt hm
  obtain ⟨S2, eS2⟩ : ∃ z, z = S1.wi (S1.r (S1.r (t / 2) 2 / 2) m / 2) 0 v := ⟨_, rfl⟩
  rw [← eS2] at hT2 s2
  have hcw2 := s2.cw
  have hg2 : S2.g = S1.g := s2.1
  have hR : RC A P S2.g := by rw [hg2]; exact h1.rc
  have hj2 : ¬ nI j < 0 ∧ nI j ≤ 100 := ⟨nI_pos (by omega), (nI_leI (b := 100) (by omega) (by omega)).mpr (by omega)⟩
  obtain ⟨g3, e3, r3⟩ := q_dustMirror hR hm hj2
  rw [← ev] at e3 r3
  have hT3 : TT (ZU S2 g3 (S2.c - 3) (S2.w - 18)) t (clarA A m v) := hT2
  obtain ⟨d1, d2, d3, d4⟩ := hT3.m (show m < (clarA A m v).N from hm)
  refine F_more (b2_F (a := 0 + (3 + 0)) (b := 0 + (18 + 0)) e1 (s1.f.mono QD_QL (Nat.le_refl _) (Nat.le_refl _)) ?_) (by omega) (by omega)
  rw [gN_o h1.tt.o h1.tt.am.ne0, aN_n h1.tt.am hm b1.ne0, gN_o h1.tt.o h1.tt.am.ne0, aN_n h1.tt.am hm b1.ne0]
  refine E_F (aG_n (j := 0) b1 (by omega)) ?_
  rw [b2, bd_eq, ← ev]
  refine E_F (aP_n (j := 0) b1 (by omega)) ?_
  rw [← eS2]
  obtain ⟨x, S', k1, k2, k3⟩ := clR_F (Q := QLc) (a := 0) (b := 0) (Pr := AE t r A P 30) (S := S2) (f := fun x77 S78 =>
            gN S78 t 14 2 fun c79 =>
            aN S78 c79 400000 (nI m) fun c80 =>
            aG S78 c80 100000 0 fun x81 =>
            if x77 = x81 then
              some (1, S78)
            else
              some (0, S78)) (by omega) (by omega) e3 (by
    refine E_F ?_ (F_done (v := 1) ?_)
    · show (gN (ZU S2 g3 (S2.c - 3) (S2.w - 18)) t 14 2 fun c79 => _) = _
      rw [gN_o hT3.o hT3.am.ne0, aN_n hT3.am hm d1.ne0]
      refine (aG_n (j := 0) d1 (by omega)).trans ?_
      rw [d2]
      have e : (clarA A m v).cl m = v := updI_eq
      rw [e, if_pos rfl]
    · exact AE.mk (A' := clarA A m v) (h1.next (s2.f.trans (Fte.zu (a := 3) (b := 18))) hT3 (by rw [eS2]; rfl) r3 h1.ww rfl) rfl ⟨rfl, rfl⟩ rfl)
  exact ⟨x, S', k1, (s2.f.mono QM_QL (Nat.le_refl _) (Nat.le_refl _)).trans k2, k3⟩
set_option maxRecDepth 8000 in
theorem act_c5 {S : ZS} {t r m : Nat} {A : TA} {P : List OR4} (h : LV S t r A P) (hm : m < A.N) (hc : 2000 ≤ S.c) (hw : 20000 ≤ S.w) : ∃ x S', (b2 Prod.snd (kX9_next r (nI A.N) S) fun x85 S83 =>
          rcv S83 t 14 <| b2 Prod.snd (kX12_place t (nI m) S83) fun x88 S86 =>
          rcv S86 t 14 <| b1 Prod.snd (kX12_move t (nI m) x85 S86) fun S89 =>
          clR Prod.snd S89 3 18 (k8_moveMirror (nI m) x85 S89.g) fun x91 S92 =>
          if x91 = x88 then
            some (1, S92)
          else
            some (0, S92)) = some (x, S') ∧ Fte QLc 1100 11000 S S' ∧ AE t r A P 30 x S' := by
  have hN := h.wa.N9
  obtain ⟨j, S1, e1, hj, s1⟩ := k_next (k := A.N) h.ob (by omega) (by omega)
  have h1 := h.D s1
  have hcw := s1.cw
  have e2 := k_place h1.tt h1.wa hm
  obtain ⟨S3, e3, s3, t3, r3⟩ := k_move h1.tt h1.wa hm hj (by omega) (by omega)
  have c3 := s3.2.2.2
  have hg3 : S3.g = S1.g := s3.1
  have hR : RC A P S3.g := by rw [hg3]; exact h1.rc
  obtain ⟨g4, e4, r4⟩ := q_moveMirror hR hm hj
  refine F_more (b2_F (a := 0 + (1 + (3 + 0))) (b := 0 + (10 + (18 + 0))) e1 (s1.f.mono QD_QL (Nat.le_refl _) (Nat.le_refl _)) ?_) (by omega) (by omega)
  rw [rcv_o h1.tt.o]
  refine b2_F (a' := 0) (b' := 0) e2 Fte.refl ?_
  rw [rcv_o h1.tt.o]
  refine b1_F e3 (s3.f.mono QT_QL (Nat.le_refl _) (Nat.le_refl _)) ?_
  refine clR_F (by omega) (by omega) e4 ?_
  rw [if_pos rfl]
  refine F_done ?_
  have hT4 : TT (ZU S3 g4 (S3.c - 3) (S3.w - 18)) t (moveA A m j) := t3
  exact AE.mk (A' := moveA A m j) (h1.next ((s3.mono QT_QM (Nat.le_refl _) (Nat.le_refl _)).f.trans (Fte.zu (a := 3) (b := 18))) hT4 r3 r4 h1.ww rfl) rfl ⟨rfl, rfl⟩ rfl
set_option maxRecDepth 8000 in
theorem act27 {S : ZS} {t r m s : Nat} {A : TA} {P : List OR4} (h : LV S t r A P) (hm : m < A.N) (hs : s < 9) (hc : 2000 ≤ S.c) (hw : 20000 ≤ S.w) : ∃ x S', kL_act_27 t r (nI A.N) (nI s) (nI m) S = some (x, S') ∧ Fte QLc 1100 11000 S S' ∧ AE t r A P 30 x S' := by
  have hN := h.wa.N9
  have h0 := h.n0
  have ha := h.tt
  obtain ⟨b1, b2, b3, b4⟩ := ha.m hm
  unfold kL_act_27
  rw [bd_eq, if_neg (nI_ne0 h0 (by omega))]
  by_cases e : s ≤ 5
  · rw [if_pos (show nI s ≤ 5 from (nI_leI (b := 5) (by omega) (by omega)).mpr e)]
    rcases (show s = 0 ∨ s = 1 ∨ s = 2 ∨ s = 3 ∨ s = 4 ∨ s = 5 by omega) with rfl | rfl | rfl | rfl | rfl | rfl
    · rw [if_pos (show nI 0 = 0 from rfl)]
      exact act120 h hm hc hw
    · rw [if_neg (show ¬ nI 1 = 0 by decide), if_pos (show nI 1 = 1 from rfl)]
      exact act120 h hm hc hw
    · rw [if_neg (show ¬ nI 2 = 0 by decide), if_neg (show ¬ nI 2 = 1 by decide), if_pos (show nI 2 = 2 from rfl), gN_o ha.o ha.aj.ne0, aL_n ha.aj]
      by_cases z : nI A.J = 0
      · rw [if_pos z]
        exact F_more (F_done (AE.mk h rfl ⟨rfl, rfl⟩ rfl)) (by omega) (by omega)
      · rw [if_neg z, gN_o ha.o ha.aj.ne0, aL_n ha.aj, rcv_o h.ob]
        exact act_c2 h z hc hw
    · rw [if_neg (show ¬ nI 3 = 0 by decide), if_neg (show ¬ nI 3 = 1 by decide), if_neg (show ¬ nI 3 = 2 by decide), if_pos (show nI 3 = 3 from rfl), gN_o ha.o ha.am.ne0, aN_n ha.am hm b1.ne0]
      refine E_F (aG_n (j := 2) b1 (by omega)) ?_
      rw [b4, gN_o ha.o ha.am.ne0, aN_n ha.am hm b1.ne0, rcv_o h.ob]
      exact act_c3 h hm hc hw
    · rw [if_neg (show ¬ nI 4 = 0 by decide), if_neg (show ¬ nI 4 = 1 by decide), if_neg (show ¬ nI 4 = 2 by decide), if_neg (show ¬ nI 4 = 3 by decide), if_pos (show nI 4 = 4 from rfl), rcv_o h.ob]
      exact act_c4 h hm hc hw
    · rw [if_neg (show ¬ nI 5 = 0 by decide), if_neg (show ¬ nI 5 = 1 by decide), if_neg (show ¬ nI 5 = 2 by decide), if_neg (show ¬ nI 5 = 3 by decide), if_neg (show ¬ nI 5 = 4 by decide), rcv_o h.ob]
      exact act_c5 h hm hc hw
  · rw [if_neg (show ¬ nI s ≤ 5 from fun z => e ((nI_leI (b := 5) (by omega) (by omega)).mp z))]
    exact act39 h hc hw
set_option maxRecDepth 8000 in
theorem k_act {S : ZS} {t r : Nat} {A : TA} {P : List OR4} (h : LV S t r A P) (hc : 2000 ≤ S.c) (hw : 20000 ≤ S.w) : ∃ x S', kL_act t r S = some (x, S') ∧ Fte QLc 1100 11000 S S' ∧ AE t r A P 30 x S' := by
  have hN := h.wa.N9
  have h0 := h.n0
  obtain ⟨s, S1, e1, hs, s1⟩ := k_next (k := 9) h.ob (by omega) (by omega)
  have h1 := h.D s1
  have hcw := s1.cw
  obtain ⟨m, S2, e2, hm, s2⟩ := k_next (k := A.N) h1.ob (by omega) (by omega)
  have h2 := h1.D s2
  have hcw2 := s2.cw
  obtain ⟨x, S', k1, k2, k3⟩ := act27 h2 hm hs (by omega) (by omega)
  have k4 := (s1.f.mono QD_QL (Nat.le_refl _) (Nat.le_refl _)).trans ((s2.f.mono QD_QL (Nat.le_refl _) (Nat.le_refl _)).trans k2)
  refine ⟨x, S', ?_, k4.mono (fun _ z => z) (by omega) (by omega), k3⟩
  unfold kL_act
  refine chk_of ?_ k4.2.2.1 k4.2.2.2.2.1
  have e1 : kX9_next r 9 S = some (nI s, S1) := e1
  rw [gN_o h.tt.o h.tt.ar.ne0, aL_n h.tt.ar, rcv_o h.ob, e1, b2_s]
  refine chk_of ?_ (by have := k2.2.2.1; show S'.c ≤ S1.c; omega) (by have := k2.2.2.2.2.1; show S'.w ≤ S1.w; omega)
  rw [if_neg (nI_ne0 h0 (by omega)), rcv_o h1.ob, e2, b2_s]
  exact chk_of k1 k2.2.2.1 k2.2.2.2.2.1
