/-! the drawing, put together -/
theorem TT.n8 {S : ZS} {t M : Nat} {A : TA} (h : TT S t A) (hM : M < 100000) (hc : 1 ≤ S.c) (hw : M ≤ S.w) : ∃ S2, S2 = (S.new (500000 + M) M z0).wr (t / 2) 8 (2 * S.n + 1) ∧ TT S2 t A ∧ Ste QT 1 M S S2 ∧ AR S2 (S2.r (t / 2) 8) 500000 M := by
  have s1 : Ste NO 1 M S (S.new (500000 + M) M z0) := Ste.new hc hw
  have t1 := h.no s1
  have a1 : AR (S.new (500000 + M) M z0) (2 * S.n + 1) 500000 M := AR.mk (sl := M) (f := z0) hM
  refine ⟨_, rfl, t1.wr8, s1.wT t1.o, ?_⟩
  have e : ((S.new (500000 + M) M z0).wr (t / 2) 8 (2 * S.n + 1)).r (t / 2) 8 = 2 * S.n + 1 := ur_self
  rw [e]
  exact a1
theorem mul_le4 {Q M : Nat} (h : M ≤ 4) : Q * M ≤ Q * 4 := Nat.mul_le_mul_left Q h
set_option maxHeartbeats 2000000 in
theorem drawn279 {S : ZS} {t r c N M u q9 Q : Nat} {A : TA} {g : G} {ms : List Mi} {hw hl : Option Nat} (hN : 0 < N) (hN2 : N ≤ 7) (hM : M ≤ 4) (hQ : Q = 7 + (q9 + 180)) (b1 : big 400 (3 * q9)) (b2 : big 30000 (18 * q9)) (h : DR S t r c A (tS ms hw hl) 0 100 [] g (u + Q * 4 + 1)) (hT : TrM A ms (Wv hw) (lv hl)) (hms : ms.length = N) (hok : ∀ x, x ∈ ms → miOK x) (hW : ∀ W, hw = some W → W ≤ 180) (hLm : ∀ W, hl = some W → big W 10000) (hlen : (tS ms hw hl).length ≤ 320) : Rx (DF r c g u) (kL_drawn_279 r c t (nI N) (nI M) S) S := by
  have hm := mul_le4 (Q := Q) hM
  obtain ⟨m1, m2⟩ := h.rm.get (n := 1) (a := 1) (b := 4) (by omega) (by decide) (by decide)
  obtain ⟨S2, e2, t2, s2, a2⟩ := h.tt.n8 (M := M) (by omega) m1 (by omega)
  have hb2 := h.bb.ste s2 ⟨by unfold QT; omega, fun n _ => by unfold QT; omega⟩
  have hAN : A.N = N := hT.1.trans hms
  have h2 : DR S2 t r c A (tS ms hw hl) N M [] g (u + Q * M) := ⟨t2, h.ob.ste s2, hb2, ⟨fun _ => a2, fun j x hj => by simp at hj⟩, fun z => absurd rfl z, by rw [s2.1]; exact h.g, h.rm.sub (n := 1) s2.2.2.2.2.1 s2.2.2.2.2.2.2 (by decide) (by omega) (by omega)⟩
  have hfl : tS ms hw hl ++ spl (([] : List (OR4 × List It)).flatMap Prod.snd) = tS ms hw hl := List.append_nil _
  unfold kL_drawn_279
  have hle : (S.new (500000 + M) M z0).c ≤ S.c ∧ (S.new (500000 + M) M z0).w ≤ S.w := ⟨Nat.sub_le _ _, Nat.sub_le _ _⟩
  have hle2 : S2.c ≤ (S.new (500000 + M) M z0).c ∧ S2.w ≤ (S.new (500000 + M) M z0).w := by rw [e2]; exact ⟨Nat.le_refl _, Nat.le_refl _⟩
  rw [bd_eq, nA_n (by omega) m1 (by omega)]
  refine Rx.mono (rx_chk ?_) hle.1 hle.2
  have o1 : OB (S.new (500000 + M) M z0) t 14 := h.tt.o.new
  rw [pR_o o1, ← e2]
  refine Rx.mono ?_ hle2.1 hle2.2
  refine drawn294 (Φ := DF r c g u) (w0 := tS ms hw hl) (u := u) hN (by omega) hM hQ b1 b2 (fun S3 L h3 h4 h5 => ?_) M 0 FU S2 [] (by omega) (by unfold FU; omega) rfl (by rw [hfl]; exact h2) (by rw [hfl]; omega)
  rw [tS_all] at h3 h5
  refine ⟨A, ms, hw, hl, L, h3.tt, h3.ob, h3.bb, ?_, h3.g, h3.rm, hT, hok, by omega, hW, hLm, by omega, h5⟩
  have h6 := h3.ol
  rw [hAN, h4]
  exact h6
set_option maxHeartbeats 2000000 in
theorem drawn118 {t r c N u q9 Q Q1 : Nat} {g : G} {hw hl : Option Nat} (hN : 0 < N) (hN2 : N ≤ 7) (hQ : Q = 7 + (q9 + 180)) (hQ1 : Q1 = 180 + (180 + (180 + (180 + (180 + (180 + (180 + (180 + 2)))))))) (b1 : big 400 (3 * q9)) (b2 : big 30000 (18 * q9)) (hW : ∀ W, hw = some W → W ≤ 180) (hLm : ∀ W, hl = some W → big W 10000) : ∀ (d f : Nat) (S : ZS) (A : TA) (ms : List Mi), N = ms.length + d → d < f → DR S t r c A (tS ms hw hl) 0 100 [] g (u + Q * 4 + 1 + Q1 * d) → TrM A ms (Wv hw) (lv hl) → (∀ x, x ∈ ms → miOK x) → (tS ms hw hl).length + 36 * d ≤ 320 → Rx (DF r c g u) (kL_drawn_118 f r c 4 t (nI N) (nI ms.length) S) S := by
  intro d
  induction d with
  | zero =>
    intro f S A ms hd hf h hT hok hlen
    obtain ⟨f, rfl⟩ : ∃ z, f = z + 1 := ⟨f - 1, by omega⟩
    obtain rfl : N = ms.length := by omega
    unfold kL_drawn_118
    rw [if_pos (Int32.le_refl _), if_neg (nI_ne0 hN (by omega))]
    refine dr_next (n := 5) h (by omega) (by omega) (fun j S1 hj h1 => ?_)
    exact drawn279 hN hN2 (by omega) hQ b1 b2 h1 hT rfl hok hW hLm (by omega)
  | succ d ih =>
    intro f S A ms hd hf h hT hok hlen
    obtain ⟨f, rfl⟩ : ∃ z, f = z + 1 := ⟨f - 1, by omega⟩
    obtain ⟨v, hv⟩ : ∃ v, v = u + Q * 4 + 1 + Q1 * d := ⟨_, rfl⟩
    have hvQ : u + Q * 4 + 1 + Q1 * (d + 1) = v + 180 + 180 + 180 + 180 + 180 + 180 + 180 + 180 + 2 := by
      rw [show Q1 * (d + 1) = Q1 * d + Q1 from Nat.mul_succ Q1 d, ← Nat.add_assoc, ← hv, hQ1]
    rw [hvQ] at h
    clear hvQ
    have hst : ∀ S1 cl, cl ≤ 100 → DR S1 t r c A (tS ms hw hl) 0 100 [] g (v + 180 + 180 + 180 + 180 + 180 + 180 + 180 + 180 + 2) → Rx (DF r c g u) (kL_drawn_151 (kL_drawn_118 f) r c 4 t (nI N) (nI ms.length) (nI cl) S1) S1 := by
      intro S1 cl hcl h1
      refine drawn151 hcl (by omega) h1 hT (by omega) (fun S2 A2 x hx h2 hT2 => ?_)
      rw [← tS_add] at h2
      have e : nI (ms.length + 1) = nI (ms ++ [x]).length := by rw [List.length_append]; rfl
      rw [e]
      refine ih f S2 A2 (ms ++ [x]) (by rw [List.length_append]; show N = ms.length + 1 + d; omega) (by omega) (by rw [← hv]; exact h2) hT2 (fun y hy => ?_) ?_
      · rcases List.mem_append.mp hy with z | z
        · exact hok y z
        · rw [List.mem_singleton.mp z]; exact hx
      · rw [tS_add, List.length_append]
        have := mir_len (m := ms.length) (x := x) (by omega) hx
        omega
    unfold kL_drawn_118
    rw [if_neg (by rw [nI_leI (by omega) (by omega)]; omega)]
    refine dr_next (n := 3) h (by omega) (by omega) (fun j S1 hj h1 => ?_)
    by_cases z : nI j = 0
    · rw [if_pos z]
      refine dr_next (n := 101) h1 (by omega) (by omega) (fun i S2 hi h2 => ?_)
      exact hst S2 i (by omega) h2
    · rw [if_neg z]
      refine dr_next (n := 21) h1 (by omega) (by omega) (fun i S2 hi h2 => ?_)
      have e : 80 + nI i = nI (80 + i) := by rw [show (80 : Int32) = nI 80 from rfl, nI_plus]
      rw [e]
      exact hst S2 (80 + i) (by omega) h2
/-- what the drawing takes -/
def uD (u q9 : Nat) : Nat := u + (7 + (q9 + 180)) * 4 + 1 + (180 + (180 + (180 + (180 + (180 + (180 + (180 + (180 + 2)))))))) * 7
theorem drawn103 {S : ZS} {t r c u q9 : Nat} {A : TA} {g : G} {hw hl : Option Nat} (b1 : big 400 (3 * q9)) (b2 : big 30000 (18 * q9)) (hW : ∀ W, hw = some W → W ≤ 180) (hLm : ∀ W, hl = some W → big W 10000) (h : DR S t r c A (tS [] hw hl) 0 100 [] g (uD u q9)) (hT : TrM A [] (Wv hw) (lv hl)) (hlen : (tS [] hw hl).length ≤ 60) : Rx (DF r c g u) (kL_drawn_103 r c 1 4 t S) S := by
  unfold kL_drawn_103
  refine dr_next (n := 7) h (by omega) (by omega) (fun j S1 hj h1 => ?_)
  have e : 1 + nI j = nI (j + 1) := by rw [Int32.add_comm, nI_1]
  rw [bd_eq, e]
  have hk : u + (7 + (q9 + 180)) * 4 + 1 + (180 + (180 + (180 + (180 + (180 + (180 + (180 + (180 + 2)))))))) * (j + 1) ≤ uD u q9 := Nat.add_le_add_left (Nat.mul_le_mul_left _ (by omega)) _
  exact drawn118 (N := j + 1) (by omega) (by omega) rfl rfl b1 b2 hW hLm (j + 1) FU S1 A [] (by show j + 1 = 0 + (j + 1); omega) (by unfold FU; omega) (h1.le hk) hT (fun x hx => by cases hx) (by omega)
theorem DR.pI {S : ZS} {t r c k : Nat} {A A' : TA} {w : List Int32} {g : G} {fk : Nat} {v : Int32} (h : DR S t r c A w 0 100 [] g k) (hT : TT (S.wi (t / 2) fk v) t A') : DR (S.wi (t / 2) fk v) t r c A' w 0 100 [] g k := by
  have s : Ste QT 0 0 S (S.wi (t / 2) fk v) := Ste.wi (fun _ => h.tt.o.2.2)
  exact DR.ph1 hT (h.ob.ste s) (h.bb.ste s ⟨by unfold QT; omega, fun n _ => by unfold QT; omega⟩) h.g h.rm
theorem tS_lim {hw : Option Nat} {W : Nat} : tS [] hw none ++ sB 63 ++ dc W ++ sB 64 = tS [] hw (some W) := by
  show (spl (widthI hw) ++ []) ++ sB 63 ++ dc W ++ sB 64 = spl (widthI hw) ++ ((sB 63 ++ (dc W ++ sB 64)) ++ [])
  simp only [List.append_assoc, List.append_nil]
theorem tS_wid {W : Nat} : tS [] none none ++ sB 61 ++ dc W ++ sB 62 = tS [] (some W) none := by
  show [] ++ sB 61 ++ dc W ++ sB 62 = (sB 61 ++ (dc W ++ sB 62)) ++ []
  simp only [List.append_assoc, List.append_nil, List.nil_append]
set_option maxHeartbeats 2000000 in
theorem drawn77 {S : ZS} {t r c u q9 n : Nat} {A : TA} {g : G} {hw : Option Nat} (b1 : big 400 (3 * q9)) (b2 : big 30000 (18 * q9)) (hW : ∀ W, hw = some W → W ≤ 180) (hn : n < 10002) (hn0 : 0 < n) (h : DR S t r c A (tS [] hw none) 0 100 [] g (uD u q9 + 180 + 180 + 180)) (hT : TrM A [] (Wv hw) (lv none)) (hlen : (tS [] hw none).length ≤ 30) : Rx (DF r c g u) (kL_drawn_77 r c 1 4 t (nI n) r t S) S := by
  unfold kL_drawn_77
  refine dr_next (n := n) h hn0 (by omega) (fun j S1 hj h1 => ?_)
  have hj2 : big j 10000 := by show j ≤ 10000; omega
  have hjd := dc_len (m := j) (by omega)
  have hj6 : j < 1000000 := by omega
  clear hn hj
  rw [pI_o h1.tt.o]
  have h2 := h1.pI (h1.tt.sL (v := nI j))
  obtain ⟨S2, e2⟩ : ∃ z, z = S1.wi (t / 2) 1 (nI j) := ⟨_, rfl⟩
  rw [← e2] at h2 ⊢
  have hle : S2.c ≤ S1.c ∧ S2.w ≤ S1.w := by rw [e2]; exact ⟨Nat.le_refl _, Nat.le_refl _⟩
  refine Rx.mono ?_ hle.1 hle.2
  have l1 : (sB 63).length = 6 := rfl
  have l2 : (sB 64).length = 2 := rfl
  refine dr_appS (d := 63) h2 (by decide) (by omega) (fun S3 h3 => ?_)
  rw [gI_o h3.tt.o, h3.tt.lim]
  refine dr_appI (n := j) h3 hj6 (by rw [List.length_append]; omega) (fun S4 h4 => ?_)
  refine dr_appS (d := 64) h4 (by decide) (by simp only [List.length_append]; omega) (fun S5 h5 => ?_)
  rw [tS_lim] at h5
  obtain ⟨k1, k2, k3, k4⟩ := hT
  refine drawn103 (hl := some j) b1 b2 hW (fun W hWW => by cases hWW; exact hj2) h5 ⟨k1, k2, rfl, k4⟩ ?_
  rw [← tS_lim]
  simp only [List.length_append]
  omega
set_option maxHeartbeats 2000000 in
theorem drawn49 {S : ZS} {t r c u q9 : Nat} {A : TA} {g : G} {hw : Option Nat} (b1 : big 400 (3 * q9)) (b2 : big 30000 (18 * q9)) (hW : ∀ W, hw = some W → W ≤ 180) (h : DR S t r c A (tS [] hw none) 0 100 [] g (uD u q9 + 180 + 180 + 180)) (hT : TrM A [] (Wv hw) (lv none)) (hlen : (tS [] hw none).length ≤ 30) : Rx (DF r c g u) (kL_drawn_49 r c 1 4 t S) S := by
  unfold kL_drawn_49
  refine dr_next (n := 2) h (by omega) (by omega) (fun j S1 hj h1 => ?_)
  by_cases z : nI j = 0
  · rw [if_pos z]
    refine dr_next (n := 2) h1 (by omega) (by omega) (fun i S2 hi h2 => ?_)
    by_cases y : nI i = 0
    · rw [if_pos y]
      exact drawn77 (n := 10001) b1 b2 hW (by decide) (by decide) h2 hT hlen
    · rw [if_neg y]
      exact drawn77 (n := 3000) b1 b2 hW (by decide) (by decide) h2 hT hlen
  · rw [if_neg z]
    exact drawn103 b1 b2 hW (fun W hWW => by cases hWW) (h1.le (by omega)) hT (by omega)
set_option maxHeartbeats 2000000 in
theorem k_drawn {S : ZS} {r c u q9 : Nat} (b1 : big 400 (3 * q9)) (b2 : big 30000 (18 * q9)) (ho : OB S r 11) (hb : BB S c []) (hk : RM S (uD u q9 + 180 + 180 + 180 + 180 + 180 + 180 + 2)) : Rx (DF r c S.g u) (kL_drawn r c 1 4 S) S := by
  obtain ⟨m1, m2⟩ := hk.get (n := 2) (a := 6) (b := 20) (by omega) (by decide) (by decide)
  obtain ⟨S1, e1, s1, t1, l1, l2⟩ := k_init (S0 := S) m1 m2
  have h1 : DR S1 (2 * S.n + 1) r c (trN 60 1000) [] 0 100 [] S.g (uD u q9 + 180 + 180 + 180 + 180 + 180 + 180) := DR.ph1 t1 (ho.ste s1) (hb.ste s1 ⟨fun z => z, fun _ _ z => z⟩) s1.1 (hk.sub (n := 2) s1.2.2.2.2.1 s1.2.2.2.2.2.2 (by decide) (by decide) (Nat.le_refl _))
  have hT := TrM.nil (W := 60) (lim := 1000)
  unfold kL_drawn
  refine rx_chk ?_
  rw [nO_n (by omega) (by omega), e1, b1_s]
  refine Rx.mono (rx_chk (Rx.mono (rx_chk ?_) l1 l2)) (Nat.sub_le _ _) (Nat.sub_le _ _)
  refine dr_next (n := 2) h1 (by omega) (by omega) (fun j S2 hj h2 => ?_)
  by_cases z : nI j = 0
  · rw [if_pos z]
    refine dr_next (n := 181) h2 (by omega) (by omega) (fun W S3 hW3 h3 => ?_)
    rw [pI_o h3.tt.o]
    have h4 := h3.pI (h3.tt.sW (v := nI W))
    obtain ⟨S4, e4⟩ : ∃ z, z = S3.wi ((2 * S.n + 1) / 2) 0 (nI W) := ⟨_, rfl⟩
    rw [← e4] at h4 ⊢
    have hle : S4.c ≤ S3.c ∧ S4.w ≤ S3.w := by rw [e4]; exact ⟨Nat.le_refl _, Nat.le_refl _⟩
    refine Rx.mono ?_ hle.1 hle.2
    have q1 : (sB 61).length = 6 := rfl
    have q2 : (sB 62).length = 2 := rfl
    have qd := dc_len (m := W) (by omega)
    refine dr_appS (d := 61) h4 (by decide) (by show 0 + _ ≤ 1600; omega) (fun S5 h5 => ?_)
    rw [gI_o h5.tt.o, h5.tt.W]
    refine dr_appI (n := W) h5 (by omega) (by rw [List.length_append]; show 0 + _ ≤ 1600; omega) (fun S6 h6 => ?_)
    refine dr_appS (d := 62) h6 (by decide) (by simp only [List.length_append, List.length_nil]; omega) (fun S7 h7 => ?_)
    have e : ([] : List Int32) ++ sB 61 ++ dc W ++ sB 62 = tS [] (some W) none := tS_wid
    rw [e] at h7
    refine drawn49 (hw := some W) b1 b2 (fun V hV => by cases hV; omega) h7 ⟨rfl, rfl, rfl, hT.2.2.2⟩ ?_
    rw [← tS_wid]
    have e0 : (tS [] none none).length = 0 := rfl
    simp only [List.length_append]
    omega
  · rw [if_neg z]
    exact drawn49 (hw := none) b1 b2 (fun V hV => by cases hV) (h2.le (by omega)) hT (by decide)
