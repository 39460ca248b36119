/-! the mirrors of a drawn train, its width and limit -/
def tS (ms : List Mi) (hw hl : Option Nat) : List Int32 := spl (widthI hw) ++ (spl (limitI hl) ++ spl (msI ms 0))
theorem tS_add {ms : List Mi} {hw hl : Option Nat} {x : Mi} : tS (ms ++ [x]) hw hl = tS ms hw hl ++ spl (mirI ms.length x) := by
  unfold tS
  rw [msI_app, spl_app, Nat.zero_add, List.append_assoc, List.append_assoc]
theorem tS_all {ms : List Mi} {hw hl : Option Nat} {L : List (OR4 × List It)} : tS ms hw hl ++ spl (L.flatMap Prod.snd) = spl (allI hw hl ms L) := by
  unfold tS allI
  rw [spl_app, spl_app, spl_app, List.append_assoc, List.append_assoc]
theorem mir_spl {m : Nat} {x : Mi} : spl (mirI m x) = sB 65 ++ (dc m ++ (sB 66 ++ (dc x.1 ++ (sB 67 ++ ((if x.2.1 = true then sB 48 else sB 68) ++ (dc x.2.2 ++ sB 69)))))) := by
  unfold mirI
  cases x.2.1 <;> rfl
theorem ofV_sg {x : Mi} (h : miOK x) (hp : x.2.1 = true → 0 < x.2.2) : (0 ≤ ofV x ↔ x.2.1 = false) ∧ (if 0 ≤ ofV x then ofV x else 0 - ofV x) = nI x.2.2 := by
  have hx := h.2
  unfold ofV
  cases e : x.2.1 with
  | false =>
    have h0 : (0 : Int32) ≤ nI x.2.2 := nI_pos' (by omega)
    rw [if_neg (by decide)]
    exact ⟨⟨fun _ => rfl, fun _ => h0⟩, if_pos h0⟩
  | true =>
    have h1 := hp e
    have h0 : ¬ (0 : Int32) ≤ -nI x.2.2 := by
      rw [Int32.le_iff_toInt_le, nI_neg (by omega), show (0 : Int32).toInt = 0 from rfl]
      omega
    rw [if_pos rfl]
    refine ⟨⟨fun z => absurd z h0, fun z => by cases z⟩, ?_⟩
    rw [if_neg h0, Int32.zero_sub, Int32.neg_neg]
theorem of181 {j : Nat} (h : j < 181) : ∃ b a, nI j - 90 = ofV (0, b, a) ∧ a ≤ 90 ∧ (b = true → 0 < a) := by
  by_cases e : j < 90
  · refine ⟨true, 90 - j, ?_, by omega, fun _ => by omega⟩
    have e1 : nI 90 - nI j = nI (90 - j) := nI_sub' (by omega)
    show nI j - 90 = -nI (90 - j)
    rw [← e1, Int32.neg_sub]
    rfl
  · refine ⟨false, j - 90, ?_, by omega, fun z => by cases z⟩
    show nI j - 90 = nI (j - 90)
    rw [← nI_sub' (by omega)]
    rfl
theorem DR.ph1 {S : ZS} {t r c : Nat} {A : TA} {w : List Int32} {g : G} {k : Nat} (hT : TT S t A) (ho : OB S r 11) (hb : BB S c w) (hg : S.g = g) (hk : RM S k) : DR S t r c A w 0 100 [] g k := ⟨hT, ho, hb, ⟨fun h => absurd h (by omega), fun j x h => by simp at h⟩, fun h => absurd rfl h, hg, hk⟩
set_option maxHeartbeats 2000000 in
theorem drawn193 {Φ : Nat → ZS → Prop} {S : ZS} {t r c u : Nat} {A : TA} {g : G} {w : List Int32} {ms : List Mi} {W lim v5 : Int32} {x : Mi} {K118 : Nat → Nat → Int32 → Nat → Int32 → Int32 → ZS → Option (Nat × ZS)} {v3 : Int32} (hx : miOK x) (hp : x.2.1 = true → 0 < x.2.2) (hms : ms.length ≤ 6) (h : DR S t r c A w 0 100 [] g (u + 180 + 180 + 180 + 180 + 180 + 180 + 180 + 180 + 2)) (hT : TrM A ms W lim) (hl : w.length + 36 ≤ 1600) (K : ∀ S' A', DR S' t r c A' (w ++ spl (mirI ms.length x)) 0 100 [] g u → TrM A' (ms ++ [x]) W lim → Rx Φ (K118 r c v3 t v5 (nI (ms.length + 1)) S') S') : Rx Φ (kL_drawn_193 K118 r c v3 t v5 (nI ms.length) (nI x.1) (ofV x) S) S := by
  have hx1 := hx.1
  have hx2 := hx.2
  have hN := hT.1
  have hrw := hT.2.2.2.2.1
  obtain ⟨m1, m2⟩ := h.rm.get (n := 2) (a := 3) (b := 25) (by omega) (by decide) (by decide)
  obtain ⟨S1, e1, s1, t1, r1⟩ := k_add (v1 := nI x.1) (v2 := ofV x) h.tt (by omega) (fun p hp => by rw [hrw p (by omega)]; omega) m1 m2
  have hb1 := h.bb.ste s1 ⟨by unfold QT; omega, fun n _ => by unfold QT; omega⟩
  have h1 : DR S1 t r c (addA A (nI x.1) (ofV x)) w 0 100 [] g (u + 180 + 180 + 180 + 180 + 180 + 180 + 180 + 180) := DR.ph1 t1 (h.ob.ste s1) hb1 (by rw [s1.1]; exact h.g) (h.rm.sub (n := 2) s1.2.2.2.2.1 s1.2.2.2.2.2.2 (by decide) (by decide) (Nat.le_refl _))
  obtain ⟨g1, g2⟩ := ofV_sg hx hp
  have hml := mir_len (m := ms.length) (by omega) hx
  rw [mir_spl] at hml
  simp only [List.length_append] at hml
  have l5 : (sB 65).length = 8 := rfl
  have l6 : (sB 66).length = 9 := rfl
  have l7 : (sB 67).length = 8 := rfl
  have l9 : (sB 69).length = 1 := rfl
  unfold kL_drawn_193
  rw [rcv_o h.tt.o]
  refine rx_b1 e1 s1.2.2.2.1 s1.2.2.2.2.2.1 ?_
  refine dr_appS (d := 65) h1 (by decide) (by omega) (fun S2 h2 => ?_)
  refine dr_appI (n := ms.length) h2 (by omega) (by rw [List.length_append]; omega) (fun S3 h3 => ?_)
  refine dr_appS (d := 66) h3 (by decide) (by simp only [List.length_append]; omega) (fun S4 h4 => ?_)
  refine dr_appI (n := x.1) h4 (by omega) (by simp only [List.length_append]; omega) (fun S5 h5 => ?_)
  refine dr_appS (d := 67) h5 (by decide) (by simp only [List.length_append]; omega) (fun S6 h6 => ?_)
  have fin : ∀ k, k < NS → sB k = (if x.2.1 = true then sB 48 else sB 68) → Rx Φ (kL_drawn_240 K118 r c v3 t v5 (nI ms.length) (ofV x) k c S6) S6 := by
    intro k hk ek
    unfold kL_drawn_240
    refine dr_appS (d := k) h6 hk (by rw [ek]; simp only [List.length_append]; omega) (fun S7 h7 => ?_)
    rw [bd_eq, g2]
    refine dr_appI (n := x.2.2) h7 (by omega) (by rw [ek]; simp only [List.length_append]; omega) (fun S8 h8 => ?_)
    refine dr_appS (d := 69) (k := u) (h8.le (by omega)) (by decide) (by rw [ek]; simp only [List.length_append]; omega) (fun S9 h9 => ?_)
    rw [bd_eq, nI_1]
    refine K S9 _ ?_ hT.add
    have e : w ++ sB 65 ++ dc ms.length ++ sB 66 ++ dc x.1 ++ sB 67 ++ sB k ++ dc x.2.2 ++ sB 69 = w ++ spl (mirI ms.length x) := by
      rw [mir_spl, ek]
      simp only [List.append_assoc]
    rw [← e]
    exact h9
  cases e : x.2.1 with
  | false =>
    rw [if_pos (g1.mpr e)]
    exact fin 68 (by decide) (by rw [e]; rfl)
  | true =>
    rw [if_neg (fun z => by rw [g1.mp z] at e; cases e)]
    exact fin 48 (by decide) (by rw [e]; rfl)
set_option maxHeartbeats 2000000 in
theorem drawn151 {Φ : Nat → ZS → Prop} {S : ZS} {t r c u cl : Nat} {A : TA} {g : G} {w : List Int32} {ms : List Mi} {W lim v5 : Int32} {K118 : Nat → Nat → Int32 → Nat → Int32 → Int32 → ZS → Option (Nat × ZS)} {v3 : Int32} (hcl : cl ≤ 100) (hms : ms.length ≤ 6) (h : DR S t r c A w 0 100 [] g (u + 180 + 180 + 180 + 180 + 180 + 180 + 180 + 180 + 2)) (hT : TrM A ms W lim) (hl : w.length + 36 ≤ 1600) (K : ∀ S' A' x, miOK x → DR S' t r c A' (w ++ spl (mirI ms.length x)) 0 100 [] g u → TrM A' (ms ++ [x]) W lim → Rx Φ (K118 r c v3 t v5 (nI (ms.length + 1)) S') S') : Rx Φ (kL_drawn_151 K118 r c v3 t v5 (nI ms.length) (nI cl) S) S := by
  have key : ∀ S1 b a, a ≤ 90 → (b = true → 0 < a) → DR S1 t r c A w 0 100 [] g (u + 180 + 180 + 180 + 180 + 180 + 180 + 180 + 180 + 2) → Rx Φ (kL_drawn_180 K118 r c v3 t v5 (nI ms.length) (nI cl) (ofV (0, b, a)) S1) S1 := by
    intro S1 b a ha hb h1
    unfold kL_drawn_180
    rw [bd_eq]
    refine dr_next (n := 3) h1 (by omega) (by omega) (fun j S2 hj h2 => ?_)
    by_cases z : nI j = 0
    · rw [if_pos z]
      exact drawn193 (x := (cl, false, 0)) ⟨hcl, by show 0 ≤ 90; omega⟩ (fun y => by cases y) hms h2 hT hl (fun S' A' k1 k2 => K S' A' _ ⟨hcl, by show 0 ≤ 90; omega⟩ k1 k2)
    · rw [if_neg z]
      exact drawn193 (x := (cl, b, a)) ⟨hcl, ha⟩ hb hms h2 hT hl (fun S' A' k1 k2 => K S' A' _ ⟨hcl, ha⟩ k1 k2)
  unfold kL_drawn_151
  rw [bd_eq]
  refine dr_next (n := 2) h (by omega) (by omega) (fun j S2 hj h2 => ?_)
  by_cases z : nI j = 0
  · rw [if_pos z]
    refine dr_next (n := 10) h2 (by omega) (by omega) (fun i S3 hi h3 => ?_)
    exact key S3 false i (by omega) (fun y => by cases y) h3
  · rw [if_neg z]
    refine dr_next (n := 181) h2 (by omega) (by omega) (fun i S3 hi h3 => ?_)
    obtain ⟨b, a, e1, e2, e3⟩ := of181 hi
    rw [e1]
    exact key S3 b a e2 e3 h3
