/-! a text is taught: the class then holds its train -/
theorem trim_ok {w : List Int32} {k : Nat} {g : G} (hw : byT w) (h : FeD w k g) (hl : w.length ≤ k) (hk : k ≤ 2000) : ∃ g', k8_trim (nI w.length) g = some (0, nI w.length, g') ∧ TP w g' := by
  refine ⟨up g 1 1 (nI w.length), ?_, up_self, by omega, hw, fun j hj => ?_⟩
  · unfold k8_trim
    rw [if_neg (nI_pos (by omega)), h.1, if_pos ((nI_leI (by omega) (by omega)).mpr hl), bd_eq]
  · rw [up_other (by decide), h.2 j (by omega)]
    exact if_pos hj
theorem t6 {N u c v : Nat} {w : List Int32} {hw hl : Option Nat} {M : List (List Int32 × Mi)} {L : List (OR4 × List It)} {A : TA} {S1 : ZS} (h1 : FS c v w S1) (hN : N ≤ 10) (hT : TXT N hw hl M L) (hW : w = spl (allN hw hl M L)) (hlen : w.length ≤ 1600) (hA : TrM A (M.map Prod.snd) (Wv hw) (lv hl)) : ∀ j f at' S, w.length ≤ at' + 20 * j → at' < w.length + 20 → j < f → Lnk v S1 S → FeD w at' S.g → RM S (u + j + 1) → Tg (fun x S' => x = 0 ∧ Lnk v S1 S' ∧ RC A (L.map Prod.fst) S'.g ∧ RM S' u) (kL_taught_6 f c v (nI at') S) S := by
  have hby := h1.1.1
  have last : ∀ f at' S, w.length ≤ at' → at' < w.length + 20 → 0 < f → Lnk v S1 S → FeD w at' S.g → RM S (u + 1) → Tg (fun x S' => x = 0 ∧ Lnk v S1 S' ∧ RC A (L.map Prod.fst) S'.g ∧ RM S' u) (kL_taught_6 f c v (nI at') S) S := by
    intro f at' S ha ha2 hf hl hd hr
    obtain ⟨f, rfl⟩ : ∃ z, f = z + 1 := ⟨f - 1, by omega⟩
    obtain ⟨f1, f2, f3, f4⟩ := h1.lk hl
    obtain ⟨g1, e1, p1⟩ := trim_ok hby hd ha (by omega)
    obtain ⟨g2, e2, p2⟩ := teach_ok hN hT p1 hW hA
    obtain ⟨r1, r2⟩ := hr
    unfold kL_taught_6
    rw [rcv_o f1.2.1, k_length f1, b2_s]
    refine tg_chk ?_ (Nat.le_refl _) (Nat.le_refl _)
    rw [if_pos ((nI_leI (by omega) (by omega)).mpr ha), rcv_o f1.2.1, k_length f1, b2_s]
    refine tg_chk ?_ (Nat.le_refl _) (Nat.le_refl _)
    unfold clR
    rw [if_pos ⟨by omega, by omega⟩, e1, some_bind, if_pos rfl]
    refine tg_chk ?_ (Nat.sub_le _ _) (Nat.sub_le _ _)
    unfold clI
    have e2' : k8_teach ((S.wg g1).use 3 18).g = some (0, g2) := e2
    show Tg _ ((k8_teach ((S.wg g1).use 3 18).g).bind fun u => some (u.1, ((S.wg g1).use 3 18).wg u.2)) _
    rw [e2', some_bind]
    refine ⟨0, _, rfl, Nat.le_refl _, Nat.le_refl _, rfl, hl.lk rfl rfl rfl rfl, p2, ?_, ?_⟩
    · show 3 * u ≤ S.c - 3; omega
    · show 18 * u ≤ S.w - 18; omega
  intro j
  induction j with
  | zero =>
    intro f at' S ha ha2 hf hl hd hr
    exact last f at' S (by omega) ha2 hf hl hd (hr.le (by omega))
  | succ j ih =>
    intro f at' S ha ha2 hf hl hd hr
    by_cases e : w.length ≤ at'
    · exact last f at' S e ha2 (by omega) hl hd (hr.le (by omega))
    · obtain ⟨f, rfl⟩ : ∃ z, f = z + 1 := ⟨f - 1, by omega⟩
      obtain ⟨f1, f2, f3, f4⟩ := h1.lk hl
      unfold kL_taught_6
      rw [rcv_o f1.2.1, k_length f1, b2_s]
      refine tg_chk ?_ (Nat.le_refl _) (Nat.le_refl _)
      rw [if_neg (by rw [nI_leI (by omega) (by omega)]; omega)]
      refine t17 (k := 0) h1 (by omega) (by omega) 5 FU S rfl (show 5 < 100000 by decide) hl (fun i hi => absurd hi (Nat.not_lt_zero _)) (fun S' l' g' c' w' => ?_)
      obtain ⟨r1, r2⟩ := hr
      rw [g']
      obtain ⟨g2, e2, p2⟩ := feed_ok hby hd (by omega)
      unfold clR
      rw [if_pos ⟨by rw [c']; omega, by rw [w']; omega⟩, e2, some_bind, if_pos rfl]
      refine tg_chk ?_ (Nat.sub_le _ _) (Nat.sub_le _ _)
      refine ih f (at' + 20) _ (by omega) (by omega) (by omega) (l'.lk rfl rfl rfl rfl) p2 ⟨?_, ?_⟩
      · show 3 * (u + j + 1) ≤ S'.c - 3; rw [c']; omega
      · show 18 * (u + j + 1) ≤ S'.w - 18; rw [w']; omega
theorem k_taught {N u c : Nat} {w : List Int32} {hw hl : Option Nat} {M : List (List Int32 × Mi)} {L : List (OR4 × List It)} {A : TA} {S0 : ZS} (hS : SO S0 c w) (hN : N ≤ 10) (hT : TXT N hw hl M L) (hW : w = spl (allN hw hl M L)) (hlen : w.length ≤ 1600) (hA : TrM A (M.map Prod.snd) (Wv hw) (lv hl)) (h11 : S0.g 1 1 = 0) (hr : RM S0 (u + 82)) : ∃ S' x y, kL_taught c S0 = some (0, S') ∧ Ste NO x y S0 (S'.wg S0.g) ∧ RC A (L.map Prod.fst) S'.g ∧ RM S' u := by
  obtain ⟨r1, r2⟩ := hr
  obtain ⟨S1, e1⟩ : ∃ z, z = S0.new (100000 + 5) 5 z0 := ⟨_, rfl⟩
  have hv : (2 * S0.n + 1) / 2 = S0.n := (nw_o _).2
  have s1 : Ste NO 1 5 S0 S1 := by rw [e1]; exact Ste.new (by omega) (by omega)
  have n1 : S1.n = S0.n + 1 ∧ S1.c = S0.c - 1 ∧ S1.w = S0.w - 5 ∧ S1.g = S0.g := by rw [e1]; exact ⟨rfl, rfl, rfl, rfl⟩
  obtain ⟨a1, a2, a3, a4, a5⟩ := hS
  have o1 := s1.old a2.2.1
  have o2 := s1.old a4.2.1
  have hF : FS c (2 * S0.n + 1) w S1 := by
    refine ⟨⟨a1, a2.ste s1, by rw [o1.1]; exact a3, by rw [o1.2]; exact a4.ste s1, fun j hj => by rw [o1.2, o2.1]; exact a5 j hj⟩, by rw [e1]; exact AR.mk (by omega), ?_, ?_⟩
    · have := a2.2.1; omega
    · rw [o1.2]; have := a4.2.1; omega
  obtain ⟨x, S', t1, t2, t3, rfl, t5, t6', t7⟩ := t6 (u := u) hF hN hT hW hlen hA 80 FU 0 S1 (by omega) (by omega) (show 80 < 100000 by decide) Lnk.refl ⟨by rw [n1.2.2.2]; exact h11, fun j hj => absurd hj (Nat.not_lt_zero _)⟩ ⟨by rw [n1.2.1]; omega, by rw [n1.2.2.1]; omega⟩
  refine ⟨S', S0.c - S'.c, S0.w - S'.w, ?_, ?_, t6', t7⟩
  · unfold kL_taught
    refine chk_of ?_ (by show S'.c ≤ S0.c; omega) (by show S'.w ≤ S0.w; omega)
    rw [show (5 : Int32) = nI 5 from rfl, nA_n (by omega) (by omega) (by omega), ← e1]
    exact chk_of t1 t2 t3
  · obtain ⟨l1, l2, l3, l4⟩ := t5
    refine ⟨rfl, ?_, fun o ho => ⟨?_, fun _ => ⟨?_, ?_⟩⟩, ?_, ?_, ?_, ?_⟩
    · show S0.n ≤ S'.n; omega
    · show S'.K o = _
      rw [l2]; exact (s1.2.2.1 o ho).1
    · show S'.i o = _
      rw [l4 o (by omega)]; exact (s1.old ho).1
    · show S'.r o = _
      rw [l3]; exact (s1.old ho).2
    · show S'.c ≤ S0.c; omega
    · show S0.c ≤ S'.c + _; omega
    · show S'.w ≤ S0.w; omega
    · show S0.w ≤ S'.w + _; omega
