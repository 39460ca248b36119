/-! looks ahead -/
theorem RC.lo {A : TA} {P : List OR4} {g g' : G} (h : RC A P g) (hf : ∀ a, a < 34 → g' a = g a) : RC A P g' := ⟨h.r.far (fun a _ a2 => hf a (by omega)) (by rw [hf 21 (by omega)]), h.w, h.p.frame (hf 16 (by omega)) (hf 19 (by omega)) (hf 20 (by omega)), by rw [hf 1 (by omega)]; exact h.t⟩
theorem RC.C {A A' : TA} {P : List OR4} {g g' : G} (h : RC A P g) (hf : fC 21 g g') (r : RW 21 A' g') (hw : WA A') : RC A' P g' := ⟨r, hw, h.p.C (by omega) hf, by rw [hf 1 (by omega)]; exact h.t⟩
theorem fC34 {g g' : G} (h : fC 34 g g') : ∀ a, a < 34 → g' a = g a := fun a ha => h a (by omega)
theorem copyW {A : TA} {g : G} (h : RW 21 A g) (hA : WA A) : ∃ g', k7_copy 34 21 g = some g' ∧ RW 34 A g' ∧ ∀ a, a < 34 → g' a = g a := by
  obtain ⟨g1, e1, f1, f2, f3, f4⟩ := copyR g
  have hJ := hA.J12
  have hN := hA.N9
  obtain ⟨g2, eg2⟩ : ∃ z, z = up (up (up (cpy (cpy g1 31 44 12) 32 45 12) 43 2 (g 30 2)) 43 3 (g 30 3)) 43 4 (g 30 4) := ⟨_, rfl⟩
  have e30 : g1 30 = g 30 := f1 30 (by omega)
  have e31 : g1 31 = g 31 := f1 31 (by omega)
  have e32 : g1 32 = g 32 := f1 32 (by omega)
  have e2 : k3_copy 43 30 g1 = some g2 := by
    unfold k3_copy
    simp only [bd_eq]
    rw [up_other (by decide), up_other (by decide), cpy_ne (by decide), cpy_ne (by decide), up_other (by decide), cpy_ne (by decide), cpy_ne (by decide), e30, eg2]
  have n2 : ∀ a, a ≠ 43 → a ≠ 44 → a ≠ 45 → g2 a = g1 a := fun a a1 a2 a3 => by rw [eg2, up_ne a1, up_ne a1, up_ne a1, cpy_ne a3, cpy_ne a2]
  have e3 : k7_copy 34 21 g = some (up g2 34 5 (g 21 5)) := by
    unfold k7_copy
    show (k4_copy 35 22 g).bind _ = _
    rw [e1, some_bind]
    show (k3_copy 43 30 g1).bind _ = _
    rw [e2, some_bind, bd_eq, n2 21 (by omega) (by omega) (by omega), f1 21 (by omega)]
  have hlow : ∀ a, a ≠ 34 → a ≠ 43 → a ≠ 44 → a ≠ 45 → up g2 34 5 (g 21 5) a = g1 a := fun a a1 a2 a3 a4 => by rw [up_ne a1, n2 a a2 a3 a4]
  refine ⟨_, e3, ⟨?_, ?_, ?_, ?_, ?_, fun m hm => ?_, Or.inl ?_, ?_, ?_, ?_, fun k hk => ?_, ?_⟩, fun a ha => ?_⟩
  · rw [hlow 35 (by omega) (by omega) (by omega) (by omega), f3 7 (by omega) (by omega)]; exact h.N
  · rw [hlow 35 (by omega) (by omega) (by omega) (by omega), f3 8 (by omega) (by omega)]; exact h.W
  · rw [hlow 35 (by omega) (by omega) (by omega) (by omega), f3 9 (by omega) (by omega)]; exact h.lim
  · rw [hlow 35 (by omega) (by omega) (by omega) (by omega), f3 10 (by omega) (by omega)]; exact h.cv
  · refine ⟨hN, fun p hp => ⟨?_, hA.lt hp⟩, fun p q hp hq e => hA.inj hp hq e⟩
    show up g2 34 5 (g 21 5) 39 p = _
    rw [hlow 39 (by omega) (by omega) (by omega) (by omega)]
    exact (f4 4 p (by omega) (by omega) (by omega)).trans (h.row.2.1 p hp).1
  · show up g2 34 5 (g 21 5) 36 m = _ ∧ up g2 34 5 (g 21 5) 37 m = _ ∧ up g2 34 5 (g 21 5) 38 m = _
    rw [hlow 36 (by omega) (by omega) (by omega) (by omega), hlow 37 (by omega) (by omega) (by omega) (by omega), hlow 38 (by omega) (by omega) (by omega) (by omega)]
    obtain ⟨b1, b2, b3⟩ := h.m hm
    exact ⟨(f4 1 m (by omega) (by omega) (by omega)).trans b1, (f4 2 m (by omega) (by omega) (by omega)).trans b2, (f4 3 m (by omega) (by omega) (by omega)).trans b3⟩
  · rw [hlow 35 (by omega) (by omega) (by omega) (by omega)]; exact f2
  · show up g2 34 5 (g 21 5) 43 2 = _
    rw [up_other (by omega), eg2, up_slot (by decide), up_slot (by decide), up_self]; exact h.J
  · show up g2 34 5 (g 21 5) 43 3 = _
    rw [up_other (by omega), eg2, up_slot (by decide), up_self]; exact h.go
  · show up g2 34 5 (g 21 5) 43 4 = _
    rw [up_other (by omega), eg2, up_self]; exact h.dn
  · show up g2 34 5 (g 21 5) 44 k = _ ∧ up g2 34 5 (g 21 5) 45 k = _
    obtain ⟨b1, b2⟩ := h.j hk
    rw [up_ne (by omega), up_ne (by omega), eg2, up_ne (by omega), up_ne (by omega), up_ne (by omega), up_ne (by omega), up_ne (by omega), up_ne (by omega)]
    refine ⟨?_, ?_⟩
    · rw [cpy_ne (by omega), cpy_at (by omega), e31]; exact b1
    · rw [cpy_at (by omega), cpy_ne (by omega), e32]; exact b2
  · rw [up_self]; exact h.mi
  · rw [hlow a (by omega) (by omega) (by omega) (by omega)]; exact f1 a (by omega)
theorem in100 {n : Nat} (h1 : 1 ≤ n) (h2 : n ≤ 100) (g : G) : k8_checkMinutes (nI n) g = some (0, 0, g) := by
  unfold k8_checkMinutes
  have a1 : ¬ nI n < 1 := by
    rw [show (1 : Int32) = nI 1 from rfl, nI_ltI (by omega) (by omega)]
    omega
  have a2 : nI n ≤ 100 := (nI_leI (b := 100) (by omega) (by omega)).mpr h2
  rw [if_neg a1, if_pos a2]
theorem q_passMinutes {A : TA} {P : List OR4} {g : G} {n : Nat} (h : RC A P g) (hg : ∀ o, o ∈ P → goodO A.N o) (h1 : 1 ≤ n) (h2 : n ≤ 100) : ∃ g', k8_passMinutes (nI n) g = some (0, (minN P n A).dn - A.dn, g') ∧ RC (minN P n A) P g' := by
  obtain ⟨g', e, r, f⟩ := pass_ok (w := 21) (n := n) (by omega) (by omega) h.w hg h.p h.r
  refine ⟨g', ?_, h.C f r (h.w.minN n hg)⟩
  unfold k8_passMinutes
  rw [in100 h1 h2, xb_0, bd_eq, e, some_bind]
  have a1 : g 30 4 = A.dn := h.r.dn
  have a2 : g' 30 4 = (minN P n A).dn := r.dn
  rw [a1, a2]
theorem q_lightAfter {A : TA} {P : List OR4} {g : G} {n : Nat} (h : RC A P g) (hg : ∀ o, o ∈ P → goodO A.N o) (h1 : 1 ≤ n) (h2 : n ≤ 100) : ∃ g', k8_lightAfter (nI n) g = some (0, lgt (minN P n A) A.N, g') ∧ RC A P g' := by
  obtain ⟨g1, e1, r1, f1⟩ := copyW h.r h.w
  have h1' := h.lo f1
  obtain ⟨g2, e2, r2, f2⟩ := pass_ok (w := 34) (n := n) (by omega) (by omega) h.w hg h1'.p r1
  obtain ⟨g3, e3, q3, r3⟩ := rw_end r2
  have e3 : k4_lastLight 35 g2 = some (lgt (minN P n A) (minN P n A).N, g3) := e3
  rw [minN_N] at e3
  refine ⟨g3, ?_, h1'.lo (fun a ha => by rw [fC34 q3.C a ha, fC34 f2 a ha])⟩
  unfold k8_lightAfter
  rw [in100 h1 h2, xb_0, e1, some_bind, e2, some_bind, e3]
  rfl
def musA (P : List OR4) : Nat → Nat → TA → Int32
  | 0, _, _ => -1
  | d + 1, i, A => if snA A = 0 then musA P d (i + 1) (minA P A) else nI i
theorem mus_loop {P : List OR4} : ∀ (d i f : Nat) (A : TA) (g : G), 101 = i + d → d < f → WA A → (∀ o, o ∈ P → goodO A.N o) → RPl P g → RW 34 A g → ∃ g', (∀ a, a < 34 → g' a = g a) ∧ k8_minutesUntilSeen_13 f (nI i) g = some (musA P d i A, g') := by
  intro d
  induction d with
  | zero =>
    intro i f A g hd hf hA hg hp h
    obtain ⟨f, rfl⟩ : ∃ z, f = z + 1 := ⟨f - 1, by omega⟩
    obtain rfl : i = 101 := by omega
    exact ⟨g, fun _ _ => rfl, rfl⟩
  | succ d ih =>
    intro i f A g hd hf hA hg hp h
    obtain ⟨f, rfl⟩ : ∃ z, f = z + 1 := ⟨f - 1, by omega⟩
    obtain ⟨g1, e1, q1, r1⟩ := rw_seen h
    have e1 : k4_showsLight 35 g = some (snA A, g1) := e1
    have hni : ¬ (100 : Int32) < nI i := by
      rw [show (100 : Int32) = nI 100 from rfl, nI_ltI (by omega) (by omega)]
      omega
    unfold k8_minutesUntilSeen_13 musA
    rw [if_neg hni, e1, some_bind]
    by_cases e : snA A = 0
    · have hp1 := hp.C (by omega) q1.C
      obtain ⟨g2, e2, r2, f2⟩ := pass_ok (w := 34) (n := 1) (by omega) (by omega) hA hg hp1 r1
      obtain ⟨g3, f3, e3⟩ := ih (i + 1) f (minA P A) g2 (by omega) (by omega) (hA.min hg) (fun o ho => by rw [minA_N]; exact hg o ho) (hp1.C (by omega) f2) r2
      refine ⟨g3, fun a ha => by rw [f3 a ha, fC34 f2 a ha, fC34 q1.C a ha], ?_⟩
      have e2 : k7_pass 34 1 g1 = some g2 := e2
      show (if snA A = 0 then (k7_pass 34 1 g1).bind _ else _) = _
      rw [if_pos e, if_pos e, e2, some_bind, bd_eq, nI_1]
      exact e3
    · refine ⟨g1, fun a ha => fC34 q1.C a ha, ?_⟩
      show (if snA A = 0 then _ else some (nI i, g1)) = _
      rw [if_neg e, if_neg e]
theorem q_minutesUntilSeen {A : TA} {P : List OR4} {g : G} (h : RC A P g) (hg : ∀ o, o ∈ P → goodO A.N o) : ∃ g', k8_minutesUntilSeen g = some (musA P 101 0 A, g') ∧ RC A P g' := by
  obtain ⟨g1, e1, r1, f1⟩ := copyW h.r h.w
  have h1' := h.lo f1
  obtain ⟨g2, f2, e2⟩ := mus_loop 101 0 FU A g1 rfl (by unfold FU; omega) h.w hg h1'.p r1
  refine ⟨g2, ?_, h1'.lo f2⟩
  unfold k8_minutesUntilSeen
  rw [e1, some_bind]
  exact e2
def mudA (P : List OR4) (v : Int32) : Nat → Nat → TA → Int32
  | 0, _, _ => -1
  | d + 1, i, A => if (minA P A).dn < v then mudA P v d (i + 1) (minA P A) else nI i
theorem mud_loop {P : List OR4} {v : Int32} : ∀ (d i f : Nat) (A : TA) (g : G), 301 = i + d → d < f → WA A → (∀ o, o ∈ P → goodO A.N o) → RPl P g → RW 34 A g → ∃ g', (∀ a, a < 34 → g' a = g a) ∧ k8_minutesUntilDone_33 f v (nI i) g = some (0, mudA P v d i A, g') := by
  intro d
  induction d with
  | zero =>
    intro i f A g hd hf hA hg hp h
    obtain ⟨f, rfl⟩ : ∃ z, f = z + 1 := ⟨f - 1, by omega⟩
    obtain rfl : i = 301 := by omega
    exact ⟨g, fun _ _ => rfl, rfl⟩
  | succ d ih =>
    intro i f A g hd hf hA hg hp h
    obtain ⟨f, rfl⟩ : ∃ z, f = z + 1 := ⟨f - 1, by omega⟩
    have hni : ¬ (300 : Int32) < nI i := by
      rw [show (300 : Int32) = nI 300 from rfl, nI_ltI (by omega) (by omega)]
      omega
    obtain ⟨g1, e1, r1, f1⟩ := pass_ok (w := 34) (n := 1) (by omega) (by omega) hA hg hp h
    have e1 : k7_pass 34 1 g = some g1 := e1
    have r1 : RW 34 (minA P A) g1 := r1
    have e2 : g1 43 4 = (minA P A).dn := r1.dn
    unfold k8_minutesUntilDone_33 mudA
    rw [if_neg hni, e1, some_bind, e2]
    by_cases e : (minA P A).dn < v
    · obtain ⟨g3, f3, e3⟩ := ih (i + 1) f (minA P A) g1 (by omega) (by omega) (hA.min hg) (fun o ho => by rw [minA_N]; exact hg o ho) (hp.C (by omega) f1) r1
      refine ⟨g3, fun a ha => by rw [f3 a ha, fC34 f1 a ha], ?_⟩
      rw [if_pos e, if_pos e, bd_eq, nI_1]
      exact e3
    · refine ⟨g1, fun a ha => fC34 f1 a ha, ?_⟩
      rw [if_neg e, if_neg e]
theorem q_minutesUntilDone {A : TA} {P : List OR4} {g : G} {k : Nat} (h : RC A P g) (hg : ∀ o, o ∈ P → goodO A.N o) (hk : k < A.J) : ∃ g', k8_minutesUntilDone (nI k) g = some (0, mudA P (A.dn + nI k + 1) 300 1 A, g') ∧ RC A P g' := by
  obtain ⟨g1, e1, r1, f1⟩ := copyW h.r h.w
  have h1' := h.lo f1
  obtain ⟨g2, f2, e2⟩ := mud_loop (v := A.dn + nI k + 1) 300 1 FU A g1 rfl (by unfold FU; omega) h.w hg h1'.p r1
  refine ⟨g2, ?_, h1'.lo f2⟩
  have a1 : g1 30 4 = A.dn := h1'.r.dn
  unfold k8_minutesUntilDone
  rw [h.chkJ hk, xb_0, e1, some_bind, bd_eq, a1]
  exact e2
/-! a row alone, copied -/
def RR (o : Nat) (A : TA) (cv : Int32) (g : G) : Prop := g o 7 = nI A.N ∧ g o 8 = A.W ∧ g o 10 = cv ∧ isRow g (o + 4) A.N A.rw ∧ (∀ m, m < A.N → g (o + 1) m = A.cl m ∧ g (o + 2) m = A.be m ∧ g (o + 3) m = A.of m) ∧ litOK o g A.rw A.N
theorem copyRR {A : TA} {g : G} (h : RW 21 A g) (hA : WA A) : ∃ g', k4_copy 35 22 g = some g' ∧ RR 35 A (cov A) g' ∧ ∀ a, a < 34 → g' a = g a := by
  obtain ⟨g1, e1, f1, f2, f3, f4⟩ := copyR g
  have hN := hA.N9
  refine ⟨g1, e1, ⟨?_, ?_, ?_, ⟨hN, fun p hp => ⟨?_, hA.lt hp⟩, fun p q hp hq e => hA.inj hp hq e⟩, fun m hm => ?_, Or.inl f2⟩, fun a ha => f1 a (by omega)⟩
  · rw [f3 7 (by omega) (by omega)]; exact h.N
  · rw [f3 8 (by omega) (by omega)]; exact h.W
  · rw [f3 10 (by omega) (by omega)]; exact h.cv
  · exact (f4 4 p (by omega) (by omega) (by omega)).trans (h.row.2.1 p hp).1
  · obtain ⟨b1, b2, b3⟩ := h.m hm
    exact ⟨(f4 1 m (by omega) (by omega) (by omega)).trans b1, (f4 2 m (by omega) (by omega) (by omega)).trans b2, (f4 3 m (by omega) (by omega) (by omega)).trans b3⟩
theorem rr_end {o : Nat} {A : TA} {cv : Int32} {g : G} (ho : 34 < o) (h : RR o A cv g) : ∃ g', k4_lastLight o g = some (shL A.cl A.of A.rw A.W cv A.N, g') ∧ RR o A cv g' ∧ ∀ a, a < 34 → g' a = g a := by
  obtain ⟨h1, h2, h3, h4, h5, h6⟩ := h
  obtain ⟨g', e1, l1⟩ := k4_shine_ok h1 h4 h6
  obtain ⟨m1, m2, m3, m4, m5, m6⟩ := id l1
  refine ⟨g', ?_, ⟨by rw [m2 7 (by decide) (by decide) (by decide)]; exact h1, by rw [m2 8 (by decide) (by decide) (by decide)]; exact h2, by rw [m2 10 (by decide) (by decide) (by decide)]; exact h3, isRow_same (m1 _ (by omega) (by omega) (by omega) (by omega)) h4, fun m hm => ?_, l1.ok⟩, fun a ha => m1 a (by omega) (by omega) (by omega) (by omega)⟩
  · unfold k4_lastLight
    rw [e1, some_bind, m5, h2, h3]
    congr 2
    exact shL_congr (fun p hp => (h5 _ (h4.2.1 p hp).2).1) (fun p hp => (h5 _ (h4.2.1 p hp).2).2.2) _ (Nat.le_refl _)
  · rw [m1 _ (by omega) (by omega) (by omega) (by omega), m1 _ (by omega) (by omega) (by omega) (by omega), m1 _ (by omega) (by omega) (by omega) (by omega)]
    exact h5 m hm
theorem RR.wr {o : Nat} {A A' : TA} {cv : Int32} {g g' : G} (h : RR o A cv g) (hs : A'.N = A.N ∧ A'.W = A.W ∧ A'.rw = A.rw) (hf : g' (o + 4) = g (o + 4)) (hk : ∀ k, k ≠ 13 → g' o k = g o k) (h0 : g' o 13 = 0) (hm : ∀ m, m < A.N → g' (o + 1) m = A'.cl m ∧ g' (o + 2) m = A'.be m ∧ g' (o + 3) m = A'.of m) : RR o A' cv g' := by
  obtain ⟨s1, s2, s3⟩ := hs
  obtain ⟨h1, h2, h3, h4, h5, h6⟩ := h
  exact ⟨by rw [hk 7 (by decide), s1]; exact h1, by rw [hk 8 (by decide), s2]; exact h2, by rw [hk 10 (by decide)]; exact h3, by rw [s1, s3]; exact isRow_same hf h4, by rw [s1]; exact hm, Or.inl h0⟩
theorem rr_turn {o m : Nat} {v : Int32} {A : TA} {cv : Int32} {g : G} (ho : 34 < o) (h : RR o A cv g) (hm : m < A.N) : ∃ g', k4_turn o (nI m) v g = some g' ∧ RR o (turnA A m v) cv g' ∧ ∀ a, a < 34 → g' a = g a := by
  have hN := h.2.2.2.1.1
  refine ⟨up (up g (o + 3) m v) o 13 0, ?_, h.wr ⟨rfl, rfl, rfl⟩ (by rw [up_ne (by omega), up_ne (by omega)]) (fun k hk => by rw [up_slot hk, up_other (by omega)]) up_self (fun i hi => ?_), fun a ha => by rw [up_ne (by omega), up_ne (by omega)]⟩
  · unfold k4_turn
    rw [k4_has_n h.1 hN hm, some_bind, if_neg (by decide), sto_n (by omega) (by omega), bd_eq]
  · rw [up_other (by omega), up_other (by omega), up_other (by omega), up_other (by omega), up_other (by omega)]
    obtain ⟨b1, b2, b3⟩ := h.2.2.2.2.1 i hi
    refine ⟨b1, b2, ?_⟩
    show up g (o + 3) m v (o + 3) i = updI A.of m v i
    by_cases q : i = m
    · subst q; rw [up_self, updI_eq]
    · rw [up_slot q, updI_ne q, b3]
theorem rr_clean {o m : Nat} {A : TA} {cv : Int32} {g : G} (ho : 34 < o) (h : RR o A cv g) (hm : m < A.N) : ∃ g', k4_clean o (nI m) g = some g' ∧ RR o (finA A 0 m) cv g' ∧ ∀ a, a < 34 → g' a = g a := by
  have hN := h.2.2.2.1.1
  obtain ⟨b1, b2, b3⟩ := h.2.2.2.2.1 m hm
  refine ⟨up (up (up g (o + 1) m (if A.cl m < A.be m then A.be m else A.cl m)) (o + 2) m (if 0 < A.be m - 1 then A.be m - 1 else 0)) o 13 0, ?_, h.wr ⟨rfl, rfl, rfl⟩ (by rw [up_ne (by omega), up_ne (by omega), up_ne (by omega)]) (fun k hk => by rw [up_slot hk, up_other (by omega), up_other (by omega)]) up_self (fun i hi => ?_), fun a ha => by rw [up_ne (by omega), up_ne (by omega), up_ne (by omega)]⟩
  · unfold k4_clean
    rw [k4_has_n h.1 hN hm, some_bind, if_neg (by decide), ld_n (by omega) (by omega), ld_n (by omega) (by omega), b1, b2, bd_eq, sto_n (by omega) (by omega), ld_n (by omega) (by omega), up_other (by omega), b2, bd_eq, sto_n (by omega) (by omega), bd_eq]
  · have c1 : up (up (up g (o + 1) m (if A.cl m < A.be m then A.be m else A.cl m)) (o + 2) m (if 0 < A.be m - 1 then A.be m - 1 else 0)) (o) 13 0 (o + 1) i = up g (o + 1) m (if A.cl m < A.be m then A.be m else A.cl m) (o + 1) i := by rw [up_other (by omega), up_other (by omega)]
    have c2 : up (up (up g (o + 1) m (if A.cl m < A.be m then A.be m else A.cl m)) (o + 2) m (if 0 < A.be m - 1 then A.be m - 1 else 0)) (o) 13 0 (o + 2) i = up (up g (o + 1) m (if A.cl m < A.be m then A.be m else A.cl m)) (o + 2) m (if 0 < A.be m - 1 then A.be m - 1 else 0) (o + 2) i := by rw [up_other (by omega)]
    have c3 : up (up (up g (o + 1) m (if A.cl m < A.be m then A.be m else A.cl m)) (o + 2) m (if 0 < A.be m - 1 then A.be m - 1 else 0)) (o) 13 0 (o + 3) i = g (o + 3) i := by rw [up_other (by omega), up_other (by omega), up_other (by omega)]
    rw [c1, c2, c3]
    obtain ⟨d1, d2, d3⟩ := h.2.2.2.2.1 i hi
    refine ⟨?_, ?_, d3⟩
    · show up g (o + 1) m (if A.cl m < A.be m then A.be m else A.cl m) (o + 1) i = updI A.cl m (if A.cl m < A.be m then A.be m else A.cl m) i
      by_cases q : i = m
      · subst q; rw [up_self, updI_eq]
      · rw [up_slot q, updI_ne q, d1]
    · show up (up g (o + 1) m (if A.cl m < A.be m then A.be m else A.cl m)) (o + 2) m (if 0 < A.be m - 1 then A.be m - 1 else 0) (o + 2) i = updI A.be m (if 0 < A.be m - 1 then A.be m - 1 else 0) i
      by_cases q : i = m
      · subst q; rw [up_self, updI_eq]
      · rw [up_slot q, updI_ne q, up_other (by omega), d2]
/-- the light at the end if a mirror were cleaned, if it were turned -/
def lcA (A : TA) (m : Nat) : Int32 := lgt (finA A 0 m) A.N
def loA (A : TA) (m : Nat) (v : Int32) : Int32 := lgt (turnA A m v) A.N
def btcA (A : TA) : Nat → Nat → Int32 → Int32 → Int32
  | 0, _, f, _ => f
  | d + 1, p, f, mo => if lcA A p ≤ mo then btcA A d (p + 1) f mo else btcA A d (p + 1) (nI p) (lcA A p)
theorem btc_loop {A : TA} {P : List OR4} : ∀ (d p f : Nat) (fo mo : Int32) (g : G), A.N = p + d → d < f → RC A P g → ∃ g', k8_bestToClean_15 f fo mo (nI p) g = some (btcA A d p fo mo, g') ∧ RC A P g' := by
  intro d
  induction d with
  | zero =>
    intro p f fo mo g hd hf h
    obtain ⟨f, rfl⟩ : ∃ z, f = z + 1 := ⟨f - 1, by omega⟩
    have hN : g 22 7 = nI A.N := h.r.N
    have hN9 := h.r.N9
    refine ⟨g, ?_, h⟩
    unfold k8_bestToClean_15
    rw [hN, if_pos (by rw [nI_leI (by omega) (by omega)]; omega)]
    rfl
  | succ d ih =>
    intro p f fo mo g hd hf h
    obtain ⟨f, rfl⟩ : ∃ z, f = z + 1 := ⟨f - 1, by omega⟩
    have hN : g 22 7 = nI A.N := h.r.N
    have hN9 := h.r.N9
    obtain ⟨g1, e1, r1, f1⟩ := copyRR h.r h.w
    obtain ⟨g2, e2, r2, f2⟩ := rr_clean (m := p) (by omega) r1 (by omega)
    obtain ⟨g3, e3, r3, f3⟩ := rr_end (by omega) r2
    have h3 : RC A P g3 := h.lo (fun a ha => by rw [f3 a ha, f2 a ha, f1 a ha])
    have e3 : k4_lastLight 35 g2 = some (lcA A p, g3) := e3
    unfold k8_bestToClean_15 btcA
    rw [hN, if_neg (by rw [nI_leI (by omega) (by omega)]; omega), e1, some_bind, e2, some_bind, e3, some_bind, bd_eq]
    by_cases e : lcA A p ≤ mo
    · obtain ⟨g4, e4, h4⟩ := ih (p + 1) f fo mo g3 (by omega) (by omega) h3
      refine ⟨g4, ?_, h4⟩
      rw [if_pos e, if_pos e, bd_eq, nI_1]
      exact e4
    · obtain ⟨g4, e4, h4⟩ := ih (p + 1) f (nI p) (lcA A p) g3 (by omega) (by omega) h3
      refine ⟨g4, ?_, h4⟩
      rw [if_neg e, if_neg e, bd_eq, nI_1]
      exact e4
theorem q_bestToClean {A : TA} {P : List OR4} {g : G} (h : RC A P g) : ∃ g', k8_bestToClean g = some (btcA A A.N 0 (-1) (lgt A A.N), g') ∧ RC A P g' := by
  obtain ⟨g1, e1, q1, r1⟩ := rw_end h.r
  have e1 : k4_lastLight 22 g = some (lgt A A.N, g1) := e1
  obtain ⟨g2, e2, h2⟩ := btc_loop A.N 0 FU (-1) (lgt A A.N) g1 (by omega) (by have := h.w.N9; unfold FU; omega) (h.q q1 r1)
  refine ⟨g2, ?_, h2⟩
  unfold k8_bestToClean
  rw [e1, some_bind, bd_eq]
  exact e2
/-! the offset that brings most light -/
def bo1 (A : TA) (m : Nat) (x : Int32) (q : Int32 × Int32) : Int32 × Int32 := if loA A m x ≤ q.2 then q else (x, loA A m x)
def boA (A : TA) (m : Nat) : Nat → Nat → Int32 × Int32 → Int32
  | 0, _, q => q.1
  | d + 1, i, q => boA A m d (i + 1) (bo1 A m (-nI i) (bo1 A m (nI i) q))
theorem updI_updI {f : Nat → Int32} {m : Nat} {a b : Int32} : updI (updI f m a) m b = updI f m b := by
  funext i
  unfold updI
  split <;> rfl
theorem turnA_turnA {A : TA} {m : Nat} {a b : Int32} : turnA (turnA A m a) m b = turnA A m b := by
  unfold turnA TA.sOf
  show (A.N, A.W, A.lim, A.cl, A.be, updI (updI A.of m a) m b, A.rw, A.J, A.jk, A.jm, A.go, A.mi, A.dn) = _
  rw [updI_updI]
theorem lit_turned {A B : TA} {m : Nat} {v : Int32} {g : G} (hB : ∀ b, turnA B m b = turnA A m b) (hc : cov B = cov A) (hN : B.N = A.N) (h : RR 35 B (cov A) g) (hm : m < A.N) : ∃ g', k8_lightIfTurned (nI m) v g = some (loA A m v, g') ∧ RR 35 (turnA A m v) (cov A) g' ∧ ∀ a, a < 34 → g' a = g a := by
  obtain ⟨g2, e2, r2, f2⟩ := rr_turn (m := m) (v := v) (by omega) h (by rw [hN]; exact hm)
  rw [hB] at r2
  obtain ⟨g3, e3, r3, f3⟩ := rr_end (by omega) r2
  have e3 : k4_lastLight 35 g2 = some (loA A m v, g3) := e3
  refine ⟨g3, ?_, r3, fun a ha => by rw [f3 a ha, f2 a ha]⟩
  unfold k8_lightIfTurned
  rw [e2, some_bind, e3]
  rfl
theorem bo_loop {A : TA} {m : Nat} (hm : m < A.N) : ∀ (d i f : Nat) (q : Int32 × Int32) (B : TA) (g : G), 91 = i + d → d < f → (∀ b, turnA B m b = turnA A m b) → cov B = cov A → B.N = A.N → RR 35 B (cov A) g → ∃ g', k8_bestOffset_34 f (nI m) q.1 q.2 (nI i) g = some (0, boA A m d i q, g') ∧ ∀ a, a < 34 → g' a = g a := by
  intro d
  induction d with
  | zero =>
    intro i f q B g hd hf hB hc hN h
    obtain ⟨f, rfl⟩ : ∃ z, f = z + 1 := ⟨f - 1, by omega⟩
    obtain rfl : i = 91 := by omega
    exact ⟨g, rfl, fun _ _ => rfl⟩
  | succ d ih =>
    intro i f q B g hd hf hB hc hN h
    obtain ⟨f, rfl⟩ : ∃ z, f = z + 1 := ⟨f - 1, by omega⟩
    have hni : ¬ (90 : Int32) < nI i := by
      rw [show (90 : Int32) = nI 90 from rfl, nI_ltI (by omega) (by omega)]
      omega
    obtain ⟨g1, e1, r1, f1⟩ := lit_turned (v := nI i) hB hc hN h hm
    obtain ⟨g2, e2, r2, f2⟩ := lit_turned (A := A) (B := turnA A m (nI i)) (v := -nI i) (fun b => turnA_turnA) rfl rfl r1 hm
    have rest : ∀ q1 : Int32 × Int32, ∃ g', k8_bestOffset_62 (k8_bestOffset_34 f) (nI m) q1.1 q1.2 (nI i) g1 = some (0, boA A m d (i + 1) (bo1 A m (-nI i) q1), g') ∧ ∀ a, a < 34 → g' a = g a := by
      intro q1
      obtain ⟨g3, e3, f3⟩ := ih (i + 1) f (bo1 A m (-nI i) q1) (turnA A m (-nI i)) g2 (by omega) (by omega) (fun b => turnA_turnA) rfl rfl r2
      refine ⟨g3, ?_, fun a ha => by rw [f3 a ha, f2 a ha, f1 a ha]⟩
      rw [← e3]
      unfold k8_bestOffset_62 bo1
      rw [e2, some_bind, bd_eq]
      by_cases e : loA A m (-nI i) ≤ q1.2
      · rw [if_pos e, if_pos e, bd_eq, nI_1]
      · rw [if_neg e, if_neg e, bd_eq, bd_eq, nI_1]
    unfold k8_bestOffset_34 boA
    rw [if_neg hni, e1, some_bind, bd_eq]
    by_cases e : loA A m (nI i) ≤ q.2
    · obtain ⟨g3, e3, f3⟩ := rest q
      refine ⟨g3, ?_, f3⟩
      rw [if_pos e, e3]
      unfold bo1
      rw [if_pos e]
    · obtain ⟨g3, e3, f3⟩ := rest (nI i, loA A m (nI i))
      refine ⟨g3, ?_, f3⟩
      rw [if_neg e]
      have e3 : k8_bestOffset_62 (k8_bestOffset_34 f) (nI m) (nI i) (loA A m (nI i)) (nI i) g1 = _ := e3
      rw [e3]
      congr 3
      have e9 : bo1 A m (nI i) q = (nI i, loA A m (nI i)) := if_neg e
      rw [e9]
def bstA (A : TA) (m : Nat) : Int32 := boA A m 90 1 (0, loA A m 0)
theorem q_bestOffset {A : TA} {P : List OR4} {g : G} {m : Nat} (h : RC A P g) (hm : m < A.N) : ∃ g', k8_bestOffset (nI m) g = some (0, bstA A m, g') ∧ RC A P g' := by
  obtain ⟨g1, e1, r1, f1⟩ := copyRR h.r h.w
  obtain ⟨g2, e2, r2, f2⟩ := lit_turned (v := 0) (fun b => rfl) rfl rfl r1 hm
  obtain ⟨g3, e3, f3⟩ := bo_loop hm 90 1 FU (0, loA A m 0) (turnA A m 0) g2 (by omega) (by unfold FU; omega) (fun b => turnA_turnA) rfl rfl r2
  refine ⟨g3, ?_, h.lo (fun a ha => by rw [f3 a ha, f2 a ha, f1 a ha])⟩
  unfold k8_bestOffset
  rw [h.chk hm, xb_0, e1, some_bind, e2, some_bind, bd_eq]
  exact e3
