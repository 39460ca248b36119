/-! a tree's words are read as its steps -/
def nx (J : List It) (q : Nat) : Prop := kdJ J q ≠ 42 ∧ kdJ J q ≠ 47 ∧ kdJ J q ≠ 43 ∧ kdJ J q ≠ 45
theorem AtJ.le {J : List It} {p : Nat} {I : List It} (h : AtJ J p I) (hp : p ≤ J.length) : p + (ns I).length ≤ J.length := by
  rcases Nat.eq_zero_or_pos (ns I).length with z | z
  · omega
  · have e : (ns I).length - 1 < (ns I).length := by omega
    have := h _ _ (List.getElem?_eq_getElem e)
    have := (List.getElem?_eq_some_iff.mp this).1
    omega
theorem lt_of_at {J : List It} {p : Nat} {x : It} (h : J[p]? = some x) : p < J.length := (List.getElem?_eq_some_iff.mp h).1
theorem sumV {J : List It} {F q : Nat} {D : List DS} {l : List SS} {a : Int32} {g : G} (h : GR J (kG0 F 5 a 0 g) q D l g) (hq : q ≤ J.length) (hn : nx J q) : GR J (kG0 (F + 2) 3 a 0 g) q D l g := sum_of (prod_of h hq hn.1 hn.2.1) hq hn.2.2.1 hn.2.2.2
theorem GR.one {J : List It} {z : Option (Int32 × G)} {q τ c : Nat} {D : List DS} {v : Int32} {g g' : G} (h1 : z = some (1, g')) (h2 : GS J q (D ++ [(c, τ)]) g') (h3 : (if usesV c = true then valJ J τ else 0) = v) (h4 : fG g g') : GR J z q D [(c, v)] g := ⟨g', [(c, τ)], h1, h2, by rw [← h3]; rfl, h4⟩
theorem zr_1 {g : G} : zr 1 g = some (1, g) := if_pos (Or.inr rfl)
theorem fst_ne {k m : Nat} (h : fst1 k = true) (hm : fst1 m = false) (hk : k < 1000) (hm2 : m < 1000) : ¬ nI k = nI m := fun e => by
  have := nI_inj (by omega) (by omega) e
  rw [this, hm] at h
  cases h
set_option maxRecDepth 20000 in
set_option maxHeartbeats 8000000 in
theorem gram_ok {N : Nat} {J : List It} : ∀ d b l I, PX N d b l I → ∀ F A p D g, 5 * d ≤ F → A + d ≤ 9 → GS J p D g → AtJ J p I → p ≤ J.length → D.length + l.length ≤ 400 → (b = true → nx J (p + (ns I).length)) → GR J (kG0 F (if b = true then 2 else 5) (nI A) 0 g) (p + (ns I).length) D l g := by
  intro d
  induction d with
  | zero => intro b l I h; exact h.elim
  | succ d ih =>
    intro b l I h F A p D g hF hA hS hJ hp hl hb
    obtain ⟨F, rfl⟩ : ∃ z, F = z + 1 := ⟨F - 1, by omega⟩
    have hJ4 := hS.J4
    have hle := hJ.le hp
    -- a tree of less depth
    have iv : ∀ l1 i1, PX N d false l1 i1 → ∀ F A p D g, 5 * d ≤ F → A + d ≤ 9 → GS J p D g → AtJ J p i1 → p ≤ J.length → D.length + l1.length ≤ 400 → GR J (kG0 F 5 (nI A) 0 g) (p + (ns i1).length) D l1 g := fun l1 i1 h1 F A p D g a1 a2 a3 a4 a5 a6 => ih false l1 i1 h1 F A p D g a1 a2 a3 a4 a5 a6 (fun z => by cases z)
    have it : ∀ l1 i1, PX N d true l1 i1 → ∀ F A p D g, 5 * d ≤ F → A + d ≤ 9 → GS J p D g → AtJ J p i1 → p ≤ J.length → D.length + l1.length ≤ 400 → nx J (p + (ns i1).length) → GR J (kG0 F 2 (nI A) 0 g) (p + (ns i1).length) D l1 g := fun l1 i1 h1 F A p D g a1 a2 a3 a4 a5 a6 a7 => ih true l1 i1 h1 F A p D g a1 a2 a3 a4 a5 a6 (fun _ => a7)
    have is : ∀ l1 i1, PX N d false l1 i1 → ∀ F A p D g, 5 * d ≤ F → A + d ≤ 9 → GS J p D g → AtJ J p i1 → p ≤ J.length → D.length + l1.length ≤ 400 → nx J (p + (ns i1).length) → GR J (kG0 (F + 2) 3 (nI A) 0 g) (p + (ns i1).length) D l1 g := fun l1 i1 h1 F A p D g a1 a2 a3 a4 a5 a6 a7 => sumV (iv l1 i1 h1 F A p D g a1 a2 a3 a4 a5 a6) (a4.le a5) a7
    have hA1 : nI A + 1 = nI (A + 1) := nI_1 A
    obtain ⟨s, ⟨hf, n, h1, rfl, h3, rfl⟩ | ⟨hf, l1, i1, ht, rfl, rfl⟩ | ⟨hf, l1, l2, i1, i2, ht, hu, rfl, rfl⟩⟩ := h
    · have hsv : s = 0 ∨ s = 1 ∨ s = 2 ∨ s = 3 ∨ s = 4 ∨ s = 5 ∨ s = 6 ∨ s = 7 ∨ s = 8 ∨ s = 21 ∨ s = 22 := by
        have hf2 := hf
        unfold isLf at hf2
        rcases hf2 with ⟨-, z⟩ | ⟨-, z⟩ <;> omega
      have hl : D.length + 1 ≤ 400 := hl
      rcases hsv with rfl | rfl | rfl | rfl | rfl | rfl | rfl | rfl | rfl | rfl | rfl
      · have hbv : b = false := by
          rcases hf with z | z
          · first | exact z.1 | omega
          · first | exact z.1 | omega
        subst hbv
        have q0 : J[p]? = some (numI n) := AtJ.hd (x := numI n) (l := []) hJ (show (3 : Nat) ≠ 1000 by decide)
        have k0 : kdJ J p = 3 := kdJ_of q0
        obtain ⟨g1, w1, w2, w3⟩ := write_ok (c := 3) (τ := p) hS (by omega) (by omega)
        obtain ⟨g2, t1, t2, t3⟩ := take_yes (k := 3) w2 hp k0
        refine GR.one (g' := g2) ?_ t2 ?_ (w3.trans t3)
        · show kG0 (F + 1) 5 (nI A) 0 g = _
          rw [kG_val]
          unfold kb0_value k0_value_128
          rw [hS.at', hS.kind hp, k0, some_bind, if_pos (show nI 3 = 3 from rfl), w1, some_bind, t1, some_bind, zr_1]
        · show valJ J p = _
          rw [valJ_num q0 h1]
      · have hbv : b = false := by
          rcases hf with z | z
          · first | exact z.1 | omega
          · first | exact z.1 | omega
        subst hbv
        have q0 : J[p]? = some (tok 140) := AtJ.hd (x := tok 140) (l := []) hJ (show (140 : Nat) ≠ 1000 by decide)
        have k0 : kdJ J p = 140 := kdJ_of q0
        obtain ⟨g1, w1, w2, w3⟩ := write_ok (c := 140) (τ := p) hS (by omega) (by omega)
        obtain ⟨g2, t1, t2, t3⟩ := take_yes (k := 140) w2 hp k0
        refine GR.one (g' := g2) ?_ t2 ?_ (w3.trans t3)
        · show kG0 (F + 1) 5 (nI A) 0 g = _
          rw [kG_val]
          unfold kb0_value k0_value_128
          rw [hS.at', hS.kind hp, k0, some_bind, if_neg (show ¬ nI 140 = 3 by decide), if_neg (show ¬ nI 140 = 40 by decide), if_neg (show ¬ nI 140 = 45 by decide), if_neg (show ¬ nI 140 = 129 by decide), if_neg (show ¬ nI 140 = 130 by decide), if_pos (show nI 140 = 140 from rfl), w1, some_bind, t1, some_bind, zr_1]
        · rfl
      · have hbv : b = false := by
          rcases hf with z | z
          · first | exact z.1 | omega
          · first | exact z.1 | omega
        subst hbv
        have q0 : J[p]? = some (tok 141) := AtJ.hd (x := tok 141) (l := []) hJ (show (141 : Nat) ≠ 1000 by decide)
        have k0 : kdJ J p = 141 := kdJ_of q0
        obtain ⟨g1, w1, w2, w3⟩ := write_ok (c := 141) (τ := p) hS (by omega) (by omega)
        obtain ⟨g2, t1, t2, t3⟩ := take_yes (k := 141) w2 hp k0
        refine GR.one (g' := g2) ?_ t2 ?_ (w3.trans t3)
        · show kG0 (F + 1) 5 (nI A) 0 g = _
          rw [kG_val]
          unfold kb0_value k0_value_128
          rw [hS.at', hS.kind hp, k0, some_bind, if_neg (show ¬ nI 141 = 3 by decide), if_neg (show ¬ nI 141 = 40 by decide), if_neg (show ¬ nI 141 = 45 by decide), if_neg (show ¬ nI 141 = 129 by decide), if_neg (show ¬ nI 141 = 130 by decide), if_neg (show ¬ nI 141 = 140 by decide), if_pos (show nI 141 = 141 from rfl), w1, some_bind, t1, some_bind, zr_1]
        · rfl
      · have hbv : b = false := by
          rcases hf with z | z
          · first | exact z.1 | omega
          · first | exact z.1 | omega
        subst hbv
        have q0 : J[p]? = some (tok 142) := AtJ.hd (x := tok 142) (l := []) hJ (show (142 : Nat) ≠ 1000 by decide)
        have k0 : kdJ J p = 142 := kdJ_of q0
        obtain ⟨g1, w1, w2, w3⟩ := write_ok (c := 142) (τ := p) hS (by omega) (by omega)
        obtain ⟨g2, t1, t2, t3⟩ := take_yes (k := 142) w2 hp k0
        refine GR.one (g' := g2) ?_ t2 ?_ (w3.trans t3)
        · show kG0 (F + 1) 5 (nI A) 0 g = _
          rw [kG_val]
          unfold kb0_value k0_value_128
          rw [hS.at', hS.kind hp, k0, some_bind, if_neg (show ¬ nI 142 = 3 by decide), if_neg (show ¬ nI 142 = 40 by decide), if_neg (show ¬ nI 142 = 45 by decide), if_neg (show ¬ nI 142 = 129 by decide), if_neg (show ¬ nI 142 = 130 by decide), if_neg (show ¬ nI 142 = 140 by decide), if_neg (show ¬ nI 142 = 141 by decide), if_pos (show nI 142 = 142 from rfl), w1, some_bind, t1, some_bind, zr_1]
        · rfl
      · have hbv : b = false := by
          rcases hf with z | z
          · first | exact z.1 | omega
          · first | exact z.1 | omega
        subst hbv
        have j0 : AtJ J p (tok 130 :: bl :: tok 146 :: bl :: nmI n :: []) := hJ
        have q0 : J[p]? = some (tok 130) := j0.hd (show (130 : Nat) ≠ 1000 by decide)
        have j1 := (j0.tl (show (130 : Nat) ≠ 1000 by decide)).bl rfl
        have q1 : J[p + 1]? = some (tok 146) := j1.hd (show (146 : Nat) ≠ 1000 by decide)
        have j2 := (j1.tl (show (146 : Nat) ≠ 1000 by decide)).bl rfl
        have q2 : J[p + 1 + 1]? = some (nmI n) := j2.hd (show (2 : Nat) ≠ 1000 by decide)
        have l2 := lt_of_at q2
        have k0 : kdJ J p = 130 := kdJ_of q0
        obtain ⟨g1, w1, w2, w3⟩ := write_ok (c := 130) (τ := p + 1 + 1) hS (by omega) (by omega)
        obtain ⟨g2, t1, t2, t3⟩ := take_yes (k := 130) w2 hp k0
        obtain ⟨g3, u1, u2, u3⟩ := take_yes (k := 146) t2 (by omega) (kdJ_of q1)
        obtain ⟨g4, v1, v2, v3⟩ := take_yes (k := 2) u2 (by omega) (kdJ_of q2)
        have u1 : k0_take 146 g2 = some (1, g3) := u1
        have v1 : k0_take 2 g3 = some (1, g4) := v1
        refine GR.one (g' := g4) ?_ v2 ?_ (((w3.trans t3).trans u3).trans v3)
        · show kG0 (F + 1) 5 (nI A) 0 g = _
          have e2 : nI p + 2 = nI (p + 1 + 1) := by rw [show (2 : Int32) = nI 2 from rfl, nI_plus]
          rw [kG_val]
          unfold kb0_value k0_value_146
          rw [hS.at', hS.kind hp, k0, some_bind, if_neg (show ¬ nI 130 = 3 by decide), if_neg (show ¬ nI 130 = 40 by decide), if_neg (show ¬ nI 130 = 45 by decide), if_neg (show ¬ nI 130 = 129 by decide), if_pos (show nI 130 = 130 from rfl), e2, w1, some_bind, t1, some_bind, if_neg (show ¬ (1 : Int32) = 0 by decide), u1, some_bind, if_neg (show ¬ (1 : Int32) = 0 by decide), v1, some_bind, if_neg (show ¬ (1 : Int32) = 0 by decide)]
        · show valJ J (p + 1 + 1) = _
          rw [valJ_nm (by rw [kdJ_of q1]; decide) q2 h1]
      · have hbv : b = false := by
          rcases hf with z | z
          · first | exact z.1 | omega
          · first | exact z.1 | omega
        subst hbv
        have j0 : AtJ J p (tok 129 :: bl :: tok 146 :: bl :: nmI n :: []) := hJ
        have q0 : J[p]? = some (tok 129) := j0.hd (show (129 : Nat) ≠ 1000 by decide)
        have j1 := (j0.tl (show (129 : Nat) ≠ 1000 by decide)).bl rfl
        have q1 : J[p + 1]? = some (tok 146) := j1.hd (show (146 : Nat) ≠ 1000 by decide)
        have j2 := (j1.tl (show (146 : Nat) ≠ 1000 by decide)).bl rfl
        have q2 : J[p + 1 + 1]? = some (nmI n) := j2.hd (show (2 : Nat) ≠ 1000 by decide)
        have l2 := lt_of_at q2
        have k0 : kdJ J p = 129 := kdJ_of q0
        obtain ⟨g1, w1, w2, w3⟩ := write_ok (c := 129) (τ := p + 1 + 1) hS (by omega) (by omega)
        obtain ⟨g2, t1, t2, t3⟩ := take_yes (k := 129) w2 hp k0
        obtain ⟨g3, u1, u2, u3⟩ := take_yes (k := 146) t2 (by omega) (kdJ_of q1)
        obtain ⟨g4, v1, v2, v3⟩ := take_yes (k := 2) u2 (by omega) (kdJ_of q2)
        have u1 : k0_take 146 g2 = some (1, g3) := u1
        have v1 : k0_take 2 g3 = some (1, g4) := v1
        refine GR.one (g' := g4) ?_ v2 ?_ (((w3.trans t3).trans u3).trans v3)
        · show kG0 (F + 1) 5 (nI A) 0 g = _
          have e2 : nI p + 2 = nI (p + 1 + 1) := by rw [show (2 : Int32) = nI 2 from rfl, nI_plus]
          rw [kG_val]
          unfold kb0_value k0_value_146
          rw [hS.at', hS.kind hp, k0, some_bind, if_neg (show ¬ nI 129 = 3 by decide), if_neg (show ¬ nI 129 = 40 by decide), if_neg (show ¬ nI 129 = 45 by decide), if_pos (show nI 129 = 129 from rfl), e2, w1, some_bind, t1, some_bind, if_neg (show ¬ (1 : Int32) = 0 by decide), u1, some_bind, if_neg (show ¬ (1 : Int32) = 0 by decide), v1, some_bind, if_neg (show ¬ (1 : Int32) = 0 by decide)]
        · show valJ J (p + 1 + 1) = _
          rw [valJ_nm (by rw [kdJ_of q1]; decide) q2 h1]
      · have hbv : b = false := by
          rcases hf with z | z
          · first | exact z.1 | omega
          · first | exact z.1 | omega
        subst hbv
        have j0 : AtJ J p (tok 145 :: bl :: tok 146 :: bl :: nmI n :: []) := hJ
        have q0 : J[p]? = some (tok 145) := j0.hd (show (145 : Nat) ≠ 1000 by decide)
        have j1 := (j0.tl (show (145 : Nat) ≠ 1000 by decide)).bl rfl
        have q1 : J[p + 1]? = some (tok 146) := j1.hd (show (146 : Nat) ≠ 1000 by decide)
        have j2 := (j1.tl (show (146 : Nat) ≠ 1000 by decide)).bl rfl
        have q2 : J[p + 1 + 1]? = some (nmI n) := j2.hd (show (2 : Nat) ≠ 1000 by decide)
        have l2 := lt_of_at q2
        have k0 : kdJ J p = 145 := kdJ_of q0
        obtain ⟨g1, w1, w2, w3⟩ := write_ok (c := 145) (τ := p + 1 + 1) hS (by omega) (by omega)
        obtain ⟨g2, t1, t2, t3⟩ := take_yes (k := 145) w2 hp k0
        obtain ⟨g3, u1, u2, u3⟩ := take_yes (k := 146) t2 (by omega) (kdJ_of q1)
        obtain ⟨g4, v1, v2, v3⟩ := take_yes (k := 2) u2 (by omega) (kdJ_of q2)
        have u1 : k0_take 146 g2 = some (1, g3) := u1
        have v1 : k0_take 2 g3 = some (1, g4) := v1
        refine GR.one (g' := g4) ?_ v2 ?_ (((w3.trans t3).trans u3).trans v3)
        · show kG0 (F + 1) 5 (nI A) 0 g = _
          have e2 : nI p + 2 = nI (p + 1 + 1) := by rw [show (2 : Int32) = nI 2 from rfl, nI_plus]
          rw [kG_val]
          unfold kb0_value k0_value_146
          rw [hS.at', hS.kind hp, k0, some_bind, if_neg (show ¬ nI 145 = 3 by decide), if_neg (show ¬ nI 145 = 40 by decide), if_neg (show ¬ nI 145 = 45 by decide), if_neg (show ¬ nI 145 = 129 by decide), if_neg (show ¬ nI 145 = 130 by decide), if_neg (show ¬ nI 145 = 140 by decide), if_neg (show ¬ nI 145 = 141 by decide), if_neg (show ¬ nI 145 = 142 by decide), if_neg (show ¬ nI 145 = 143 by decide), if_neg (show ¬ nI 145 = 144 by decide), if_pos (show nI 145 = 145 from rfl), e2, w1, some_bind, t1, some_bind, if_neg (show ¬ (1 : Int32) = 0 by decide), u1, some_bind, if_neg (show ¬ (1 : Int32) = 0 by decide), v1, some_bind, if_neg (show ¬ (1 : Int32) = 0 by decide)]
        · show valJ J (p + 1 + 1) = _
          rw [valJ_nm (by rw [kdJ_of q1]; decide) q2 h1]
      · have hbv : b = false := by
          rcases hf with z | z
          · first | exact z.1 | omega
          · first | exact z.1 | omega
        subst hbv
        have j0 : AtJ J p (tok 143 :: bl :: tok 146 :: bl :: nmI n :: []) := hJ
        have q0 : J[p]? = some (tok 143) := j0.hd (show (143 : Nat) ≠ 1000 by decide)
        have j1 := (j0.tl (show (143 : Nat) ≠ 1000 by decide)).bl rfl
        have q1 : J[p + 1]? = some (tok 146) := j1.hd (show (146 : Nat) ≠ 1000 by decide)
        have j2 := (j1.tl (show (146 : Nat) ≠ 1000 by decide)).bl rfl
        have q2 : J[p + 1 + 1]? = some (nmI n) := j2.hd (show (2 : Nat) ≠ 1000 by decide)
        have l2 := lt_of_at q2
        have k0 : kdJ J p = 143 := kdJ_of q0
        obtain ⟨g1, w1, w2, w3⟩ := write_ok (c := 143) (τ := p + 1 + 1) hS (by omega) (by omega)
        obtain ⟨g2, t1, t2, t3⟩ := take_yes (k := 143) w2 hp k0
        obtain ⟨g3, u1, u2, u3⟩ := take_yes (k := 146) t2 (by omega) (kdJ_of q1)
        obtain ⟨g4, v1, v2, v3⟩ := take_yes (k := 2) u2 (by omega) (kdJ_of q2)
        have u1 : k0_take 146 g2 = some (1, g3) := u1
        have v1 : k0_take 2 g3 = some (1, g4) := v1
        refine GR.one (g' := g4) ?_ v2 ?_ (((w3.trans t3).trans u3).trans v3)
        · show kG0 (F + 1) 5 (nI A) 0 g = _
          have e2 : nI p + 2 = nI (p + 1 + 1) := by rw [show (2 : Int32) = nI 2 from rfl, nI_plus]
          rw [kG_val]
          unfold kb0_value k0_value_146
          rw [hS.at', hS.kind hp, k0, some_bind, if_neg (show ¬ nI 143 = 3 by decide), if_neg (show ¬ nI 143 = 40 by decide), if_neg (show ¬ nI 143 = 45 by decide), if_neg (show ¬ nI 143 = 129 by decide), if_neg (show ¬ nI 143 = 130 by decide), if_neg (show ¬ nI 143 = 140 by decide), if_neg (show ¬ nI 143 = 141 by decide), if_neg (show ¬ nI 143 = 142 by decide), if_pos (show nI 143 = 143 from rfl), e2, w1, some_bind, t1, some_bind, if_neg (show ¬ (1 : Int32) = 0 by decide), u1, some_bind, if_neg (show ¬ (1 : Int32) = 0 by decide), v1, some_bind, if_neg (show ¬ (1 : Int32) = 0 by decide)]
        · show valJ J (p + 1 + 1) = _
          rw [valJ_nm (by rw [kdJ_of q1]; decide) q2 h1]
      · have hbv : b = false := by
          rcases hf with z | z
          · first | exact z.1 | omega
          · first | exact z.1 | omega
        subst hbv
        have j0 : AtJ J p (tok 144 :: bl :: tok 146 :: bl :: nmI n :: []) := hJ
        have q0 : J[p]? = some (tok 144) := j0.hd (show (144 : Nat) ≠ 1000 by decide)
        have j1 := (j0.tl (show (144 : Nat) ≠ 1000 by decide)).bl rfl
        have q1 : J[p + 1]? = some (tok 146) := j1.hd (show (146 : Nat) ≠ 1000 by decide)
        have j2 := (j1.tl (show (146 : Nat) ≠ 1000 by decide)).bl rfl
        have q2 : J[p + 1 + 1]? = some (nmI n) := j2.hd (show (2 : Nat) ≠ 1000 by decide)
        have l2 := lt_of_at q2
        have k0 : kdJ J p = 144 := kdJ_of q0
        obtain ⟨g1, w1, w2, w3⟩ := write_ok (c := 144) (τ := p + 1 + 1) hS (by omega) (by omega)
        obtain ⟨g2, t1, t2, t3⟩ := take_yes (k := 144) w2 hp k0
        obtain ⟨g3, u1, u2, u3⟩ := take_yes (k := 146) t2 (by omega) (kdJ_of q1)
        obtain ⟨g4, v1, v2, v3⟩ := take_yes (k := 2) u2 (by omega) (kdJ_of q2)
        have u1 : k0_take 146 g2 = some (1, g3) := u1
        have v1 : k0_take 2 g3 = some (1, g4) := v1
        refine GR.one (g' := g4) ?_ v2 ?_ (((w3.trans t3).trans u3).trans v3)
        · show kG0 (F + 1) 5 (nI A) 0 g = _
          have e2 : nI p + 2 = nI (p + 1 + 1) := by rw [show (2 : Int32) = nI 2 from rfl, nI_plus]
          rw [kG_val]
          unfold kb0_value k0_value_146
          rw [hS.at', hS.kind hp, k0, some_bind, if_neg (show ¬ nI 144 = 3 by decide), if_neg (show ¬ nI 144 = 40 by decide), if_neg (show ¬ nI 144 = 45 by decide), if_neg (show ¬ nI 144 = 129 by decide), if_neg (show ¬ nI 144 = 130 by decide), if_neg (show ¬ nI 144 = 140 by decide), if_neg (show ¬ nI 144 = 141 by decide), if_neg (show ¬ nI 144 = 142 by decide), if_neg (show ¬ nI 144 = 143 by decide), if_pos (show nI 144 = 144 from rfl), e2, w1, some_bind, t1, some_bind, if_neg (show ¬ (1 : Int32) = 0 by decide), u1, some_bind, if_neg (show ¬ (1 : Int32) = 0 by decide), v1, some_bind, if_neg (show ¬ (1 : Int32) = 0 by decide)]
        · show valJ J (p + 1 + 1) = _
          rw [valJ_nm (by rw [kdJ_of q1]; decide) q2 h1]
      · have hbv : b = true := by
          rcases hf with z | z
          · first | exact z.1 | omega
          · first | exact z.1 | omega
        subst hbv
        have q0 : J[p]? = some (tok 147) := AtJ.hd (x := tok 147) (l := []) hJ (show (147 : Nat) ≠ 1000 by decide)
        have k0 : kdJ J p = 147 := kdJ_of q0
        obtain ⟨g1, w1, w2, w3⟩ := write_ok (c := 147) (τ := p) hS (by omega) (by omega)
        obtain ⟨g2, t1, t2, t3⟩ := take_yes (k := 147) w2 hp k0
        have w1 : k2_write 8 147 (nI p) g = some g1 := w1
        have t1 : k0_take 147 g1 = some (1, g2) := t1
        refine GR.one (g' := g2) ?_ t2 rfl (w3.trans t3)
        show kG0 (F + 1) 2 (nI A) 0 g = _
        rw [kG_sing]
        unfold kb0_single
        rw [hS.at', hS.kind hp, k0, some_bind, if_neg (show ¬ nI 147 = 91 by decide), if_pos (show nI 147 = 147 from rfl), w1, some_bind, t1, some_bind, zr_1]
      · have hbv : b = true := by
          rcases hf with z | z
          · first | exact z.1 | omega
          · first | exact z.1 | omega
        subst hbv
        have j0 : AtJ J p (tok 148 :: bl :: nmI n :: []) := hJ
        have q0 : J[p]? = some (tok 148) := j0.hd (show (148 : Nat) ≠ 1000 by decide)
        have j1 := (j0.tl (show (148 : Nat) ≠ 1000 by decide)).bl rfl
        have q1 : J[p + 1]? = some (nmI n) := j1.hd (show (2 : Nat) ≠ 1000 by decide)
        have l1 := lt_of_at q1
        have k0 : kdJ J p = 148 := kdJ_of q0
        obtain ⟨g1, w1, w2, w3⟩ := write_ok (c := 148) (τ := p + 1) hS (by omega) (by omega)
        obtain ⟨g2, t1, t2, t3⟩ := take_yes (k := 148) w2 hp k0
        obtain ⟨g3, u1, u2, u3⟩ := take_yes (k := 2) t2 (by omega) (kdJ_of q1)
        have w1 : k2_write 8 148 (nI (p + 1)) g = some g1 := w1
        have t1 : k0_take 148 g1 = some (1, g2) := t1
        have u1 : k0_take 2 g2 = some (1, g3) := u1
        refine GR.one (g' := g3) ?_ u2 ?_ ((w3.trans t3).trans u3)
        · show kG0 (F + 1) 2 (nI A) 0 g = _
          rw [kG_sing]
          unfold kb0_single
          rw [hS.at', hS.kind hp, k0, some_bind, if_neg (show ¬ nI 148 = 91 by decide), if_neg (show ¬ nI 148 = 147 by decide), if_pos (show nI 148 = 148 from rfl), nI_1, w1, some_bind, t1, some_bind, if_neg (show ¬ (1 : Int32) = 0 by decide), u1, some_bind, if_neg (show ¬ (1 : Int32) = 0 by decide)]
        · show valJ J (p + 1) = _
          rw [valJ_nm (by rw [kdJ_of q0]; decide) q1 h1]
    · have hl : D.length + (l1.length + 1) ≤ 400 := by
        rw [List.length_append] at hl
        exact hl
      have hd0 : 0 < d := by
        rcases Nat.eq_zero_or_pos d with z | z
        · subst z; exact ht.elim
        · exact z
      have hA8 : ¬ (8 : Int32) ≤ nI A := by
        rw [show (8 : Int32) = nI 8 from rfl, nI_leI (by omega) (by omega)]
        omega
      have hsv : (b = false ∧ s = 9) ∨ (b = true ∧ s = 23) := hf
      rcases hsv with ⟨rfl, rfl⟩ | ⟨rfl, rfl⟩
      · have j0 : AtJ J p (tok 45 :: i1) := hJ
        have j1 := j0.tl (show (45 : Nat) ≠ 1000 by decide)
        have hnl : (ns (unI 9 ++ i1)).length = (ns i1).length + 1 := rfl
        have q0 : J[p]? = some (tok 45) := j0.hd (show (45 : Nat) ≠ 1000 by decide)
        have l0 := lt_of_at q0
        have epos : p + ((ns i1).length + 1) = p + 1 + (ns i1).length := by omega
        rw [hnl, epos] at hle hb ⊢
        obtain ⟨g1, t1, t2, t3⟩ := take_yes (k := 45) hS hp (kdJ_of q0)
        have t1 : k0_take 45 g = some (1, g1) := t1
        obtain ⟨g2, m1, e1, e2, e3, e4, e5⟩ := (iv l1 i1 ht F (A + 1) (p + 1) D g1 (by omega) (by omega) t2 j1 (by omega) (by omega)).len
        obtain ⟨g3, w1, w2, w3⟩ := write_ok (c := 6) (τ := p + 1 + (ns i1).length) e2 (by omega) (by omega)
        have w1 : k2_write 8 6 (nI (p + 1 + (ns i1).length)) g2 = some g3 := w1
        refine ⟨g3, m1 ++ [(6, p + 1 + (ns i1).length)], ?_, by rw [List.append_assoc] at w2; exact w2, ?_, (t3.trans e4).trans w3⟩
        · show kG0 (F + 1) 5 (nI A) 0 g = _
          rw [kG_val]
          unfold kb0_value
          have k0 : kdJ J p = 45 := kdJ_of q0
          rw [hS.at', hS.kind hp, k0, some_bind]
          rw [if_neg (show ¬ nI 45 = 3 by decide), if_neg (show ¬ nI 45 = 40 by decide), if_pos (show nI 45 = 45 from rfl), if_neg hA8, t1, some_bind, if_neg (show ¬ (1 : Int32) = 0 by decide), hA1, e1, some_bind, if_neg (show ¬ (1 : Int32) = 0 by decide)]
          show (k2_write 8 6 (g2 13 2) g2).bind _ = _
          rw [e2.at', w1, some_bind]
        · rw [List.map_append, e3]
          rfl
      · have j0 : AtJ J p (tok 149 :: bl :: i1) := hJ
        have j1 := (j0.tl (show (149 : Nat) ≠ 1000 by decide)).bl rfl
        have hnl : (ns (unI 23 ++ i1)).length = (ns i1).length + 1 := rfl
        have q0 : J[p]? = some (tok 149) := j0.hd (show (149 : Nat) ≠ 1000 by decide)
        have l0 := lt_of_at q0
        have epos : p + ((ns i1).length + 1) = p + 1 + (ns i1).length := by omega
        rw [hnl, epos] at hle hb ⊢
        obtain ⟨g1, t1, t2, t3⟩ := take_yes (k := 149) hS hp (kdJ_of q0)
        have t1 : k0_take 149 g = some (1, g1) := t1
        obtain ⟨g2, m1, e1, e2, e3, e4, e5⟩ := (it l1 i1 ht F (A + 1) (p + 1) D g1 (by omega) (by omega) t2 j1 (by omega) (by omega) (hb rfl)).len
        obtain ⟨g3, w1, w2, w3⟩ := write_ok (c := 149) (τ := p + 1 + (ns i1).length) e2 (by omega) (by omega)
        have w1 : k2_write 8 149 (nI (p + 1 + (ns i1).length)) g2 = some g3 := w1
        refine ⟨g3, m1 ++ [(149, p + 1 + (ns i1).length)], ?_, by rw [List.append_assoc] at w2; exact w2, ?_, (t3.trans e4).trans w3⟩
        · show kG0 (F + 1) 2 (nI A) 0 g = _
          rw [kG_sing]
          unfold kb0_single
          have k0 : kdJ J p = 149 := kdJ_of q0
          rw [hS.at', hS.kind hp, k0, some_bind]
          rw [if_neg (show ¬ nI 149 = 91 by decide), if_neg (show ¬ nI 149 = 147 by decide), if_neg (show ¬ nI 149 = 148 by decide), if_pos (show nI 149 = 149 from rfl), if_neg hA8, t1, some_bind, if_neg (show ¬ (1 : Int32) = 0 by decide), hA1, e1, some_bind, if_neg (show ¬ (1 : Int32) = 0 by decide)]
          show (k2_write 8 149 (g2 13 2) g2).bind _ = _
          rw [e2.at', w1, some_bind]
        · rw [List.map_append, e3]
          rfl
    · have hl : D.length + l1.length + l2.length < 400 := by
        rw [List.length_append, List.length_append] at hl
        have hl : D.length + (l1.length + (l2.length + 1)) ≤ 400 := hl
        omega
      have hd0 : 0 < d := by
        rcases Nat.eq_zero_or_pos d with z | z
        · subst z; exact ht.elim
        · exact z
      have hA8 : ¬ (8 : Int32) ≤ nI A := by
        rw [show (8 : Int32) = nI 8 from rfl, nI_leI (by omega) (by omega)]
        omega
      obtain ⟨F, rfl⟩ : ∃ z, F = z + 4 := ⟨F - 4, by omega⟩
      have hsv : (b = false ∧ s = 10) ∨ (b = false ∧ s = 11) ∨ (b = false ∧ s = 12) ∨ (b = false ∧ s = 13) ∨ (b = false ∧ s = 14) ∨ (b = false ∧ s = 15) ∨ (b = true ∧ s = 16) ∨ (b = true ∧ s = 17) ∨ (b = true ∧ s = 18) ∨ (b = true ∧ s = 19) ∨ (b = true ∧ s = 20) ∨ (b = true ∧ s = 24) ∨ (b = true ∧ s = 25) := by
        unfold isBi at hf
        rcases hf with ⟨z, y⟩ | ⟨z, y⟩
        · rcases (show s = 10 ∨ s = 11 ∨ s = 12 ∨ s = 13 ∨ s = 14 ∨ s = 15 by omega) with rfl | rfl | rfl | rfl | rfl | rfl <;> simp [z]
        · rcases (show s = 16 ∨ s = 17 ∨ s = 18 ∨ s = 19 ∨ s = 20 ∨ s = 24 ∨ s = 25 by omega) with rfl | rfl | rfl | rfl | rfl | rfl | rfl <;> simp [z]
      rcases hsv with ⟨rfl, rfl⟩ | ⟨rfl, rfl⟩ | ⟨rfl, rfl⟩ | ⟨rfl, rfl⟩ | ⟨rfl, rfl⟩ | ⟨rfl, rfl⟩ | ⟨rfl, rfl⟩ | ⟨rfl, rfl⟩ | ⟨rfl, rfl⟩ | ⟨rfl, rfl⟩ | ⟨rfl, rfl⟩ | ⟨rfl, rfl⟩ | ⟨rfl, rfl⟩
      · have j0 : AtJ J p (tok 152 :: tok 40 :: (i1 ++ (tok 44 :: (i2 ++ [tok 41])))) := hJ
        have q0 : J[p]? = some (tok 152) := j0.hd (show (152 : Nat) ≠ 1000 by decide)
        have j1 := j0.tl (show (152 : Nat) ≠ 1000 by decide)
        have q1 : J[p + 1]? = some (tok 40) := j1.hd (show (40 : Nat) ≠ 1000 by decide)
        have j2 := j1.tl (show (40 : Nat) ≠ 1000 by decide)
        have a1 := j2.l
        have j3 := j2.r
        have q3 : J[p + 1 + 1 + (ns i1).length]? = some (tok 44) := j3.hd (show (44 : Nat) ≠ 1000 by decide)
        have j4 := j3.tl (show (44 : Nat) ≠ 1000 by decide)
        have a2 := j4.l
        have j5 := j4.r
        have q5 : J[p + 1 + 1 + (ns i1).length + 1 + (ns i2).length]? = some (tok 41) := j5.hd (show (41 : Nat) ≠ 1000 by decide)
        have l5 := lt_of_at q5
        have hnl : (ns (biL 10 ++ (i1 ++ (biM 10 ++ (i2 ++ biR 10))))).length = 2 + ((ns i1).length + (1 + ((ns i2).length + 1))) := by
          rw [ns_app, ns_app, ns_app, ns_app, List.length_append, List.length_append, List.length_append, List.length_append]
          rfl
        have epos : p + (2 + ((ns i1).length + (1 + ((ns i2).length + 1)))) = p + 1 + 1 + (ns i1).length + 1 + (ns i2).length + 1 := by omega
        rw [hnl, epos]
        have x1 : nx J (p + 1 + 1 + (ns i1).length) := by unfold nx; rw [kdJ_of q3]; decide
        have x2 : nx J (p + 1 + 1 + (ns i1).length + 1 + (ns i2).length) := by unfold nx; rw [kdJ_of q5]; decide
        obtain ⟨g1, t1, t2, t3⟩ := take_yes (k := 152) hS hp (kdJ_of q0)
        obtain ⟨g2, u1, u2, u3⟩ := take_yes (k := 40) t2 (by omega) (kdJ_of q1)
        have u1 : k0_take 40 g1 = some (1, g2) := u1
        obtain ⟨g3, m1, e1, e2, e3, e4, e5⟩ := (is l1 i1 ht (F + 1) (A + 1) (p + 1 + 1) D g2 (by omega) (by omega) u2 a1 (by omega) (by omega) x1).len
        obtain ⟨g4, v1, v2, v3⟩ := take_yes (k := 44) e2 (by omega) (kdJ_of q3)
        have v1 : k0_take 44 g3 = some (1, g4) := v1
        obtain ⟨g5, m2, f1, f2, f3, f4, f5⟩ := (is l2 i2 hu (F + 1) (A + 1) _ (D ++ m1) g4 (by omega) (by omega) v2 a2 (by omega) (by omega) x2).len
        obtain ⟨g6, y1, y2, y3⟩ := take_yes (k := 41) f2 (by omega) (kdJ_of q5)
        have y1 : k0_take 41 g5 = some (1, g6) := y1
        obtain ⟨g7, w1, w2, w3⟩ := write_ok (c := 152) (τ := p + 1 + 1 + (ns i1).length + 1 + (ns i2).length + 1) y2 (by omega) (by omega)
        refine ⟨g7, m1 ++ (m2 ++ [(152, p + 1 + 1 + (ns i1).length + 1 + (ns i2).length + 1)]), ?_, by rw [List.append_assoc, List.append_assoc] at w2; exact w2, ?_, (((((t3.trans u3).trans e4).trans v3).trans f4).trans y3).trans w3⟩
        · show kG0 (F + 4 + 1) 5 (nI A) 0 g = _
          rw [kG_val]
          unfold kb0_value k0_value_274
          have k0 : kdJ J p = 152 := kdJ_of q0
          rw [hS.at', hS.kind hp, k0, some_bind]
          rw [if_neg (show ¬ nI 152 = 3 by decide), if_neg (show ¬ nI 152 = 40 by decide), if_neg (show ¬ nI 152 = 45 by decide), if_neg (show ¬ nI 152 = 129 by decide), if_neg (show ¬ nI 152 = 130 by decide), if_neg (show ¬ nI 152 = 140 by decide), if_neg (show ¬ nI 152 = 141 by decide), if_neg (show ¬ nI 152 = 142 by decide), if_neg (show ¬ nI 152 = 143 by decide), if_neg (show ¬ nI 152 = 144 by decide), if_neg (show ¬ nI 152 = 145 by decide), if_pos (show nI 152 = 152 from rfl), t1, some_bind, if_neg (show ¬ (1 : Int32) = 0 by decide)]
          have ep : kG0 (F + 4) 6 (nI 152) (nI A) g1 = some (1, g7) := by
            show kG0 (F + 3 + 1) 6 (nI 152) (nI A) g1 = _
            rw [kG_pair]
            unfold kb0_pair
            rw [if_neg hA8, u1, some_bind, if_neg (show ¬ (1 : Int32) = 0 by decide), hA1, e1, some_bind, if_neg (show ¬ (1 : Int32) = 0 by decide), v1, some_bind, if_neg (show ¬ (1 : Int32) = 0 by decide), f1, some_bind, if_neg (show ¬ (1 : Int32) = 0 by decide), y1, some_bind, if_neg (show ¬ (1 : Int32) = 0 by decide)]
            show (k2_write 8 (nI 152) (g6 13 2) g6).bind _ = _
            rw [y2.at', w1, some_bind]
          rw [ep, some_bind, if_neg (show ¬ (1 : Int32) = 0 by decide)]
        · rw [List.map_append, List.map_append, e3, f3]
          rfl
      · have j0 : AtJ J p (tok 153 :: tok 40 :: (i1 ++ (bl :: tok 44 :: bl :: (i2 ++ [tok 41])))) := hJ
        have q0 : J[p]? = some (tok 153) := j0.hd (show (153 : Nat) ≠ 1000 by decide)
        have j1 := j0.tl (show (153 : Nat) ≠ 1000 by decide)
        have q1 : J[p + 1]? = some (tok 40) := j1.hd (show (40 : Nat) ≠ 1000 by decide)
        have j2 := j1.tl (show (40 : Nat) ≠ 1000 by decide)
        have a1 := j2.l
        have j3 := j2.r.bl rfl
        have q3 : J[p + 1 + 1 + (ns i1).length]? = some (tok 44) := j3.hd (show (44 : Nat) ≠ 1000 by decide)
        have j4 := (j3.tl (show (44 : Nat) ≠ 1000 by decide)).bl rfl
        have a2 := j4.l
        have j5 := j4.r
        have q5 : J[p + 1 + 1 + (ns i1).length + 1 + (ns i2).length]? = some (tok 41) := j5.hd (show (41 : Nat) ≠ 1000 by decide)
        have l5 := lt_of_at q5
        have hnl : (ns (biL 11 ++ (i1 ++ (biM 11 ++ (i2 ++ biR 11))))).length = 2 + ((ns i1).length + (1 + ((ns i2).length + 1))) := by
          rw [ns_app, ns_app, ns_app, ns_app, List.length_append, List.length_append, List.length_append, List.length_append]
          rfl
        have epos : p + (2 + ((ns i1).length + (1 + ((ns i2).length + 1)))) = p + 1 + 1 + (ns i1).length + 1 + (ns i2).length + 1 := by omega
        rw [hnl, epos]
        have x1 : nx J (p + 1 + 1 + (ns i1).length) := by unfold nx; rw [kdJ_of q3]; decide
        have x2 : nx J (p + 1 + 1 + (ns i1).length + 1 + (ns i2).length) := by unfold nx; rw [kdJ_of q5]; decide
        obtain ⟨g1, t1, t2, t3⟩ := take_yes (k := 153) hS hp (kdJ_of q0)
        obtain ⟨g2, u1, u2, u3⟩ := take_yes (k := 40) t2 (by omega) (kdJ_of q1)
        have u1 : k0_take 40 g1 = some (1, g2) := u1
        obtain ⟨g3, m1, e1, e2, e3, e4, e5⟩ := (is l1 i1 ht (F + 1) (A + 1) (p + 1 + 1) D g2 (by omega) (by omega) u2 a1 (by omega) (by omega) x1).len
        obtain ⟨g4, v1, v2, v3⟩ := take_yes (k := 44) e2 (by omega) (kdJ_of q3)
        have v1 : k0_take 44 g3 = some (1, g4) := v1
        obtain ⟨g5, m2, f1, f2, f3, f4, f5⟩ := (is l2 i2 hu (F + 1) (A + 1) _ (D ++ m1) g4 (by omega) (by omega) v2 a2 (by omega) (by omega) x2).len
        obtain ⟨g6, y1, y2, y3⟩ := take_yes (k := 41) f2 (by omega) (kdJ_of q5)
        have y1 : k0_take 41 g5 = some (1, g6) := y1
        obtain ⟨g7, w1, w2, w3⟩ := write_ok (c := 153) (τ := p + 1 + 1 + (ns i1).length + 1 + (ns i2).length + 1) y2 (by omega) (by omega)
        refine ⟨g7, m1 ++ (m2 ++ [(153, p + 1 + 1 + (ns i1).length + 1 + (ns i2).length + 1)]), ?_, by rw [List.append_assoc, List.append_assoc] at w2; exact w2, ?_, (((((t3.trans u3).trans e4).trans v3).trans f4).trans y3).trans w3⟩
        · show kG0 (F + 4 + 1) 5 (nI A) 0 g = _
          rw [kG_val]
          unfold kb0_value k0_value_274
          have k0 : kdJ J p = 153 := kdJ_of q0
          rw [hS.at', hS.kind hp, k0, some_bind]
          rw [if_neg (show ¬ nI 153 = 3 by decide), if_neg (show ¬ nI 153 = 40 by decide), if_neg (show ¬ nI 153 = 45 by decide), if_neg (show ¬ nI 153 = 129 by decide), if_neg (show ¬ nI 153 = 130 by decide), if_neg (show ¬ nI 153 = 140 by decide), if_neg (show ¬ nI 153 = 141 by decide), if_neg (show ¬ nI 153 = 142 by decide), if_neg (show ¬ nI 153 = 143 by decide), if_neg (show ¬ nI 153 = 144 by decide), if_neg (show ¬ nI 153 = 145 by decide), if_neg (show ¬ nI 153 = 152 by decide), if_pos (show nI 153 = 153 from rfl), t1, some_bind, if_neg (show ¬ (1 : Int32) = 0 by decide)]
          have ep : kG0 (F + 4) 6 (nI 153) (nI A) g1 = some (1, g7) := by
            show kG0 (F + 3 + 1) 6 (nI 153) (nI A) g1 = _
            rw [kG_pair]
            unfold kb0_pair
            rw [if_neg hA8, u1, some_bind, if_neg (show ¬ (1 : Int32) = 0 by decide), hA1, e1, some_bind, if_neg (show ¬ (1 : Int32) = 0 by decide), v1, some_bind, if_neg (show ¬ (1 : Int32) = 0 by decide), f1, some_bind, if_neg (show ¬ (1 : Int32) = 0 by decide), y1, some_bind, if_neg (show ¬ (1 : Int32) = 0 by decide)]
            show (k2_write 8 (nI 153) (g6 13 2) g6).bind _ = _
            rw [y2.at', w1, some_bind]
          rw [ep, some_bind, if_neg (show ¬ (1 : Int32) = 0 by decide)]
        · rw [List.map_append, List.map_append, e3, f3]
          rfl
      · have j0 : AtJ J p (tok 40 :: (i1 ++ (tok 43 :: (i2 ++ [tok 41])))) := hJ
        have q0 : J[p]? = some (tok 40) := j0.hd (show (40 : Nat) ≠ 1000 by decide)
        have j2 := j0.tl (show (40 : Nat) ≠ 1000 by decide)
        have a1 := j2.l
        have j3 := j2.r
        have q3 : J[p + 1 + (ns i1).length]? = some (tok 43) := j3.hd (show (43 : Nat) ≠ 1000 by decide)
        have j4 := j3.tl (show (43 : Nat) ≠ 1000 by decide)
        have a2 := j4.l
        have q5 : J[p + 1 + (ns i1).length + 1 + (ns i2).length]? = some (tok 41) := j4.r.hd (show (41 : Nat) ≠ 1000 by decide)
        have l3 := lt_of_at q3
        have l5 := lt_of_at q5
        have hnl : (ns (biL 12 ++ (i1 ++ (biM 12 ++ (i2 ++ biR 12))))).length = 1 + ((ns i1).length + (1 + ((ns i2).length + 1))) := by
          rw [ns_app, ns_app, ns_app, ns_app, List.length_append, List.length_append, List.length_append, List.length_append]
          rfl
        have epos : p + (1 + ((ns i1).length + (1 + ((ns i2).length + 1)))) = p + 1 + (ns i1).length + 1 + (ns i2).length + 1 := by omega
        rw [hnl, epos]
        have x2 : nx J (p + 1 + (ns i1).length + 1 + (ns i2).length) := by unfold nx; rw [kdJ_of q5]; decide
        obtain ⟨g1, t1, t2, t3⟩ := take_yes (k := 40) hS hp (kdJ_of q0)
        have t1 : k0_take 40 g = some (1, g1) := t1
        have k3 : kdJ J (p + 1 + (ns i1).length) = 43 := kdJ_of q3
        have big1 : GR J (kG0 (F + 3 + 1) 3 (nI (A + 1)) 0 g1) (p + 1 + (ns i1).length + 1 + (ns i2).length) D (l1 ++ (l2 ++ [(43, 0)])) g1 := sum_bin (prod_of (F := F + 2) (iv l1 i1 ht (F + 2) (A + 1) (p + 1) D g1 (by omega) (by omega) t2 a1 (by omega) (by omega)) (by omega) (by rw [k3]; decide) (by rw [k3]; decide)) l3 (by omega) k3 (by decide) (fun D1 ga b1 b2 => prod_of (F := F + 2) (iv l2 i2 hu (F + 2) (A + 1) _ D1 ga (by omega) (by omega) b1 a2 (by omega) (by omega)) (by omega) x2.1 x2.2.1) x2.2.2.1 x2.2.2.2 (by omega)
        obtain ⟨g2, m1, e1, e2, e3, e4⟩ := big1
        obtain ⟨g3, y1, y2, y3⟩ := take_yes (k := 41) e2 (by omega) (kdJ_of q5)
        have y1 : k0_take 41 g2 = some (1, g3) := y1
        have e1 : kG0 (F + 4) 3 (nI (A + 1)) 0 g1 = some (1, g2) := e1
        refine ⟨g3, m1, ?_, y2, e3, (t3.trans e4).trans y3⟩
        show kG0 (F + 4 + 1) 5 (nI A) 0 g = _
        rw [kG_val]
        unfold kb0_value
        have k0 : kdJ J p = 40 := kdJ_of q0
        rw [hS.at', hS.kind hp, k0, some_bind]
        rw [if_neg (show ¬ nI 40 = 3 by decide), if_pos (show nI 40 = 40 from rfl), if_neg hA8, t1, some_bind, if_neg (show ¬ (1 : Int32) = 0 by decide), hA1, e1, some_bind, if_neg (show ¬ (1 : Int32) = 0 by decide), y1, some_bind, if_neg (show ¬ (1 : Int32) = 0 by decide)]
      · have j0 : AtJ J p (tok 40 :: (i1 ++ (tok 45 :: (i2 ++ [tok 41])))) := hJ
        have q0 : J[p]? = some (tok 40) := j0.hd (show (40 : Nat) ≠ 1000 by decide)
        have j2 := j0.tl (show (40 : Nat) ≠ 1000 by decide)
        have a1 := j2.l
        have j3 := j2.r
        have q3 : J[p + 1 + (ns i1).length]? = some (tok 45) := j3.hd (show (45 : Nat) ≠ 1000 by decide)
        have j4 := j3.tl (show (45 : Nat) ≠ 1000 by decide)
        have a2 := j4.l
        have q5 : J[p + 1 + (ns i1).length + 1 + (ns i2).length]? = some (tok 41) := j4.r.hd (show (41 : Nat) ≠ 1000 by decide)
        have l3 := lt_of_at q3
        have l5 := lt_of_at q5
        have hnl : (ns (biL 13 ++ (i1 ++ (biM 13 ++ (i2 ++ biR 13))))).length = 1 + ((ns i1).length + (1 + ((ns i2).length + 1))) := by
          rw [ns_app, ns_app, ns_app, ns_app, List.length_append, List.length_append, List.length_append, List.length_append]
          rfl
        have epos : p + (1 + ((ns i1).length + (1 + ((ns i2).length + 1)))) = p + 1 + (ns i1).length + 1 + (ns i2).length + 1 := by omega
        rw [hnl, epos]
        have x2 : nx J (p + 1 + (ns i1).length + 1 + (ns i2).length) := by unfold nx; rw [kdJ_of q5]; decide
        obtain ⟨g1, t1, t2, t3⟩ := take_yes (k := 40) hS hp (kdJ_of q0)
        have t1 : k0_take 40 g = some (1, g1) := t1
        have k3 : kdJ J (p + 1 + (ns i1).length) = 45 := kdJ_of q3
        have big1 : GR J (kG0 (F + 3 + 1) 3 (nI (A + 1)) 0 g1) (p + 1 + (ns i1).length + 1 + (ns i2).length) D (l1 ++ (l2 ++ [(45, 0)])) g1 := sum_bin (prod_of (F := F + 2) (iv l1 i1 ht (F + 2) (A + 1) (p + 1) D g1 (by omega) (by omega) t2 a1 (by omega) (by omega)) (by omega) (by rw [k3]; decide) (by rw [k3]; decide)) l3 (by omega) k3 (by decide) (fun D1 ga b1 b2 => prod_of (F := F + 2) (iv l2 i2 hu (F + 2) (A + 1) _ D1 ga (by omega) (by omega) b1 a2 (by omega) (by omega)) (by omega) x2.1 x2.2.1) x2.2.2.1 x2.2.2.2 (by omega)
        obtain ⟨g2, m1, e1, e2, e3, e4⟩ := big1
        obtain ⟨g3, y1, y2, y3⟩ := take_yes (k := 41) e2 (by omega) (kdJ_of q5)
        have y1 : k0_take 41 g2 = some (1, g3) := y1
        have e1 : kG0 (F + 4) 3 (nI (A + 1)) 0 g1 = some (1, g2) := e1
        refine ⟨g3, m1, ?_, y2, e3, (t3.trans e4).trans y3⟩
        show kG0 (F + 4 + 1) 5 (nI A) 0 g = _
        rw [kG_val]
        unfold kb0_value
        have k0 : kdJ J p = 40 := kdJ_of q0
        rw [hS.at', hS.kind hp, k0, some_bind]
        rw [if_neg (show ¬ nI 40 = 3 by decide), if_pos (show nI 40 = 40 from rfl), if_neg hA8, t1, some_bind, if_neg (show ¬ (1 : Int32) = 0 by decide), hA1, e1, some_bind, if_neg (show ¬ (1 : Int32) = 0 by decide), y1, some_bind, if_neg (show ¬ (1 : Int32) = 0 by decide)]
      · have j0 : AtJ J p (tok 40 :: (i1 ++ (tok 42 :: (i2 ++ [tok 41])))) := hJ
        have q0 : J[p]? = some (tok 40) := j0.hd (show (40 : Nat) ≠ 1000 by decide)
        have j2 := j0.tl (show (40 : Nat) ≠ 1000 by decide)
        have a1 := j2.l
        have j3 := j2.r
        have q3 : J[p + 1 + (ns i1).length]? = some (tok 42) := j3.hd (show (42 : Nat) ≠ 1000 by decide)
        have j4 := j3.tl (show (42 : Nat) ≠ 1000 by decide)
        have a2 := j4.l
        have q5 : J[p + 1 + (ns i1).length + 1 + (ns i2).length]? = some (tok 41) := j4.r.hd (show (41 : Nat) ≠ 1000 by decide)
        have l3 := lt_of_at q3
        have l5 := lt_of_at q5
        have hnl : (ns (biL 14 ++ (i1 ++ (biM 14 ++ (i2 ++ biR 14))))).length = 1 + ((ns i1).length + (1 + ((ns i2).length + 1))) := by
          rw [ns_app, ns_app, ns_app, ns_app, List.length_append, List.length_append, List.length_append, List.length_append]
          rfl
        have epos : p + (1 + ((ns i1).length + (1 + ((ns i2).length + 1)))) = p + 1 + (ns i1).length + 1 + (ns i2).length + 1 := by omega
        rw [hnl, epos]
        have x2 : nx J (p + 1 + (ns i1).length + 1 + (ns i2).length) := by unfold nx; rw [kdJ_of q5]; decide
        obtain ⟨g1, t1, t2, t3⟩ := take_yes (k := 40) hS hp (kdJ_of q0)
        have t1 : k0_take 40 g = some (1, g1) := t1
        have k3 : kdJ J (p + 1 + (ns i1).length) = 42 := kdJ_of q3
        have big1 : GR J (kG0 (F + 3 + 1) 3 (nI (A + 1)) 0 g1) (p + 1 + (ns i1).length + 1 + (ns i2).length) D (l1 ++ (l2 ++ [(42, 0)])) g1 := sum_of (prod_bin (F := F + 2) (iv l1 i1 ht (F + 2) (A + 1) (p + 1) D g1 (by omega) (by omega) t2 a1 (by omega) (by omega)) l3 (by omega) k3 (by decide) (fun D1 ga b1 b2 => iv l2 i2 hu (F + 2) (A + 1) _ D1 ga (by omega) (by omega) b1 a2 (by omega) (by omega)) x2.1 x2.2.1 (by omega)) (by omega) x2.2.2.1 x2.2.2.2
        obtain ⟨g2, m1, e1, e2, e3, e4⟩ := big1
        obtain ⟨g3, y1, y2, y3⟩ := take_yes (k := 41) e2 (by omega) (kdJ_of q5)
        have y1 : k0_take 41 g2 = some (1, g3) := y1
        have e1 : kG0 (F + 4) 3 (nI (A + 1)) 0 g1 = some (1, g2) := e1
        refine ⟨g3, m1, ?_, y2, e3, (t3.trans e4).trans y3⟩
        show kG0 (F + 4 + 1) 5 (nI A) 0 g = _
        rw [kG_val]
        unfold kb0_value
        have k0 : kdJ J p = 40 := kdJ_of q0
        rw [hS.at', hS.kind hp, k0, some_bind]
        rw [if_neg (show ¬ nI 40 = 3 by decide), if_pos (show nI 40 = 40 from rfl), if_neg hA8, t1, some_bind, if_neg (show ¬ (1 : Int32) = 0 by decide), hA1, e1, some_bind, if_neg (show ¬ (1 : Int32) = 0 by decide), y1, some_bind, if_neg (show ¬ (1 : Int32) = 0 by decide)]
      · have j0 : AtJ J p (tok 40 :: (i1 ++ (tok 47 :: (i2 ++ [tok 41])))) := hJ
        have q0 : J[p]? = some (tok 40) := j0.hd (show (40 : Nat) ≠ 1000 by decide)
        have j2 := j0.tl (show (40 : Nat) ≠ 1000 by decide)
        have a1 := j2.l
        have j3 := j2.r
        have q3 : J[p + 1 + (ns i1).length]? = some (tok 47) := j3.hd (show (47 : Nat) ≠ 1000 by decide)
        have j4 := j3.tl (show (47 : Nat) ≠ 1000 by decide)
        have a2 := j4.l
        have q5 : J[p + 1 + (ns i1).length + 1 + (ns i2).length]? = some (tok 41) := j4.r.hd (show (41 : Nat) ≠ 1000 by decide)
        have l3 := lt_of_at q3
        have l5 := lt_of_at q5
        have hnl : (ns (biL 15 ++ (i1 ++ (biM 15 ++ (i2 ++ biR 15))))).length = 1 + ((ns i1).length + (1 + ((ns i2).length + 1))) := by
          rw [ns_app, ns_app, ns_app, ns_app, List.length_append, List.length_append, List.length_append, List.length_append]
          rfl
        have epos : p + (1 + ((ns i1).length + (1 + ((ns i2).length + 1)))) = p + 1 + (ns i1).length + 1 + (ns i2).length + 1 := by omega
        rw [hnl, epos]
        have x2 : nx J (p + 1 + (ns i1).length + 1 + (ns i2).length) := by unfold nx; rw [kdJ_of q5]; decide
        obtain ⟨g1, t1, t2, t3⟩ := take_yes (k := 40) hS hp (kdJ_of q0)
        have t1 : k0_take 40 g = some (1, g1) := t1
        have k3 : kdJ J (p + 1 + (ns i1).length) = 47 := kdJ_of q3
        have big1 : GR J (kG0 (F + 3 + 1) 3 (nI (A + 1)) 0 g1) (p + 1 + (ns i1).length + 1 + (ns i2).length) D (l1 ++ (l2 ++ [(47, 0)])) g1 := sum_of (prod_bin (F := F + 2) (iv l1 i1 ht (F + 2) (A + 1) (p + 1) D g1 (by omega) (by omega) t2 a1 (by omega) (by omega)) l3 (by omega) k3 (by decide) (fun D1 ga b1 b2 => iv l2 i2 hu (F + 2) (A + 1) _ D1 ga (by omega) (by omega) b1 a2 (by omega) (by omega)) x2.1 x2.2.1 (by omega)) (by omega) x2.2.2.1 x2.2.2.2
        obtain ⟨g2, m1, e1, e2, e3, e4⟩ := big1
        obtain ⟨g3, y1, y2, y3⟩ := take_yes (k := 41) e2 (by omega) (kdJ_of q5)
        have y1 : k0_take 41 g2 = some (1, g3) := y1
        have e1 : kG0 (F + 4) 3 (nI (A + 1)) 0 g1 = some (1, g2) := e1
        refine ⟨g3, m1, ?_, y2, e3, (t3.trans e4).trans y3⟩
        show kG0 (F + 4 + 1) 5 (nI A) 0 g = _
        rw [kG_val]
        unfold kb0_value
        have k0 : kdJ J p = 40 := kdJ_of q0
        rw [hS.at', hS.kind hp, k0, some_bind]
        rw [if_neg (show ¬ nI 40 = 3 by decide), if_pos (show nI 40 = 40 from rfl), if_neg hA8, t1, some_bind, if_neg (show ¬ (1 : Int32) = 0 by decide), hA1, e1, some_bind, if_neg (show ¬ (1 : Int32) = 0 by decide), y1, some_bind, if_neg (show ¬ (1 : Int32) = 0 by decide)]
      · have ht : PX N d false l1 i1 := ht
        have hu : PX N d false l2 i2 := hu
        have j0 : AtJ J p (i1 ++ (tok 60 :: i2)) := by
          have hJ : AtJ J p ([] ++ (i1 ++ ([tok 60] ++ (i2 ++ [])))) := hJ
          rw [List.append_nil] at hJ
          exact hJ
        have a1 := j0.l
        have q3 : J[p + (ns i1).length]? = some (tok 60) := j0.r.hd (show (60 : Nat) ≠ 1000 by decide)
        have a2 := j0.r.tl (show (60 : Nat) ≠ 1000 by decide)
        have l3 := lt_of_at q3
        have hnl : (ns (biL 16 ++ (i1 ++ (biM 16 ++ (i2 ++ biR 16))))).length = (ns i1).length + (1 + (ns i2).length) := by
          rw [ns_app, ns_app, ns_app, ns_app, List.length_append, List.length_append, List.length_append, List.length_append]
          show 0 + ((ns i1).length + (1 + ((ns i2).length + 0))) = _
          omega
        have epos : p + ((ns i1).length + (1 + (ns i2).length)) = p + (ns i1).length + 1 + (ns i2).length := by omega
        rw [hnl, epos] at hb hle ⊢
        have k3 : kdJ J (p + (ns i1).length) = 60 := kdJ_of q3
        have x1 : nx J (p + (ns i1).length) := by unfold nx; rw [k3]; decide
        obtain ⟨x0, r0, ex0, hx0⟩ := PX.fst _ _ _ ht
        have hx1000 : x0.1 ≠ 1000 := fun e => by rw [e] at hx0; revert hx0; decide
        have q0 : J[p]? = some x0 := by rw [ex0] at a1; exact a1.hd hx1000
        have hk1 := hS.kd (q := p)
        rw [kdJ_of q0] at hk1
        obtain ⟨g1, m1, e1, e2, e3, e4, e5⟩ := (is l1 i1 ht (F + 2) A p D g (by omega) (by omega) hS a1 hp (by omega) x1).len
        obtain ⟨g2, t1, t2, t3⟩ := take_yes (k := 60) e2 (by omega) k3
        have t1 : k0_take 60 g1 = some (1, g2) := t1
        obtain ⟨g3, m2, f1, f2, f3, f4, f5⟩ := (is l2 i2 hu (F + 2) A _ (D ++ m1) g2 (by omega) (by omega) t2 a2 (by omega) (by omega) (hb rfl)).len
        obtain ⟨g4, w1, w2, w3⟩ := write_ok (c := 60) (τ := p + (ns i1).length + 1 + (ns i2).length) f2 (by omega) (by omega)
        refine ⟨g4, m1 ++ (m2 ++ [(60, p + (ns i1).length + 1 + (ns i2).length)]), ?_, by rw [List.append_assoc, List.append_assoc] at w2; exact w2, ?_, ((e4.trans t3).trans f4).trans w3⟩
        · show kG0 (F + 4 + 1) 2 (nI A) 0 g = _
          rw [kG_sing]
          unfold kb0_single
          have e1 : kG0 (F + 4) 3 (nI A) 0 g = some (1, g1) := e1
          have f1 : kG0 (F + 4) 3 (nI A) 0 g2 = some (1, g3) := f1
          rw [hS.at', hS.kind hp, kdJ_of q0, some_bind, if_neg (show ¬ nI x0.1 = 91 from fst_ne (m := 91) hx0 rfl hk1 (by decide)), if_neg (show ¬ nI x0.1 = 147 from fst_ne (m := 147) hx0 rfl hk1 (by decide)), if_neg (show ¬ nI x0.1 = 148 from fst_ne (m := 148) hx0 rfl hk1 (by decide)), if_neg (show ¬ nI x0.1 = 149 from fst_ne (m := 149) hx0 rfl hk1 (by decide)), e1, some_bind, if_neg (show ¬ (1 : Int32) = 0 by decide)]
          show (k6_kindAt (g1 13 2) g1).bind _ = _
          rw [e2.at', e2.kind (by omega), k3, some_bind]
          have e272 : k0_single_272 (kG0 (F + 4)) (nI A) (nI 60) 1 g2 = some (1, g4) := by
            unfold k0_single_272
            rw [if_neg (show ¬ (1 : Int32) = 0 by decide), f1, some_bind, if_neg (show ¬ (1 : Int32) = 0 by decide)]
            show (k2_write 8 (nI 60) (g3 13 2) g3).bind _ = _
            rw [f2.at', w1, some_bind]
          rw [t1, some_bind, if_neg (show ¬ (1 : Int32) = 0 by decide)]
          exact e272
        · rw [List.map_append, List.map_append, e3, f3]
          rfl
      · have ht : PX N d false l1 i1 := ht
        have hu : PX N d false l2 i2 := hu
        have j0 : AtJ J p (i1 ++ (tok 62 :: i2)) := by
          have hJ : AtJ J p ([] ++ (i1 ++ ([tok 62] ++ (i2 ++ [])))) := hJ
          rw [List.append_nil] at hJ
          exact hJ
        have a1 := j0.l
        have q3 : J[p + (ns i1).length]? = some (tok 62) := j0.r.hd (show (62 : Nat) ≠ 1000 by decide)
        have a2 := j0.r.tl (show (62 : Nat) ≠ 1000 by decide)
        have l3 := lt_of_at q3
        have hnl : (ns (biL 17 ++ (i1 ++ (biM 17 ++ (i2 ++ biR 17))))).length = (ns i1).length + (1 + (ns i2).length) := by
          rw [ns_app, ns_app, ns_app, ns_app, List.length_append, List.length_append, List.length_append, List.length_append]
          show 0 + ((ns i1).length + (1 + ((ns i2).length + 0))) = _
          omega
        have epos : p + ((ns i1).length + (1 + (ns i2).length)) = p + (ns i1).length + 1 + (ns i2).length := by omega
        rw [hnl, epos] at hb hle ⊢
        have k3 : kdJ J (p + (ns i1).length) = 62 := kdJ_of q3
        have x1 : nx J (p + (ns i1).length) := by unfold nx; rw [k3]; decide
        obtain ⟨x0, r0, ex0, hx0⟩ := PX.fst _ _ _ ht
        have hx1000 : x0.1 ≠ 1000 := fun e => by rw [e] at hx0; revert hx0; decide
        have q0 : J[p]? = some x0 := by rw [ex0] at a1; exact a1.hd hx1000
        have hk1 := hS.kd (q := p)
        rw [kdJ_of q0] at hk1
        obtain ⟨g1, m1, e1, e2, e3, e4, e5⟩ := (is l1 i1 ht (F + 2) A p D g (by omega) (by omega) hS a1 hp (by omega) x1).len
        obtain ⟨g2, t1, t2, t3⟩ := take_yes (k := 62) e2 (by omega) k3
        have t1 : k0_take 62 g1 = some (1, g2) := t1
        obtain ⟨g3, m2, f1, f2, f3, f4, f5⟩ := (is l2 i2 hu (F + 2) A _ (D ++ m1) g2 (by omega) (by omega) t2 a2 (by omega) (by omega) (hb rfl)).len
        obtain ⟨g4, w1, w2, w3⟩ := write_ok (c := 62) (τ := p + (ns i1).length + 1 + (ns i2).length) f2 (by omega) (by omega)
        refine ⟨g4, m1 ++ (m2 ++ [(62, p + (ns i1).length + 1 + (ns i2).length)]), ?_, by rw [List.append_assoc, List.append_assoc] at w2; exact w2, ?_, ((e4.trans t3).trans f4).trans w3⟩
        · show kG0 (F + 4 + 1) 2 (nI A) 0 g = _
          rw [kG_sing]
          unfold kb0_single
          have e1 : kG0 (F + 4) 3 (nI A) 0 g = some (1, g1) := e1
          have f1 : kG0 (F + 4) 3 (nI A) 0 g2 = some (1, g3) := f1
          rw [hS.at', hS.kind hp, kdJ_of q0, some_bind, if_neg (show ¬ nI x0.1 = 91 from fst_ne (m := 91) hx0 rfl hk1 (by decide)), if_neg (show ¬ nI x0.1 = 147 from fst_ne (m := 147) hx0 rfl hk1 (by decide)), if_neg (show ¬ nI x0.1 = 148 from fst_ne (m := 148) hx0 rfl hk1 (by decide)), if_neg (show ¬ nI x0.1 = 149 from fst_ne (m := 149) hx0 rfl hk1 (by decide)), e1, some_bind, if_neg (show ¬ (1 : Int32) = 0 by decide)]
          show (k6_kindAt (g1 13 2) g1).bind _ = _
          rw [e2.at', e2.kind (by omega), k3, some_bind]
          have e272 : k0_single_272 (kG0 (F + 4)) (nI A) (nI 62) 1 g2 = some (1, g4) := by
            unfold k0_single_272
            rw [if_neg (show ¬ (1 : Int32) = 0 by decide), f1, some_bind, if_neg (show ¬ (1 : Int32) = 0 by decide)]
            show (k2_write 8 (nI 62) (g3 13 2) g3).bind _ = _
            rw [f2.at', w1, some_bind]
          have z60 : k0_take 60 g1 = some (0, g1) := take_no e2 (by omega) (by rw [k3]; decide) (by decide)
          rw [z60, some_bind, if_pos rfl]
          rw [t1, some_bind, if_neg (show ¬ (1 : Int32) = 0 by decide)]
          exact e272
        · rw [List.map_append, List.map_append, e3, f3]
          rfl
      · have ht : PX N d false l1 i1 := ht
        have hu : PX N d false l2 i2 := hu
        have j0 : AtJ J p (i1 ++ (tok 61 :: i2)) := by
          have hJ : AtJ J p ([] ++ (i1 ++ ([tok 61] ++ (i2 ++ [])))) := hJ
          rw [List.append_nil] at hJ
          exact hJ
        have a1 := j0.l
        have q3 : J[p + (ns i1).length]? = some (tok 61) := j0.r.hd (show (61 : Nat) ≠ 1000 by decide)
        have a2 := j0.r.tl (show (61 : Nat) ≠ 1000 by decide)
        have l3 := lt_of_at q3
        have hnl : (ns (biL 18 ++ (i1 ++ (biM 18 ++ (i2 ++ biR 18))))).length = (ns i1).length + (1 + (ns i2).length) := by
          rw [ns_app, ns_app, ns_app, ns_app, List.length_append, List.length_append, List.length_append, List.length_append]
          show 0 + ((ns i1).length + (1 + ((ns i2).length + 0))) = _
          omega
        have epos : p + ((ns i1).length + (1 + (ns i2).length)) = p + (ns i1).length + 1 + (ns i2).length := by omega
        rw [hnl, epos] at hb hle ⊢
        have k3 : kdJ J (p + (ns i1).length) = 61 := kdJ_of q3
        have x1 : nx J (p + (ns i1).length) := by unfold nx; rw [k3]; decide
        obtain ⟨x0, r0, ex0, hx0⟩ := PX.fst _ _ _ ht
        have hx1000 : x0.1 ≠ 1000 := fun e => by rw [e] at hx0; revert hx0; decide
        have q0 : J[p]? = some x0 := by rw [ex0] at a1; exact a1.hd hx1000
        have hk1 := hS.kd (q := p)
        rw [kdJ_of q0] at hk1
        obtain ⟨g1, m1, e1, e2, e3, e4, e5⟩ := (is l1 i1 ht (F + 2) A p D g (by omega) (by omega) hS a1 hp (by omega) x1).len
        obtain ⟨g2, t1, t2, t3⟩ := take_yes (k := 61) e2 (by omega) k3
        have t1 : k0_take 61 g1 = some (1, g2) := t1
        obtain ⟨g3, m2, f1, f2, f3, f4, f5⟩ := (is l2 i2 hu (F + 2) A _ (D ++ m1) g2 (by omega) (by omega) t2 a2 (by omega) (by omega) (hb rfl)).len
        obtain ⟨g4, w1, w2, w3⟩ := write_ok (c := 61) (τ := p + (ns i1).length + 1 + (ns i2).length) f2 (by omega) (by omega)
        refine ⟨g4, m1 ++ (m2 ++ [(61, p + (ns i1).length + 1 + (ns i2).length)]), ?_, by rw [List.append_assoc, List.append_assoc] at w2; exact w2, ?_, ((e4.trans t3).trans f4).trans w3⟩
        · show kG0 (F + 4 + 1) 2 (nI A) 0 g = _
          rw [kG_sing]
          unfold kb0_single
          have e1 : kG0 (F + 4) 3 (nI A) 0 g = some (1, g1) := e1
          have f1 : kG0 (F + 4) 3 (nI A) 0 g2 = some (1, g3) := f1
          rw [hS.at', hS.kind hp, kdJ_of q0, some_bind, if_neg (show ¬ nI x0.1 = 91 from fst_ne (m := 91) hx0 rfl hk1 (by decide)), if_neg (show ¬ nI x0.1 = 147 from fst_ne (m := 147) hx0 rfl hk1 (by decide)), if_neg (show ¬ nI x0.1 = 148 from fst_ne (m := 148) hx0 rfl hk1 (by decide)), if_neg (show ¬ nI x0.1 = 149 from fst_ne (m := 149) hx0 rfl hk1 (by decide)), e1, some_bind, if_neg (show ¬ (1 : Int32) = 0 by decide)]
          show (k6_kindAt (g1 13 2) g1).bind _ = _
          rw [e2.at', e2.kind (by omega), k3, some_bind]
          have e272 : k0_single_272 (kG0 (F + 4)) (nI A) (nI 61) 1 g2 = some (1, g4) := by
            unfold k0_single_272
            rw [if_neg (show ¬ (1 : Int32) = 0 by decide), f1, some_bind, if_neg (show ¬ (1 : Int32) = 0 by decide)]
            show (k2_write 8 (nI 61) (g3 13 2) g3).bind _ = _
            rw [f2.at', w1, some_bind]
          have z60 : k0_take 60 g1 = some (0, g1) := take_no e2 (by omega) (by rw [k3]; decide) (by decide)
          have z62 : k0_take 62 g1 = some (0, g1) := take_no e2 (by omega) (by rw [k3]; decide) (by decide)
          rw [z60, some_bind, if_pos rfl, z62, some_bind, if_pos rfl]
          rw [t1, some_bind, if_neg (show ¬ (1 : Int32) = 0 by decide)]
          exact e272
        · rw [List.map_append, List.map_append, e3, f3]
          rfl
      · have ht : PX N d false l1 i1 := ht
        have hu : PX N d false l2 i2 := hu
        have j0 : AtJ J p (i1 ++ (tok 4 :: i2)) := by
          have hJ : AtJ J p ([] ++ (i1 ++ ([tok 4] ++ (i2 ++ [])))) := hJ
          rw [List.append_nil] at hJ
          exact hJ
        have a1 := j0.l
        have q3 : J[p + (ns i1).length]? = some (tok 4) := j0.r.hd (show (4 : Nat) ≠ 1000 by decide)
        have a2 := j0.r.tl (show (4 : Nat) ≠ 1000 by decide)
        have l3 := lt_of_at q3
        have hnl : (ns (biL 19 ++ (i1 ++ (biM 19 ++ (i2 ++ biR 19))))).length = (ns i1).length + (1 + (ns i2).length) := by
          rw [ns_app, ns_app, ns_app, ns_app, List.length_append, List.length_append, List.length_append, List.length_append]
          show 0 + ((ns i1).length + (1 + ((ns i2).length + 0))) = _
          omega
        have epos : p + ((ns i1).length + (1 + (ns i2).length)) = p + (ns i1).length + 1 + (ns i2).length := by omega
        rw [hnl, epos] at hb hle ⊢
        have k3 : kdJ J (p + (ns i1).length) = 4 := kdJ_of q3
        have x1 : nx J (p + (ns i1).length) := by unfold nx; rw [k3]; decide
        obtain ⟨x0, r0, ex0, hx0⟩ := PX.fst _ _ _ ht
        have hx1000 : x0.1 ≠ 1000 := fun e => by rw [e] at hx0; revert hx0; decide
        have q0 : J[p]? = some x0 := by rw [ex0] at a1; exact a1.hd hx1000
        have hk1 := hS.kd (q := p)
        rw [kdJ_of q0] at hk1
        obtain ⟨g1, m1, e1, e2, e3, e4, e5⟩ := (is l1 i1 ht (F + 2) A p D g (by omega) (by omega) hS a1 hp (by omega) x1).len
        obtain ⟨g2, t1, t2, t3⟩ := take_yes (k := 4) e2 (by omega) k3
        have t1 : k0_take 4 g1 = some (1, g2) := t1
        obtain ⟨g3, m2, f1, f2, f3, f4, f5⟩ := (is l2 i2 hu (F + 2) A _ (D ++ m1) g2 (by omega) (by omega) t2 a2 (by omega) (by omega) (hb rfl)).len
        obtain ⟨g4, w1, w2, w3⟩ := write_ok (c := 4) (τ := p + (ns i1).length + 1 + (ns i2).length) f2 (by omega) (by omega)
        refine ⟨g4, m1 ++ (m2 ++ [(4, p + (ns i1).length + 1 + (ns i2).length)]), ?_, by rw [List.append_assoc, List.append_assoc] at w2; exact w2, ?_, ((e4.trans t3).trans f4).trans w3⟩
        · show kG0 (F + 4 + 1) 2 (nI A) 0 g = _
          rw [kG_sing]
          unfold kb0_single
          have e1 : kG0 (F + 4) 3 (nI A) 0 g = some (1, g1) := e1
          have f1 : kG0 (F + 4) 3 (nI A) 0 g2 = some (1, g3) := f1
          rw [hS.at', hS.kind hp, kdJ_of q0, some_bind, if_neg (show ¬ nI x0.1 = 91 from fst_ne (m := 91) hx0 rfl hk1 (by decide)), if_neg (show ¬ nI x0.1 = 147 from fst_ne (m := 147) hx0 rfl hk1 (by decide)), if_neg (show ¬ nI x0.1 = 148 from fst_ne (m := 148) hx0 rfl hk1 (by decide)), if_neg (show ¬ nI x0.1 = 149 from fst_ne (m := 149) hx0 rfl hk1 (by decide)), e1, some_bind, if_neg (show ¬ (1 : Int32) = 0 by decide)]
          show (k6_kindAt (g1 13 2) g1).bind _ = _
          rw [e2.at', e2.kind (by omega), k3, some_bind]
          have e272 : k0_single_272 (kG0 (F + 4)) (nI A) (nI 4) 1 g2 = some (1, g4) := by
            unfold k0_single_272
            rw [if_neg (show ¬ (1 : Int32) = 0 by decide), f1, some_bind, if_neg (show ¬ (1 : Int32) = 0 by decide)]
            show (k2_write 8 (nI 4) (g3 13 2) g3).bind _ = _
            rw [f2.at', w1, some_bind]
          have z60 : k0_take 60 g1 = some (0, g1) := take_no e2 (by omega) (by rw [k3]; decide) (by decide)
          have z62 : k0_take 62 g1 = some (0, g1) := take_no e2 (by omega) (by rw [k3]; decide) (by decide)
          have z61 : k0_take 61 g1 = some (0, g1) := take_no e2 (by omega) (by rw [k3]; decide) (by decide)
          rw [z60, some_bind, if_pos rfl, z62, some_bind, if_pos rfl, z61, some_bind, if_pos rfl]
          rw [t1, some_bind, if_neg (show ¬ (1 : Int32) = 0 by decide)]
          exact e272
        · rw [List.map_append, List.map_append, e3, f3]
          rfl
      · have ht : PX N d false l1 i1 := ht
        have hu : PX N d false l2 i2 := hu
        have j0 : AtJ J p (i1 ++ (tok 5 :: i2)) := by
          have hJ : AtJ J p ([] ++ (i1 ++ ([tok 5] ++ (i2 ++ [])))) := hJ
          rw [List.append_nil] at hJ
          exact hJ
        have a1 := j0.l
        have q3 : J[p + (ns i1).length]? = some (tok 5) := j0.r.hd (show (5 : Nat) ≠ 1000 by decide)
        have a2 := j0.r.tl (show (5 : Nat) ≠ 1000 by decide)
        have l3 := lt_of_at q3
        have hnl : (ns (biL 20 ++ (i1 ++ (biM 20 ++ (i2 ++ biR 20))))).length = (ns i1).length + (1 + (ns i2).length) := by
          rw [ns_app, ns_app, ns_app, ns_app, List.length_append, List.length_append, List.length_append, List.length_append]
          show 0 + ((ns i1).length + (1 + ((ns i2).length + 0))) = _
          omega
        have epos : p + ((ns i1).length + (1 + (ns i2).length)) = p + (ns i1).length + 1 + (ns i2).length := by omega
        rw [hnl, epos] at hb hle ⊢
        have k3 : kdJ J (p + (ns i1).length) = 5 := kdJ_of q3
        have x1 : nx J (p + (ns i1).length) := by unfold nx; rw [k3]; decide
        obtain ⟨x0, r0, ex0, hx0⟩ := PX.fst _ _ _ ht
        have hx1000 : x0.1 ≠ 1000 := fun e => by rw [e] at hx0; revert hx0; decide
        have q0 : J[p]? = some x0 := by rw [ex0] at a1; exact a1.hd hx1000
        have hk1 := hS.kd (q := p)
        rw [kdJ_of q0] at hk1
        obtain ⟨g1, m1, e1, e2, e3, e4, e5⟩ := (is l1 i1 ht (F + 2) A p D g (by omega) (by omega) hS a1 hp (by omega) x1).len
        obtain ⟨g2, t1, t2, t3⟩ := take_yes (k := 5) e2 (by omega) k3
        have t1 : k0_take 5 g1 = some (1, g2) := t1
        obtain ⟨g3, m2, f1, f2, f3, f4, f5⟩ := (is l2 i2 hu (F + 2) A _ (D ++ m1) g2 (by omega) (by omega) t2 a2 (by omega) (by omega) (hb rfl)).len
        obtain ⟨g4, w1, w2, w3⟩ := write_ok (c := 5) (τ := p + (ns i1).length + 1 + (ns i2).length) f2 (by omega) (by omega)
        refine ⟨g4, m1 ++ (m2 ++ [(5, p + (ns i1).length + 1 + (ns i2).length)]), ?_, by rw [List.append_assoc, List.append_assoc] at w2; exact w2, ?_, ((e4.trans t3).trans f4).trans w3⟩
        · show kG0 (F + 4 + 1) 2 (nI A) 0 g = _
          rw [kG_sing]
          unfold kb0_single
          have e1 : kG0 (F + 4) 3 (nI A) 0 g = some (1, g1) := e1
          have f1 : kG0 (F + 4) 3 (nI A) 0 g2 = some (1, g3) := f1
          rw [hS.at', hS.kind hp, kdJ_of q0, some_bind, if_neg (show ¬ nI x0.1 = 91 from fst_ne (m := 91) hx0 rfl hk1 (by decide)), if_neg (show ¬ nI x0.1 = 147 from fst_ne (m := 147) hx0 rfl hk1 (by decide)), if_neg (show ¬ nI x0.1 = 148 from fst_ne (m := 148) hx0 rfl hk1 (by decide)), if_neg (show ¬ nI x0.1 = 149 from fst_ne (m := 149) hx0 rfl hk1 (by decide)), e1, some_bind, if_neg (show ¬ (1 : Int32) = 0 by decide)]
          show (k6_kindAt (g1 13 2) g1).bind _ = _
          rw [e2.at', e2.kind (by omega), k3, some_bind]
          have e272 : k0_single_272 (kG0 (F + 4)) (nI A) (nI 5) 1 g2 = some (1, g4) := by
            unfold k0_single_272
            rw [if_neg (show ¬ (1 : Int32) = 0 by decide), f1, some_bind, if_neg (show ¬ (1 : Int32) = 0 by decide)]
            show (k2_write 8 (nI 5) (g3 13 2) g3).bind _ = _
            rw [f2.at', w1, some_bind]
          have z60 : k0_take 60 g1 = some (0, g1) := take_no e2 (by omega) (by rw [k3]; decide) (by decide)
          have z62 : k0_take 62 g1 = some (0, g1) := take_no e2 (by omega) (by rw [k3]; decide) (by decide)
          have z61 : k0_take 61 g1 = some (0, g1) := take_no e2 (by omega) (by rw [k3]; decide) (by decide)
          have z4 : k0_take 4 g1 = some (0, g1) := take_no e2 (by omega) (by rw [k3]; decide) (by decide)
          rw [z60, some_bind, if_pos rfl, z62, some_bind, if_pos rfl, z61, some_bind, if_pos rfl, z4, some_bind, if_pos rfl]
          rw [t1, some_bind, if_neg (show ¬ (1 : Int32) = 0 by decide)]
          exact e272
        · rw [List.map_append, List.map_append, e3, f3]
          rfl
      · have ht : PX N d true l1 i1 := ht
        have hu : PX N d true l2 i2 := hu
        have j0 : AtJ J p (tok 91 :: (i1 ++ (bl :: tok 150 :: bl :: (i2 ++ [tok 93])))) := hJ
        have q0 : J[p]? = some (tok 91) := j0.hd (show (91 : Nat) ≠ 1000 by decide)
        have j2 := j0.tl (show (91 : Nat) ≠ 1000 by decide)
        have a1 := j2.l
        have j3 := j2.r.bl rfl
        have q3 : J[p + 1 + (ns i1).length]? = some (tok 150) := j3.hd (show (150 : Nat) ≠ 1000 by decide)
        have j4 := (j3.tl (show (150 : Nat) ≠ 1000 by decide)).bl rfl
        have a2 := j4.l
        have q5 : J[p + 1 + (ns i1).length + 1 + (ns i2).length]? = some (tok 93) := j4.r.hd (show (93 : Nat) ≠ 1000 by decide)
        have l3 := lt_of_at q3
        have l5 := lt_of_at q5
        have hnl : (ns (biL 24 ++ (i1 ++ (biM 24 ++ (i2 ++ biR 24))))).length = 1 + ((ns i1).length + (1 + ((ns i2).length + 1))) := by
          rw [ns_app, ns_app, ns_app, ns_app, List.length_append, List.length_append, List.length_append, List.length_append]
          rfl
        have epos : p + (1 + ((ns i1).length + (1 + ((ns i2).length + 1)))) = p + 1 + (ns i1).length + 1 + (ns i2).length + 1 := by omega
        rw [hnl, epos]
        have k3 : kdJ J (p + 1 + (ns i1).length) = 150 := kdJ_of q3
        have k5 : kdJ J (p + 1 + (ns i1).length + 1 + (ns i2).length) = 93 := kdJ_of q5
        have x1 : nx J (p + 1 + (ns i1).length) := by unfold nx; rw [k3]; decide
        have x2 : nx J (p + 1 + (ns i1).length + 1 + (ns i2).length) := by unfold nx; rw [k5]; decide
        obtain ⟨g1, t1, t2, t3⟩ := take_yes (k := 91) hS hp (kdJ_of q0)
        have t1 : k0_take 91 g = some (1, g1) := t1
        have big1 : GR J (kG0 (F + 3 + 1) 0 (nI (A + 1)) 0 g1) (p + 1 + (ns i1).length + 1 + (ns i2).length) D (l1 ++ (l2 ++ [(150, 0)])) g1 := test_of (both_bin (F := F + 2) (it l1 i1 ht (F + 2) (A + 1) (p + 1) D g1 (by omega) (by omega) t2 a1 (by omega) (by omega) x1) l3 (by omega) k3 (fun D1 ga b1 b2 => it l2 i2 hu (F + 2) (A + 1) _ D1 ga (by omega) (by omega) b1 a2 (by omega) (by omega) x2) (by rw [k5]; decide) (by omega)) (by omega) (by rw [k5]; decide)
        obtain ⟨g2, m1, e1, e2, e3, e4⟩ := big1
        obtain ⟨g3, y1, y2, y3⟩ := take_yes (k := 93) e2 (by omega) (kdJ_of q5)
        have y1 : k0_take 93 g2 = some (1, g3) := y1
        have e1 : kG0 (F + 4) 0 (nI (A + 1)) 0 g1 = some (1, g2) := e1
        refine ⟨g3, m1, ?_, y2, e3, (t3.trans e4).trans y3⟩
        show kG0 (F + 4 + 1) 2 (nI A) 0 g = _
        rw [kG_sing]
        unfold kb0_single
        have k0 : kdJ J p = 91 := kdJ_of q0
        rw [hS.at', hS.kind hp, k0, some_bind]
        rw [if_pos (show nI 91 = 91 from rfl), if_neg hA8, t1, some_bind, if_neg (show ¬ (1 : Int32) = 0 by decide), hA1, e1, some_bind, if_neg (show ¬ (1 : Int32) = 0 by decide), y1, some_bind, if_neg (show ¬ (1 : Int32) = 0 by decide)]
      · have ht : PX N d true l1 i1 := ht
        have hu : PX N d true l2 i2 := hu
        have j0 : AtJ J p (tok 91 :: (i1 ++ (bl :: tok 151 :: bl :: (i2 ++ [tok 93])))) := hJ
        have q0 : J[p]? = some (tok 91) := j0.hd (show (91 : Nat) ≠ 1000 by decide)
        have j2 := j0.tl (show (91 : Nat) ≠ 1000 by decide)
        have a1 := j2.l
        have j3 := j2.r.bl rfl
        have q3 : J[p + 1 + (ns i1).length]? = some (tok 151) := j3.hd (show (151 : Nat) ≠ 1000 by decide)
        have j4 := (j3.tl (show (151 : Nat) ≠ 1000 by decide)).bl rfl
        have a2 := j4.l
        have q5 : J[p + 1 + (ns i1).length + 1 + (ns i2).length]? = some (tok 93) := j4.r.hd (show (93 : Nat) ≠ 1000 by decide)
        have l3 := lt_of_at q3
        have l5 := lt_of_at q5
        have hnl : (ns (biL 25 ++ (i1 ++ (biM 25 ++ (i2 ++ biR 25))))).length = 1 + ((ns i1).length + (1 + ((ns i2).length + 1))) := by
          rw [ns_app, ns_app, ns_app, ns_app, List.length_append, List.length_append, List.length_append, List.length_append]
          rfl
        have epos : p + (1 + ((ns i1).length + (1 + ((ns i2).length + 1)))) = p + 1 + (ns i1).length + 1 + (ns i2).length + 1 := by omega
        rw [hnl, epos]
        have k3 : kdJ J (p + 1 + (ns i1).length) = 151 := kdJ_of q3
        have k5 : kdJ J (p + 1 + (ns i1).length + 1 + (ns i2).length) = 93 := kdJ_of q5
        have x1 : nx J (p + 1 + (ns i1).length) := by unfold nx; rw [k3]; decide
        have x2 : nx J (p + 1 + (ns i1).length + 1 + (ns i2).length) := by unfold nx; rw [k5]; decide
        obtain ⟨g1, t1, t2, t3⟩ := take_yes (k := 91) hS hp (kdJ_of q0)
        have t1 : k0_take 91 g = some (1, g1) := t1
        have big1 : GR J (kG0 (F + 3 + 1) 0 (nI (A + 1)) 0 g1) (p + 1 + (ns i1).length + 1 + (ns i2).length) D (l1 ++ (l2 ++ [(151, 0)])) g1 := test_bin (both_of (F := F + 2) (it l1 i1 ht (F + 2) (A + 1) (p + 1) D g1 (by omega) (by omega) t2 a1 (by omega) (by omega) x1) (by omega) (by rw [k3]; decide)) l3 (by omega) k3 (fun D1 ga b1 b2 => both_of (F := F + 2) (it l2 i2 hu (F + 2) (A + 1) _ D1 ga (by omega) (by omega) b1 a2 (by omega) (by omega) x2) (by omega) (by rw [k5]; decide)) (by rw [k5]; decide) (by omega)
        obtain ⟨g2, m1, e1, e2, e3, e4⟩ := big1
        obtain ⟨g3, y1, y2, y3⟩ := take_yes (k := 93) e2 (by omega) (kdJ_of q5)
        have y1 : k0_take 93 g2 = some (1, g3) := y1
        have e1 : kG0 (F + 4) 0 (nI (A + 1)) 0 g1 = some (1, g2) := e1
        refine ⟨g3, m1, ?_, y2, e3, (t3.trans e4).trans y3⟩
        show kG0 (F + 4 + 1) 2 (nI A) 0 g = _
        rw [kG_sing]
        unfold kb0_single
        have k0 : kdJ J p = 91 := kdJ_of q0
        rw [hS.at', hS.kind hp, k0, some_bind]
        rw [if_pos (show nI 91 = 91 from rfl), if_neg hA8, t1, some_bind, if_neg (show ¬ (1 : Int32) = 0 by decide), hA1, e1, some_bind, if_neg (show ¬ (1 : Int32) = 0 by decide), y1, some_bind, if_neg (show ¬ (1 : Int32) = 0 by decide)]
