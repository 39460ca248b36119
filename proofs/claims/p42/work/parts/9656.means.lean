/-! what each word does to the plan -/
abbrev Ab : Type := List (List Int32) × List Int32 × List Int32 × Nat × Int32 × Int32
abbrev Ab.ws (s : Ab) : List (List Int32) := s.1
abbrev Ab.cs (s : Ab) : List Int32 := s.2.1
abbrev Ab.os (s : Ab) : List Int32 := s.2.2.1
abbrev Ab.no (s : Ab) : Nat := s.2.2.2.1
abbrev Ab.wd (s : Ab) : Int32 := s.2.2.2.2.1
abbrev Ab.lm (s : Ab) : Int32 := s.2.2.2.2.2
def LC (a : Nat) (l : List Int32) (g : G) : Prop := ∀ i v, l[i]? = some v → g a i = v
theorem LC.oth {a o k : Nat} {v : Int32} {l : List Int32} {g : G} (h : LC a l g) (ho : a ≠ o) : LC a l (up g o k v) := fun i x hi => by rw [up_other ho]; exact h i x hi
theorem LC.add {a : Nat} {v : Int32} {l : List Int32} {g : G} (h : LC a l g) : LC a (l ++ [v]) (up g a l.length v) := fun i x hi => by
  by_cases e : i < l.length
  · rw [List.getElem?_append_left e] at hi
    rw [up_slot' (by omega)]
    exact h i x hi
  · rw [List.getElem?_append_right (by omega)] at hi
    obtain ⟨z, hz⟩ : ∃ z, i - l.length = z := ⟨_, rfl⟩
    rw [hz] at hi
    cases z with
    | zero =>
      have : i = l.length := by omega
      have hv : v = x := by simpa using hi
      rw [this, up_self, hv]
    | succ z => simp at hi
def fMe (g0 g : G) : Prop := (∀ a, a ≠ 7 → a ≠ 8 → a ≠ 9 → a ≠ 10 → a ≠ 14 → a ≠ 15 → g a = g0 a) ∧ g 8 8 = g0 8 8
theorem fMe.up {g0 g : G} {o k : Nat} {v : Int32} (h : fMe g0 g) (ho : o = 7 ∨ o = 9 ∨ o = 10 ∨ o = 14 ∨ o = 15 ∨ (o = 8 ∧ k ≠ 8)) : fMe g0 (up g o k v) := ⟨fun a h1 h2 h3 h4 h5 h6 => by rw [up_ne (by omega)]; exact h.1 a h1 h2 h3 h4 h5 h6, by
  rcases Nat.decEq o 8 with z | z
  · rw [up_other (fun e => z e.symm)]; exact h.2
  · rw [up_slot' (by omega)]; exact h.2⟩
theorem BF.up {W : List Int32} {J : List It} {g : G} {o k : Nat} {v : Int32} (h : BF W J g) (ho : 7 ≤ o) : BF W J (up g o k v) := h.fr (fun a _ _ => up_ne (by omega))
theorem V0.oth {J : List It} {k o j : Nat} {v : Int32} {g : G} (h : V0 J k g) (ho : o ≠ 7) : V0 J k (up g o j v) := ⟨fun i x hi => by rw [up_other (fun e => ho e.symm)]; exact h.1 i x hi, by rw [up_other (fun e => ho e.symm)]; exact h.2⟩
theorem V0.next {J : List It} {k : Nat} {g : G} (h : V0 J k g) (hk : ¬ (kdJ J k = 2 ∧ kdJ J (k - 1) ≠ 128)) : V0 J (k + 1) g := ⟨fun i x hi => ⟨fun hi2 => by
    by_cases e : i = k
    · rw [(h.1 i x hi).2 (by omega)]
      rw [e] at hi ⊢
      unfold valJ
      rw [hi]
      show _ = if _ then _ else _
      rw [kdJ_of hi] at hk
      rw [if_neg hk]
    · exact (h.1 i x hi).1 (by omega), fun hi2 => (h.1 i x hi).2 (by omega)⟩, h.2⟩
theorem V0.put {J : List It} {k : Nat} {v : Int32} {g : G} (h : V0 J k g) (hk : valJ J k = v) (hk2 : k < J.length) : V0 J (k + 1) (up g 7 k v) := ⟨fun i x hi => ⟨fun hi2 => by
    by_cases e : i = k
    · rw [e, up_self, hk]
    · rw [up_slot' e]; exact (h.1 i x hi).1 (by omega), fun hi2 => by rw [up_slot' (by omega)]; exact (h.1 i x hi).2 (by omega)⟩, by rw [up_slot' (by omega)]; exact h.2⟩
theorem NmC.oth {J : List It} {ws : List (List Int32)} {o k : Nat} {v : Int32} {g : G} (h : NmC J ws g) (h1 : o ≠ 15) (h2 : o ≠ 8 ∨ k ≠ 4) : NmC J ws (up g o k v) := ⟨h.1, by
    rcases Nat.decEq o 8 with z | z
    · rw [up_other (fun e => z e.symm)]; exact h.2.1
    · rw [up_slot' (by omega)]; exact h.2.1, fun i w hi => by
    obtain ⟨τ, t1, t2⟩ := h.2.2 i w hi
    exact ⟨τ, t1, by rw [up_other (fun e => h1 e.symm)]; exact t2⟩⟩
def MT (W : List Int32) (J : List It) (g0 : G) (k : Nat) (s : Ab) (g : G) : Prop := BF W J g ∧ V0 J k g ∧ fMe g0 g ∧ NmC J s.ws g ∧ LC 9 s.cs g ∧ LC 10 s.os g ∧ g 8 5 = nI s.no ∧ g 8 6 = s.wd ∧ g 8 7 = s.lm
theorem MT.nx {W : List Int32} {J : List It} {g0 g : G} {k : Nat} {s : Ab} (h : MT W J g0 k s g) (hk : ¬ (kdJ J k = 2 ∧ kdJ J (k - 1) ≠ 128)) : MT W J g0 (k + 1) s g := ⟨h.1, h.2.1.next hk, h.2.2⟩
def ES (W : List Int32) (J : List It) (g0 : G) (k : Nat) (s s' : Ab) : Prop := ∀ g, MT W J g0 k s g → ∃ g', k1_errorOf (nI k) g = some (0, g') ∧ MT W J g0 (k + 1) s' g'
theorem nI_s1 {k : Nat} : nI (k + 1) - 1 = nI k := by
  have := @nI_sub 1 k
  rwa [Nat.add_comm 1 k] at this
theorem nI_s2 {k : Nat} : nI (k + 1 + 1) - 2 = nI k := by
  have := @nI_sub 2 k
  rwa [Nat.add_comm 2 k] at this
theorem isOrd_no {k : Nat} {g : G} (hk : k < 1000) (h : k ≠ 133 ∧ k ≠ 135 ∧ k ≠ 136 ∧ k ≠ 137 ∧ k ≠ 138) : k8_isOrder (nI k) g = some 0 := by
  have e : ∀ m : Nat, m < 1000 → k ≠ m → nI k ≠ nI m := fun m hm hn z => hn (nI_inj (by omega) (by omega) z)
  unfold k8_isOrder
  rw [if_neg (show nI k ≠ 133 from e 133 (by decide) h.1), if_neg (show nI k ≠ 135 from e 135 (by decide) h.2.1), if_neg (show nI k ≠ 136 from e 136 (by decide) h.2.2.1), if_neg (show nI k ≠ 137 from e 137 (by decide) h.2.2.2.1), if_neg (show nI k ≠ 138 from e 138 (by decide) h.2.2.2.2)]
variable {W : List Int32} {J : List It} {g0 : G} {k : Nat} {s : Ab}
theorem ne_k {a b : Nat} (ha : a < 1000) (hb : b < 1000) (h : a ≠ b) : ¬ nI a = nI b := fun z => h (nI_inj (by omega) (by omega) z)
/-- a word that says nothing of its own -/
theorem es_plain (hk : k ≤ J.length) (h2 : kdJ J k ≠ 2) (h3 : kdJ J k ≠ 3) (h : kdJ J k ≠ 133 ∧ kdJ J k ≠ 135 ∧ kdJ J k ≠ 136 ∧ kdJ J k ≠ 137 ∧ kdJ J k ≠ 138) : ES W J g0 k s s := fun g hM => by
  refine ⟨g, ?_, hM.nx (fun z => h2 z.1)⟩
  unfold k1_errorOf
  rw [hM.1.kind hk, some_bind, if_neg (show ¬ nI (kdJ J k) = 2 from ne_k hM.1.kd (by decide) h2), if_neg (show ¬ nI (kdJ J k) = 3 from ne_k hM.1.kd (by decide) h3), isOrd_no hM.1.kd h, some_bind, if_pos rfl]
theorem es_order (hk : k ≤ J.length) (h : kdJ J k = 133 ∨ kdJ J k = 135 ∨ kdJ J k = 136 ∨ kdJ J k = 137 ∨ kdJ J k = 138) (hn : s.no < 16) : ES W J g0 k s (s.ws, s.cs, s.os, s.no + 1, s.wd, s.lm) := fun g hM => by
  obtain ⟨m1, m2, m3, m4, m5, m6, m7, m8, m9⟩ := hM
  have z1 : k8_isOrder (nI (kdJ J k)) g = some 1 := by rcases h with e | e | e | e | e <;> (rw [e]; rfl)
  refine ⟨up g 8 5 (nI (s.no + 1)), ?_, m1.up (by decide), (m2.next (by omega)).oth (by decide), m3.up (Or.inr (Or.inr (Or.inr (Or.inr (Or.inr ⟨rfl, by decide⟩))))), m4.oth (by decide) (Or.inr (by decide)), m5.oth (by decide), m6.oth (by decide), up_self, by rw [up_slot' (by decide)]; exact m8, by rw [up_slot' (by decide)]; exact m9⟩
  unfold k1_errorOf k1_errorOfOrder
  rw [m1.kind hk, some_bind, if_neg (show ¬ nI (kdJ J k) = 2 from ne_k (b := 2) m1.kd (by decide) (by omega)), if_neg (show ¬ nI (kdJ J k) = 3 from ne_k (b := 3) m1.kd (by decide) (by omega)), z1, some_bind, if_neg (show ¬ (1 : Int32) = 0 by decide), bd_eq, m7, nI_1, up_self, if_pos (show nI (s.no + 1) ≤ 16 from (nI_leI (b := 16) (by omega) (by omega)).mpr (by omega)), some_bind]
theorem es_new {w : List Int32} (hk : k + 1 ≤ J.length) (h0 : kdJ J k = 128) (h1 : J[k + 1]? = some (2, w)) (hw : w ∉ s.ws) (hn : s.ws.length < 10) : ES W J g0 (k + 1) s (s.ws ++ [w], s.cs, s.os, s.no, s.wd, s.lm) := fun g hM => by
  obtain ⟨m1, m2, m3, m4, m5, m6, m7, m8, m9⟩ := hM
  have hk2 : kdJ J (k + 1) = 2 := kdJ_of h1
  refine ⟨up (up g 15 s.ws.length (nI (k + 1))) 8 4 (nI (s.ws.length + 1)), ?_, (m1.up (by decide)).up (by decide), (((m2.next (fun z => z.2 h0)).oth (by decide)).oth (by decide)), (m3.up (Or.inr (Or.inr (Or.inr (Or.inr (Or.inl rfl)))))).up (Or.inr (Or.inr (Or.inr (Or.inr (Or.inr ⟨rfl, by decide⟩))))), ⟨?_, ?_, fun i x hi => ?_⟩, (m5.oth (by decide)).oth (by decide), (m6.oth (by decide)).oth (by decide), by rw [up_slot' (by decide), up_other (by decide)]; exact m7, by rw [up_slot' (by decide), up_other (by decide)]; exact m8, by rw [up_slot' (by decide), up_other (by decide)]; exact m9⟩
  · unfold k1_errorOf k1_errorOf_35 k1_errorOfNewName
    rw [m1.kind hk, some_bind, hk2, if_pos (show nI 2 = 2 from rfl), nI_s1, m1.kind (by omega), some_bind, h0, if_pos (show nI 128 = 128 from rfl), if_neg (show ¬ (1 : Int32) = 0 by decide), named_n m1 h1 m4, some_bind, plN_no _ _ hw, if_pos rfl, m4.2.1, if_pos (show nI s.ws.length < 10 from (nI_ltI (b := 10) (by omega) (by omega)).mpr (by omega)), sto_n (by omega) (by omega), bd_eq, up_other (by decide), m4.2.1, nI_1, some_bind]
  · show (s.ws ++ [w]).length ≤ 10
    rw [List.length_append]; exact hn
  · show _ = nI (s.ws ++ [w]).length
    rw [up_self, List.length_append]; rfl
  · have hi : (s.ws ++ [w])[i]? = some x := hi
    by_cases e : i < s.ws.length
    · rw [List.getElem?_append_left e] at hi
      obtain ⟨τ, t1, t2⟩ := m4.2.2 i x hi
      exact ⟨τ, t1, by rw [up_other (by decide), up_slot' (by omega)]; exact t2⟩
    · rw [List.getElem?_append_right (by omega)] at hi
      obtain ⟨z, hz⟩ : ∃ z, i - s.ws.length = z := ⟨_, rfl⟩
      rw [hz] at hi
      cases z with
      | zero =>
        have hi2 : i = s.ws.length := by omega
        have hv : w = x := by simpa using hi
        rw [hi2, ← hv]
        exact ⟨k + 1, h1, by rw [up_other (by decide), up_self]⟩
      | succ z => simp at hi
theorem es_name {n : Nat} (hk : k + 1 ≤ J.length) (h0 : kdJ J k ≠ 128) (h1 : J[k + 1]? = some (nmI n)) (hw : s.ws[n]? = some (109 :: dc n)) (hd : (109 :: dc n) ∉ s.ws.take n) : ES W J g0 (k + 1) s s := fun g hM => by
  obtain ⟨m1, m2, m3, m4, m5, m6, m7, m8, m9⟩ := hM
  have hk2 : kdJ J (k + 1) = 2 := kdJ_of h1
  have hn : n < s.ws.length := (List.getElem?_eq_some_iff.mp hw).1
  have h4 := m4.1
  have hJ := m1.2.2.1
  have hv : valJ J (k + 1) = nI n := valJ_nm h0 h1 (by omega)
  have hs : k6_setValue (nI (k + 1)) (nI n) g = some (up g 7 (k + 1) (nI n)) := by
    have := lt_of_at h1
    unfold k6_setValue
    rw [if_neg (nI_pos (by omega)), m1.2.1, if_neg (by rw [nI_leI (by omega) (by omega)]; omega), sto_n (by omega) (by omega)]
  refine ⟨up g 7 (k + 1) (nI n), ?_, m1.up (by decide), m2.put hv (lt_of_at h1), m3.up (Or.inl rfl), m4.oth (by decide) (Or.inl (by decide)), m5.oth (by decide), m6.oth (by decide), by rw [up_other (by decide)]; exact m7, by rw [up_other (by decide)]; exact m8, by rw [up_other (by decide)]; exact m9⟩
  have hp := plN_at s.ws 0 n hw hd
  rw [Nat.zero_add] at hp
  unfold k1_errorOf k1_errorOf_35 k1_errorOfName
  rw [m1.kind hk, some_bind, hk2, if_pos (show nI 2 = 2 from rfl), nI_s1, m1.kind (by omega), some_bind, if_neg (show ¬ nI (kdJ J k) = 128 from ne_k m1.kd (by decide) h0), if_pos rfl, named_n m1 h1 m4, some_bind, hp, hs, some_bind, if_neg (fun z => nI_pos (n := n) (by omega) (by rw [z]; decide)), some_bind]
theorem num_val {g : G} {n : Nat} (hM : MT W J g0 (k + 1) s g) (h1 : J[k + 1]? = some (numI n)) (hn : n < 1000000) : k6_valueAt (nI (k + 1)) g = some (nI n) := by
  have hJ := hM.1.2.2.1
  have := lt_of_at h1
  unfold k6_valueAt
  rw [if_neg (nI_pos (by omega)), hM.1.2.1, if_neg (by rw [nI_leI (by omega) (by omega)]; omega), ld_n (by omega) (by omega), (hM.2.1.1 _ _ h1).2 (Nat.le_refl _)]
  exact congrArg some (dc_val hn)
/-- a number: what is done with it is what stands before it -/
theorem num_of {g : G} {n : Nat} (hk : k + 1 ≤ J.length) (hM : MT W J g0 (k + 1) s g) (h1 : J[k + 1]? = some (numI n)) (hn : n < 1000000) (h45 : kdJ J k ≠ 45) : k1_errorOf (nI (k + 1)) g = (k1_errorOfNumber_46 (nI n) (nI (kdJ J k)) g).bind fun u10 => some (u10.1, u10.2) := by
  have hk3 : kdJ J (k + 1) = 3 := kdJ_of h1
  unfold k1_errorOf k1_errorOfNumber
  rw [hM.1.kind hk, some_bind, hk3, if_neg (show ¬ nI 3 = 2 by decide), if_pos (show nI 3 = 3 from rfl), num_val hM h1 hn, some_bind, nI_s1, hM.1.kind (by omega), some_bind, if_neg (show ¬ nI (kdJ J k) = 45 from ne_k hM.1.kd (by decide) h45)]
theorem nx3 {n : Nat} (h1 : J[k + 1]? = some (numI n)) : ¬ (kdJ J (k + 1) = 2 ∧ kdJ J (k + 1 - 1) ≠ 128) := fun z => by
  have : kdJ J (k + 1) = 3 := kdJ_of h1
  omega
theorem es_num {n : Nat} (hk : k + 1 ≤ J.length) (h1 : J[k + 1]? = some (numI n)) (hn : n < 1000000) (h : kdJ J k ≠ 129 ∧ kdJ J k ≠ 130 ∧ kdJ J k ≠ 131 ∧ kdJ J k ≠ 132) (h45 : kdJ J k = 45 → ∃ j, k = j + 1 ∧ kdJ J j ≠ 130) : ES W J g0 (k + 1) s s := fun g hM => by
  refine ⟨g, ?_, hM.nx (nx3 h1)⟩
  have e61 : ∀ v4, k1_errorOfNumber_61 (nI n) v4 (nI (kdJ J k)) g = some (0, g) := fun v4 => by
    unfold k1_errorOfNumber_61
    rw [if_neg (show ¬ nI (kdJ J k) = 129 from ne_k hM.1.kd (by decide) h.1), if_neg (show ¬ nI (kdJ J k) = 130 from ne_k hM.1.kd (by decide) h.2.1), if_neg (show ¬ nI (kdJ J k) = 131 from ne_k hM.1.kd (by decide) h.2.2.1), if_neg (show ¬ nI (kdJ J k) = 132 from ne_k hM.1.kd (by decide) h.2.2.2)]
  by_cases c : kdJ J k = 45
  · obtain ⟨j, rfl, hj⟩ := h45 c
    have hk3 : kdJ J (j + 1 + 1) = 3 := kdJ_of h1
    unfold k1_errorOf k1_errorOfNumber k1_errorOfNumber_46 k1_errorOfNumber_47
    rw [hM.1.kind hk, some_bind, hk3, if_neg (show ¬ nI 3 = 2 by decide), if_pos (show nI 3 = 3 from rfl), num_val hM h1 hn, some_bind, nI_s1, hM.1.kind (by omega), some_bind, if_pos (by rw [c]; rfl), nI_s2, hM.1.kind (by omega), some_bind, if_neg (show ¬ nI (kdJ J j) = 130 from ne_k hM.1.kd (by decide) hj), if_pos rfl, e61, some_bind]
  · rw [num_of hk hM h1 hn c]
    unfold k1_errorOfNumber_46 k1_errorOfNumber_47
    rw [if_pos rfl, e61, some_bind]
theorem es_clar {n : Nat} (hk : k + 1 ≤ J.length) (h0 : kdJ J k = 129) (h1 : J[k + 1]? = some (numI n)) (hn : n ≤ 100) (hc : s.cs.length + 1 = s.ws.length) : ES W J g0 (k + 1) s (s.ws, s.cs ++ [nI n], s.os, s.no, s.wd, s.lm) := fun g hM => by
  have hM' := hM
  obtain ⟨m1, m2, m3, m4, m5, m6, m7, m8, m9⟩ := hM
  have h4 := m4.1
  refine ⟨up g 9 s.cs.length (nI n), ?_, m1.up (by decide), (m2.next (nx3 h1)).oth (by decide), m3.up (Or.inr (Or.inl rfl)), m4.oth (by decide) (Or.inl (by decide)), m5.add, m6.oth (by decide), by rw [up_other (by decide)]; exact m7, by rw [up_other (by decide)]; exact m8, by rw [up_other (by decide)]; exact m9⟩
  have ht : k2_tellClarity 8 (nI n) g = some (up g 9 s.cs.length (nI n)) := by
    unfold k2_tellClarity
    rw [m4.2.1, ← hc, if_neg (by rw [show (0 : Int32) = nI 0 from rfl, nI_leI (by omega) (by omega)]; omega), if_neg (by rw [show (10 : Int32) = nI 10 from rfl, nI_ltI (by omega) (by omega)]; omega), nI_s1]
    show sto g 9 10 _ _ _ = _
    rw [sto_n (by omega) (by omega)]
  rw [num_of hk hM' h1 (by omega) (by omega)]
  unfold k1_errorOfNumber_46 k1_errorOfNumber_47 k1_errorOfNumber_61
  rw [if_pos rfl, h0, if_pos (show nI 129 = 129 from rfl), ht, some_bind, if_pos (show nI n ≤ 100 from (nI_leI (b := 100) (by omega) (by omega)).mpr (by omega)), some_bind]
theorem tellO {g : G} {v : Int32} (hM : MT W J g0 (k + 1) s g) (hc : s.os.length + 1 = s.ws.length) : k2_tellOffset 8 v g = some (up g 10 s.os.length v) := by
  obtain ⟨m1, m2, m3, m4, m5, m6, m7, m8, m9⟩ := hM
  have h4 := m4.1
  unfold k2_tellOffset
  rw [m4.2.1, ← hc, if_neg (by rw [show (0 : Int32) = nI 0 from rfl, nI_leI (by omega) (by omega)]; omega), if_neg (by rw [show (10 : Int32) = nI 10 from rfl, nI_ltI (by omega) (by omega)]; omega), nI_s1]
  show sto g 10 10 _ _ _ = _
  rw [sto_n (by omega) (by omega)]
theorem MT.off {g : G} {n : Nat} {v : Int32} (hM : MT W J g0 (k + 1) s g) (h1 : J[k + 1]? = some (numI n)) : MT W J g0 (k + 1 + 1) (s.ws, s.cs, s.os ++ [v], s.no, s.wd, s.lm) (up g 10 s.os.length v) := by
  obtain ⟨m1, m2, m3, m4, m5, m6, m7, m8, m9⟩ := hM
  exact ⟨m1.up (by decide), (m2.next (nx3 h1)).oth (by decide), m3.up (Or.inr (Or.inr (Or.inl rfl))), m4.oth (by decide) (Or.inl (by decide)), m5.oth (by decide), m6.add, by rw [up_other (by decide)]; exact m7, by rw [up_other (by decide)]; exact m8, by rw [up_other (by decide)]; exact m9⟩
theorem es_off {n : Nat} (hk : k + 1 ≤ J.length) (h0 : kdJ J k = 130) (h1 : J[k + 1]? = some (numI n)) (hn : n ≤ 90) (hc : s.os.length + 1 = s.ws.length) : ES W J g0 (k + 1) s (s.ws, s.cs, s.os ++ [nI n], s.no, s.wd, s.lm) := fun g hM => by
  refine ⟨up g 10 s.os.length (nI n), ?_, hM.off h1⟩
  rw [num_of hk hM h1 (by omega) (by omega)]
  unfold k1_errorOfNumber_46 k1_errorOfNumber_47 k1_errorOfNumber_61 k1_errorOfNumber_127
  rw [if_pos rfl, h0, if_neg (show ¬ nI 130 = 129 by decide), if_pos (show nI 130 = 130 from rfl), if_pos rfl, tellO hM hc, some_bind, if_pos (show nI n ≤ 90 from (nI_leI (b := 90) (by omega) (by omega)).mpr (by omega)), some_bind]
theorem es_neg {n : Nat} (hk : k + 1 + 1 ≤ J.length) (h0 : kdJ J k = 130) (h45 : kdJ J (k + 1) = 45) (h1 : J[k + 1 + 1]? = some (numI n)) (hn : n ≤ 90) (hc : s.os.length + 1 = s.ws.length) : ES W J g0 (k + 1 + 1) s (s.ws, s.cs, s.os ++ [-(nI n)], s.no, s.wd, s.lm) := fun g hM => by
  refine ⟨up g 10 s.os.length (-(nI n)), ?_, hM.off h1⟩
  have hk3 : kdJ J (k + 1 + 1) = 3 := kdJ_of h1
  unfold k1_errorOf k1_errorOfNumber k1_errorOfNumber_47 k1_errorOfNumber_61 k1_errorOfNumber_127
  rw [hM.1.kind hk, some_bind, hk3, if_neg (show ¬ nI 3 = 2 by decide), if_pos (show nI 3 = 3 from rfl), num_val hM h1 (by omega), some_bind, nI_s1, hM.1.kind (by omega), some_bind, h45, if_pos (show nI 45 = 45 from rfl), nI_s2, hM.1.kind (by omega), some_bind, h0, if_pos (show nI 130 = 130 from rfl), if_neg (show ¬ (1 : Int32) = 0 by decide), if_neg (show ¬ (130 : Int32) = 129 by decide), if_pos rfl, if_neg (show ¬ (1 : Int32) = 0 by decide), tellO hM hc, some_bind, if_pos (show nI n ≤ 90 from (nI_leI (b := 90) (by omega) (by omega)).mpr (by omega)), some_bind]
theorem es_wid {n : Nat} (hk : k + 1 ≤ J.length) (h0 : kdJ J k = 131) (h1 : J[k + 1]? = some (numI n)) (hn : n ≤ 180) : ES W J g0 (k + 1) s (s.ws, s.cs, s.os, s.no, nI n, s.lm) := fun g hM => by
  have hM' := hM
  obtain ⟨m1, m2, m3, m4, m5, m6, m7, m8, m9⟩ := hM
  refine ⟨up g 8 6 (nI n), ?_, m1.up (by decide), (m2.next (nx3 h1)).oth (by decide), m3.up (Or.inr (Or.inr (Or.inr (Or.inr (Or.inr ⟨rfl, by decide⟩))))), m4.oth (by decide) (Or.inr (by decide)), m5.oth (by decide), m6.oth (by decide), by rw [up_slot' (by decide)]; exact m7, up_self, by rw [up_slot' (by decide)]; exact m9⟩
  rw [num_of hk hM' h1 (by omega) (by omega)]
  unfold k1_errorOfNumber_46 k1_errorOfNumber_47 k1_errorOfNumber_61
  rw [if_pos rfl, h0, if_neg (show ¬ nI 131 = 129 by decide), if_neg (show ¬ nI 131 = 130 by decide), if_pos (show nI 131 = 131 from rfl), bd_eq, if_pos (show nI n ≤ 180 from (nI_leI (b := 180) (by omega) (by omega)).mpr (by omega)), some_bind]
theorem es_lim {n : Nat} (hk : k + 1 ≤ J.length) (h0 : kdJ J k = 132) (h1 : J[k + 1]? = some (numI n)) (hn : big n 10000) : ES W J g0 (k + 1) s (s.ws, s.cs, s.os, s.no, s.wd, nI n) := fun g hM => by
  have hM' := hM
  obtain ⟨m1, m2, m3, m4, m5, m6, m7, m8, m9⟩ := hM
  have hn2 : n ≤ 10000 := hn
  have hn3 : n < 1000000 := Nat.lt_of_le_of_lt hn2 (Nat.le_of_ble_eq_true rfl)
  refine ⟨up g 8 7 (nI n), ?_, m1.up (by decide), (m2.next (nx3 h1)).oth (by decide), m3.up (Or.inr (Or.inr (Or.inr (Or.inr (Or.inr ⟨rfl, by decide⟩))))), m4.oth (by decide) (Or.inr (by decide)), m5.oth (by decide), m6.oth (by decide), by rw [up_slot' (by decide)]; exact m7, by rw [up_slot' (by decide)]; exact m8, up_self⟩
  rw [num_of hk hM' h1 hn3 (by omega)]
  unfold k1_errorOfNumber_46 k1_errorOfNumber_47 k1_errorOfNumber_61
  rw [if_pos rfl, h0, if_neg (show ¬ nI 132 = 129 by decide), if_neg (show ¬ nI 132 = 130 by decide), if_neg (show ¬ nI 132 = 131 by decide), if_pos (show nI 132 = 132 from rfl), bd_eq, if_pos (show nI n ≤ 10000 from (nI_leI (b := 10000) (Nat.lt_of_lt_of_le hn3 (Nat.le_of_ble_eq_true rfl)) (Nat.le_of_ble_eq_true rfl)).mpr hn2), some_bind]
