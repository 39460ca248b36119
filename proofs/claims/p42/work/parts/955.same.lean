/-! is the law's train the class's: yes -/
theorem clI_E {α : Type} {S : ZS} {g g' : G} {c w : Nat} {z : Option (α × G)} {v : α} {f : α → ZS → Option (Int32 × ZS)} {Pr : Int32 → ZS → Prop} (hz : z = some (v, g')) (k : ∃ x S', f v (ZU S g' c w) = some (x, S') ∧ Pr x S') : ∃ x S', clI (ZU S g c w) z f = some (x, S') ∧ Pr x S' := by
  obtain ⟨x, S', k1, k2⟩ := k
  exact ⟨x, S', clI_1 hz k1, k2⟩
/-- what a look leaves: the objects, the class's train, most of the room -/
def Lk (A : TA) (P : List OR4) (S : ZS) (c w a b : Nat) (v : Int32) (x : Int32) (S' : ZS) : Prop := x = v ∧ ∃ g' c' w', S' = ZU S g' c' w' ∧ RC A P g' ∧ c' ≤ c ∧ c ≤ c' + a ∧ w' ≤ w ∧ w ≤ w' + b
theorem Lk.base {A : TA} {P : List OR4} {S : ZS} {g : G} {c w : Nat} {v : Int32} (h : RC A P g) : ∃ x S', (some (v, ZU S g c w) : Option (Int32 × ZS)) = some (x, S') ∧ Lk A P S c w 0 0 v x S' := ⟨v, _, rfl, rfl, g, c, w, rfl, h, Nat.le_refl _, Nat.le_refl _, Nat.le_refl _, Nat.le_refl _⟩
theorem Lk.more {A : TA} {P : List OR4} {S : ZS} {c w a b a' b' : Nat} {v x : Int32} {S' : ZS} (h : Lk A P S c w a b v x S') (ha : a ≤ a') (hb : b ≤ b') : Lk A P S c w a' b' v x S' := by
  obtain ⟨h1, g', c', w', h2, h3, h4, h5, h6, h7⟩ := h
  exact ⟨h1, g', c', w', h2, h3, h4, by omega, h6, by omega⟩
theorem clR_L {A : TA} {P : List OR4} {S : ZS} {g g' : G} {c w a b : Nat} {z : Option XR} {v y : Int32} {f : Int32 → ZS → Option (Int32 × ZS)} (hc : a + 3 ≤ c) (hw : b + 18 ≤ w) (hz : z = some (0, v, g')) (k : ∃ x S', f v (ZU S g' (c - 3) (w - 18)) = some (x, S') ∧ Lk A P S (c - 3) (w - 18) a b y x S') : ∃ x S', clR Prod.snd (ZU S g c w) 3 18 z f = some (x, S') ∧ Lk A P S c w (a + 3) (b + 18) y x S' := by
  obtain ⟨x, S', k1, k2, g2, c2, w2, k3, k4, k5, k6, k7, k8⟩ := k
  refine ⟨x, S', clR_1 (by omega) (by omega) hz k1 ?_, k2, g2, c2, w2, k3, k4, by omega, by omega, by omega, by omega⟩
  rw [k3]
  exact ⟨k5, k7⟩
/-- a look at the law's own train: the store stays -/
theorem b2_L {A : TA} {P : List OR4} {S : ZS} {g : G} {c w a b : Nat} {z : Option (Int32 × ZS)} {v y : Int32} {f : Int32 → ZS → Option (Int32 × ZS)} (hz : z = some (v, ZU S g c w)) (k : ∃ x S', f v (ZU S g c w) = some (x, S') ∧ Lk A P S c w a b y x S') : ∃ x S', b2 Prod.snd z f = some (x, S') ∧ Lk A P S c w a b y x S' := by
  obtain ⟨x, S', k1, k2, g2, c2, w2, k3, k4, k5, k6, k7, k8⟩ := k
  refine ⟨x, S', ?_, k2, g2, c2, w2, k3, k4, k5, k6, k7, k8⟩
  rw [hz, b2_s]
  refine chk_of k1 ?_ ?_
  · rw [k3]; exact k5
  · rw [k3]; exact k7
theorem nat_sub3 {c a b : Nat} : c - a - b = c - (a + b) := Nat.sub_sub c a b
theorem same395 {A : TA} {P : List OR4} {S : ZS} {t : Nat} {g : G} {c w : Nat} (h : TT S t A) (hR : RC A P g) (h0 : 0 < A.N) : ∃ x S', kX12_isSame_395 t (csR A.cl A.rw A.N) (ZU S g c w) = some (x, S') ∧ Lk A P S c w 0 0 1 x S' := by
  have hN := hR.w.N9
  obtain ⟨g1, e1, h1⟩ := q_meanClarity hR h0
  have hz : k8_meanClarity (ZU S g c w).g = some (mnA A, g1) := e1
  have hT : TT (ZU S g1 c w) t A := h
  have hs : csR A.cl A.rw A.N = cs A.cl A.N := csR_perm A.N A.rw hR.w.2.1 hR.w.2.2.1
  unfold kX12_isSame_395
  refine clI_E hz ?_
  rw [gN_o hT.o hT.ar.ne0, aL_n hT.ar, if_neg (nI_ne0 h0 (by omega)), gN_o hT.o hT.ar.ne0, aL_n hT.ar, hs]
  obtain ⟨s, s1, s2⟩ := hR.w.cs
  have hd : ∀ f : UInt64 → Option (Int32 × ZS), ddv (FP.i2d (cs A.cl A.N)) (FP.i2d (nI A.N)) f = f (mnA A) := fun f => by
    unfold mnA
    rw [s2]
    exact mean_n s1 ⟨h0, hN⟩
  rw [hd]
  unfold kX12_isSame_420
  rw [if_pos (mean_same hR.w h0)]
  exact Lk.base h1
theorem same215 {A : TA} {P : List OR4} {S : ZS} {t : Nat} {z : Nat} (h : TT S t A) (hW : WW A) (hO : OA A.N S t P) (h0 : 0 < A.N) (hz : z = A.rw (wstA A (A.N - 1) 1 0)) (hzN : z < A.N) : ∀ (d k f : Nat) (g : G) (c w : Nat), A.J = k + d → d < f → RC A P g → 6 * d + 3 ≤ c → 36 * d + 18 ≤ w → ∃ x S', kX12_isSame_215 f t (csR A.cl A.rw A.N) (nI z) (nI k) (ZU S g c w) = some (x, S') ∧ Lk A P S c w (6 * d + 3) (36 * d + 18) 1 x S' := by
  intro d
  induction d with
  | zero =>
    intro k f g c w hd hf hR hc hw
    obtain ⟨f, rfl⟩ : ∃ y, f = y + 1 := ⟨f - 1, by omega⟩
    have hA := hR.w
    have hN := hA.N9
    have hJ := hA.J12
    have hT : ∀ g c w, TT (ZU S g c w) t A := fun _ _ _ => h
    have hO8 : AR S (S.r (t / 2) 8) 500000 P.length := hO.1
    have ham : ∀ g c w, AR (ZU S g c w) ((ZU S g c w).r (t / 2) 8) 500000 P.length := fun _ _ _ => hO8
    obtain ⟨g1, e1, h1⟩ := q_lightAtEnd hR
    obtain ⟨g2, e2, h2⟩ := q_tiltAtEnd h1
    obtain ⟨g3, e3, h3⟩ := q_isSeen h2
    obtain ⟨g4, e4, h4⟩ := q_worstMirror h3 h0
    unfold kX12_isSame_215
    rw [gN_o (hT g c w).o (hT g c w).aj.ne0, aL_n (hT g c w).aj, if_pos (by rw [nI_leI (by omega) (by omega)]; omega)]
    have m1 : k8_mirrors (ZU S g c w).g = some (nI A.N) := q_mirrors hR
    have m2 : k8_orders (ZU S g c w).g = some (nI P.length) := q_orders hR
    have m3 : k8_minutes (ZU S g c w).g = some A.mi := q_minutes hR
    have m4 : k8_tapeBytes (ZU S g c w).g = some 0 := q_tapeBytes hR
    rw [m1, some_bind, gN_o (hT g c w).o (hT g c w).ar.ne0, aL_n (hT g c w).ar, if_pos rfl, m2, some_bind, gN_o (hT g c w).o (ham g c w).ne0, aL_n (ham g c w), if_pos rfl, m3, some_bind, gI_o (hT g c w).o, (hT g c w).mi, if_pos rfl, m4, some_bind, if_pos rfl]
    refine clI_E (g' := g1) e1 ?_
    rw [rcv_o (hT g1 c w).o]
    refine b2_L (k_end (hT g1 c w) hA hW) ?_
    rw [if_pos rfl]
    refine clI_E (g' := g2) e2 ?_
    rw [gN_o (hT g2 c w).o (hT g2 c w).ar.ne0, aL_n (hT g2 c w).ar, rcv_o (hT g2 c w).o]
    refine b2_L (k_tilt (hT g2 c w) hA (Nat.le_refl _)) ?_
    rw [if_pos rfl]
    refine clI_E (g' := g3) e3 ?_
    rw [rcv_o (hT g3 c w).o]
    refine b2_L (k_isSeen (hT g3 c w) hA hW) ?_
    have n1 : k8_jobs (ZU S g3 c w).g = some (nI A.J) := q_jobs h3
    have n2 : k8_jobsDone (ZU S g3 c w).g = some A.dn := q_jobsDone h3
    have n3 : k8_minutesToGo (ZU S g3 c w).g = some A.go := q_minutesToGo h3
    rw [if_pos rfl, n1, some_bind, gN_o (hT g3 c w).o (hT g3 c w).aj.ne0, aL_n (hT g3 c w).aj, if_pos rfl, n2, some_bind, gI_o (hT g3 c w).o, (hT g3 c w).dn, if_pos rfl, n3, some_bind, gI_o (hT g3 c w).o, (hT g3 c w).go, if_pos rfl, if_neg (nI_pos (by omega))]
    refine clR_L (a := 0) (b := 0) (g' := g4) (by omega) (by omega) e4 ?_
    rw [hz, if_pos rfl]
    exact same395 h h4 h0
  | succ d ih =>
    intro k f g c w hd hf hR hc hw
    obtain ⟨f, rfl⟩ : ∃ y, f = y + 1 := ⟨f - 1, by omega⟩
    have hA := hR.w
    have hN := hA.N9
    have hJ := hA.J12
    have hk : k < A.J := by omega
    have hT : ∀ g c w, TT (ZU S g c w) t A := fun _ _ _ => h
    obtain ⟨j1, j2, j3⟩ := h.j hk
    have aj1 : ∀ g c w, AR (ZU S g c w) ((ZU S g c w).r ((ZU S g c w).r (t / 2) 4 / 2) k) 100000 2 := fun _ _ _ => j1
    have a0 : ∀ (g : G) (c w : Nat) (f : Int32 → Option (Int32 × ZS)), aG (ZU S g c w) ((ZU S g c w).r ((ZU S g c w).r (t / 2) 4 / 2) k) 100000 0 f = f (A.jk k) := fun g c w f => (aG_n (j := 0) (aj1 g c w) (by omega)).trans (congrArg f j2)
    have a1 : ∀ (g : G) (c w : Nat) (f : Int32 → Option (Int32 × ZS)), aG (ZU S g c w) ((ZU S g c w).r ((ZU S g c w).r (t / 2) 4 / 2) k) 100000 1 f = f (nI (A.jm k)) := fun g c w f => (aG_n (j := 1) (aj1 g c w) (by omega)).trans (congrArg f j3)
    have e1 := q_kindOfJob hR hk
    have e2 := q_mirrorOfJob hR hk
    unfold kX12_isSame_215
    rw [gN_o (hT g c w).o (hT g c w).aj.ne0, aL_n (hT g c w).aj, if_neg (by rw [nI_leI (by omega) (by omega)]; omega)]
    have key : ∃ x S', clR Prod.snd (ZU S g c w) 3 18 (k8_kindOfJob (nI k) (ZU S g c w).g) (fun x60 S61 =>
          gN S61 t 14 4 fun c62 =>
          aN S61 c62 400000 (nI k) fun c63 =>
          aG S61 c63 100000 0 fun x64 =>
          if x60 = x64 then
            clR Prod.snd S61 3 18 (k8_mirrorOfJob (nI k) S61.g) fun x66 S67 =>
            gN S67 t 14 4 fun c68 =>
            aN S67 c68 400000 (nI k) fun c69 =>
            aG S67 c69 100000 1 fun x70 =>
            if x66 = x70 then
              bd (nI k + 1) fun x72 =>
              kX12_isSame_215 f t (csR A.cl A.rw A.N) (nI z) x72 S67
            else
              some (0, S67)
          else
            some (0, S61)) = some (x, S') ∧ Lk A P S c w (6 * d + 3 + 3 + 3) (36 * d + 18 + 18 + 18) 1 x S' := by
      refine clR_L (g' := g) (by omega) (by omega) e1 ?_
      rw [gN_o (hT g (c - 3) (w - 18)).o (hT g (c - 3) (w - 18)).aj.ne0, aN_n (hT g (c - 3) (w - 18)).aj hk (aj1 g (c - 3) (w - 18)).ne0, a0, if_pos rfl]
      refine clR_L (g' := g) (by omega) (by omega) e2 ?_
      rw [gN_o (hT g (c - 3 - 3) (w - 18 - 18)).o (hT g (c - 3 - 3) (w - 18 - 18)).aj.ne0, aN_n (hT g (c - 3 - 3) (w - 18 - 18)).aj hk (aj1 g (c - 3 - 3) (w - 18 - 18)).ne0, a1, if_pos rfl, bd_eq, nI_1]
      exact ih (k + 1) f g (c - 3 - 3) (w - 18 - 18) (by omega) (by omega) hR (by omega) (by omega)
    obtain ⟨x, S', k1, k2⟩ := key
    exact ⟨x, S', k1, k2.more (by omega) (by omega)⟩
