/-! numbers one behind the other; calls of the class in the law -/
def QDc : Nat → Prop := fun k => k = 11
theorem mask_pos (a : Int32) : ¬ (a &&& 2147483647) < 0 := by
  have h : (a &&& 2147483647).toBitVec.msb = false := by
    rw [Int32.toBitVec_and, BitVec.msb_and]
    have : (2147483647 : Int32).toBitVec.msb = false := by decide
    rw [this, Bool.and_false]
  rw [BitVec.msb_eq_toInt] at h
  have h2 : ¬ (a &&& 2147483647).toBitVec.toInt < 0 := of_decide_eq_false h
  rw [Int32.lt_iff_toInt_lt]
  exact h2
theorem rem_nI {q k : Nat} (hq : q < 2 ^ 31) (hk : 0 < k) (hk2 : k < 2 ^ 31) : nI q - nI q / nI k * nI k = nI (q % k) := by
  have hd : q / k < 2 ^ 31 := Nat.lt_of_le_of_lt (Nat.div_le_self q k) hq
  have hm : q % k < 2 ^ 31 := Nat.lt_of_le_of_lt (Nat.mod_le q k) hq
  have e1 : nI q / nI k = nI (q / k) := by
    apply Int32.toInt_inj.mp
    have e0 : Int.tdiv (q : Int) (k : Int) = ((q / k : Nat) : Int) := (Int.ofNat_tdiv q k).symm
    rw [Int32.toInt_div, nI_toInt hq, nI_toInt hk2, nI_toInt hd, e0]
    generalize q / k = d at hd
    exact Int.bmod_eq_of_le (by omega) (by omega)
  have hmul : k * (q / k) + q % k = q := Nat.div_add_mod q k
  have hle : k * (q / k) ≤ q := by omega
  rw [e1]
  apply Int32.toInt_inj.mp
  have e2 : (nI (q / k) * nI k).toInt = ((k * (q / k) : Nat) : Int) := by
    rw [Int32.toInt_mul, nI_toInt hd, nI_toInt hk2]
    have : ((q / k : Nat) : Int) * (k : Int) = ((k * (q / k) : Nat) : Int) := by rw [Nat.mul_comm]; rfl
    rw [this, Int.bmod_eq_of_le (by omega) (by omega)]
  rw [Int32.toInt_sub, nI_toInt hq, e2, nI_toInt hm, Int.bmod_eq_of_le (by omega) (by omega)]
  omega
theorem k_below {S : ZS} {x : Int32} {k : Nat} (hk : 0 < k) (hk2 : k < 2 ^ 31) : ∃ j, kL_below x (nI k) S = some (nI j, S) ∧ j < k := by
  obtain ⟨q, hq, e⟩ := nI_of (mask_pos x)
  refine ⟨q % k, ?_, Nat.mod_lt _ hk⟩
  unfold kL_below rmI
  refine chk_of ?_ (Nat.le_refl _) (Nat.le_refl _)
  rw [if_pos (nI_ne0 hk hk2), e, rem_nI hq hk hk2]
theorem k_next {S : ZS} {r k : Nat} (h : OB S r 11) (hk : 0 < k) (hk2 : k < 2 ^ 31) : ∃ j S', kX9_next r (nI k) S = some (nI j, S') ∧ j < k ∧ Ste QDc 0 0 S S' := by
  obtain ⟨S1, eS1⟩ : ∃ z, z = S.wi (r / 2) 0 ((S.i (r / 2) 0 * 1103515245) + 12345) := ⟨_, rfl⟩
  have s1 : Ste QDc 0 0 S S1 := by rw [eS1]; exact Ste.wi (fun _ => h.2.2)
  have h1 : OB S1 r 11 := h.ste s1
  obtain ⟨j, e, hj⟩ := k_below (S := S1) (x := S1.i (r / 2) 0 >>> (9 &&& 31)) hk hk2
  refine ⟨j, S1, ?_, hj, s1⟩
  unfold kX9_next
  have hle : S1.c ≤ S.c ∧ S1.w ≤ S.w := ⟨s1.2.2.2.1, s1.2.2.2.2.2.1⟩
  refine chk_of ?_ hle.1 hle.2
  rw [gI_o h, pI_o h, ← eS1, gI_o h1, e, b2_s]
  exact chk_of rfl (Nat.le_refl _) (Nat.le_refl _)
theorem Ste.D {S S' : ZS} {t : Nat} {A : TA} (s : Ste QDc 0 0 S S') (h : TT S t A) : TT S' t A := h.ste s (fun k hk => by
  unfold QDc at hk
  unfold noT
  omega)
theorem OA.D {N t : Nat} {S S' : ZS} {P : List OR4} {A : TA} (h : OA N S t P) (s : Ste QDc 0 0 S S') (ht : OB S t 14) : OA N S' t P := by
  obtain ⟨h1, h2⟩ := h
  have e8 : S'.r (t / 2) = S.r (t / 2) := ((s.2.2.1 _ ht.2.1).2 (by rw [ht.2.2]; unfold QDc; omega)).2
  refine ⟨by rw [e8]; exact h1.ste s, fun k o hk => ?_⟩
  rw [e8, ((s.2.2.1 _ h1.2.1).2 (by rw [h1.2.2.1]; unfold QDc; omega)).2]
  exact (h2 k o hk).ste s ⟨by unfold QDc; omega, by unfold QDc; omega⟩
/-- the store's objects, the class elsewhere, less room -/
def ZU (S : ZS) (g : G) (c w : Nat) : ZS := (g, S.n, S.K, S.i, S.r, c, w)
theorem ZU_self {S : ZS} : ZU S S.g S.c S.w = S := rfl
theorem ZU_use {S : ZS} {g g' : G} {c w a b : Nat} : ((ZU S g c w).wg g').use a b = ZU S g' (c - a) (w - b) := rfl
theorem ZU_wg {S : ZS} {g g' : G} {c w : Nat} : (ZU S g c w).wg g' = ZU S g' c w := rfl
theorem TT.zu {S : ZS} {t : Nat} {A : TA} {g : G} {c w : Nat} (h : TT S t A) : TT (ZU S g c w) t A := h
theorem OA.zu {N : Nat} {S : ZS} {t : Nat} {P : List OR4} {g : G} {c w : Nat} (h : OA N S t P) : OA N (ZU S g c w) t P := by
  obtain ⟨h1, h2⟩ := h
  refine ⟨h1, fun k o hk => ?_⟩
  have s : Ste NO 0 0 (ZU S g c w) (ZU S g c w) := Ste.refl
  obtain ⟨a1, a2, a3, a4, a5, a6, a7⟩ := h2 k o hk
  have ts : ∀ d b x l, TS N d b S x l → TS N d b (ZU S g c w) x l := by
    intro d
    induction d with
    | zero => intro b x l hh; exact hh.elim
    | succ d ih =>
      intro b x l hh
      obtain ⟨q1, s, q2, q3⟩ := hh
      refine ⟨q1, s, q2, ?_⟩
      rcases q3 with q3 | ⟨q3, l1, q4, q5⟩ | ⟨q3, l1, l2, q4, q5, q6⟩
      · exact Or.inl q3
      · exact Or.inr (Or.inl ⟨q3, l1, ih _ _ _ q4, q5⟩)
      · exact Or.inr (Or.inr ⟨q3, l1, l2, ih _ _ _ q4, ih _ _ _ q5, q6⟩)
  exact ⟨a1, a2, a3, a4, a5, a6.imp id (fun z => ⟨z.1, ts _ _ _ _ z.2⟩), a7.imp id (fun z => ⟨z.1, z.2.1, ts _ _ _ _ z.2.2⟩)⟩
/-- a call of the class that returns -/
theorem clR_1 {ρ : Type} {pr : ρ → ZS} {S : ZS} {g g' : G} {c w : Nat} {z : Option XR} {v : Int32} {f : Int32 → ZS → Option ρ} {r : ρ} (hc : 3 ≤ c) (hw : 18 ≤ w) (hz : z = some (0, v, g')) (k : f v (ZU S g' (c - 3) (w - 18)) = some r) (hr : (pr r).c ≤ c - 3 ∧ (pr r).w ≤ w - 18) : clR pr (ZU S g c w) 3 18 z f = some r := by
  unfold clR
  rw [if_pos ⟨hc, hw⟩, hz]
  show (if (0 : Nat) = 0 then chk pr (ZU S g' (c - 3) (w - 18)) (f v (ZU S g' (c - 3) (w - 18))) else none) = some r
  rw [if_pos rfl]
  exact chk_of k hr.1 hr.2
theorem clI_1 {α ρ : Type} {S : ZS} {g g' : G} {c w : Nat} {z : Option (α × G)} {v : α} {f : α → ZS → Option ρ} {r : ρ} (hz : z = some (v, g')) (k : f v (ZU S g' c w) = some r) : clI (ZU S g c w) z f = some r := by
  unfold clI
  rw [hz]
  exact k
