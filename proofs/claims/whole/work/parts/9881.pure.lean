/-! teach: values, read by both -/
section TK
variable {T K : Nat} {B : Nat → Int32} {kd ps sz nm : Nat → Nat}
theorem ms_name {p : Nat} (h30 : kd p = 30) (hn : newB kd p = false) : ms kd nm (p + 1) = ms kd nm p := by
  show mstep kd nm (ms kd nm p) p = _
  unfold mstep
  rw [if_pos h30, hn]; rfl
theorem leaf_good {gG gm gG' gmx : G} {p p' L n dep s : Nat} {l v : Int32} (hG : PG T K B kd ps sz nm p L gG) (hMx : PM T K B kd ps sz nm p' n dep gmx) (hmx : mG n gm gmx) (hn0 : n ≤ p) (hms : ms kd nm p' = ms kd nm p) (hp : p < p') (hp' : p' ≤ K) (hend : kd (p' - 1) ≠ 2) (hs : s < 64) (ha : ariOf s = 0) (hm : ofMirror s → ∃ tok, tok < p' ∧ tok < K ∧ kd tok = 30 ∧ newB kd tok = false ∧ v = nI tok ∧ (noErr kd nm (sameN B ps sz) (tok + 1) → ∃ m, mvO (sameN B ps sz) (ms kd nm tok) tok = some m ∧ l = nI m)) (h31 : s = 31 → ∃ tok, tok < p' ∧ tok < K ∧ kd tok = 31 ∧ v = nI tok ∧ l = nI (nm tok)) (h13 : gG' 13 2 = nI p') (hca : ∀ a, a ≠ 13 → gG' a = addS L (nI (stepOf s)) v gG a) (hk : ∀ k, k ≠ 2 → gG' 13 k = gG 13 k) : Good T K B kd ps sz nm L n p dep gG gm gG' (addN n (nI s) l 0 gmx) p' (n + 1) n := by
  obtain ⟨w1, w2, w3⟩ := hG.wr (c := nI (stepOf s)) (v := v)
  obtain ⟨u1, u2, u3⟩ := addS_v (L := L) (c := nI (stepOf s)) (v := v) (g := gG)
  obtain ⟨x1, x2, x3, x4⟩ := addN_v (n := n) (s := nI s) (l := l) (r := 0) (g := gmx)
  have hL := hG.2.2.2.2
  have sf := addS_fr (L := L) (c := nI (stepOf s)) (v := v) (g := gG)
  have hc : cG L gG gG' := ⟨fun a a1 a2 a3 a4 => (hca a a4).trans (sf.1 a a1 a2 a3 a4), fun k hk => (congrFun (hca 8 (by decide)) k).trans (sf.2.1 k hk), hk, fun i hi => ⟨(congrFun (hca 11 (by decide)) i).trans (sf.2.2.2 i hi).1, (congrFun (hca 12 (by decide)) i).trans (sf.2.2.2 i hi).2⟩⟩
  refine ⟨⟨hp, hms⟩, ⟨h13, hp', hG.2.2.1.cG hc, ?_, by omega⟩, hMx.aN (by omega), by omega, by omega, hend, SR.leaf ⟨s, hs, by omega, x1, ?_, fun q => ?_, fun q => ?_⟩ (fun s' e1 e2 => ?_), hc, hmx.trans (Nat.le_refl n) addN_fr⟩
  · rw [show n + 1 - n = 1 by omega, hca 8 (by decide)]; exact u3
  · rw [hca 11 (by decide)]; exact u1
  · obtain ⟨tok, t1, t2, t3, t4, t5, t6⟩ := hm q
    exact ⟨tok, t1, t2, t3, t4, by rw [hca 12 (by decide), u2, t5], fun z => by
      obtain ⟨m, m1, m2⟩ := t6 z
      exact ⟨m, m1, by rw [x2, m2]⟩⟩
  · obtain ⟨tok, t1, t2, t3, t4, t5⟩ := h31 q
    exact ⟨tok, t1, t2, t3, by rw [hca 12 (by decide), u2, t4], by rw [x2, t5]⟩
  · rw [x1] at e1
    have := (nI_eq (by omega) (by omega)).mp e1
    rw [← this]; exact ha
/-- the class's leaf of one token -/
theorem leaf_c {gG : G} {p L s : Nat} {R : Nat → Int32 → Int32 → G → Option (Int32 × G)} (hT : Toks T 0 K kd ps sz nm) (hG : PG T K B kd ps sz nm p L gG) (hpK : p < K) (hs : okB s = true) (hs64 : s < 64) (hk : kd p = s) : k0_value_128 R (nI (kap s)) gG = some (1, up (addS L (nI (kap s)) (nI p) gG) 13 2 (nI (p + 1))) := by
  have hK := hT.2.1
  have hL := hG.2.2.2.2
  obtain ⟨w1, w2, w3⟩ := hG.wr (c := nI (kap s)) (v := nI p)
  unfold k0_value_128
  rw [hG.1, write_c hG.2.2.2.1 (by omega), some_bind, take_c hT w1 hG.2.1 w2 (s := s) hs hs64 rfl, if_pos hk, some_bind]
  exact zr_01 (Or.inr rfl)
theorem v41_step {gm : G} {p n dep v f : Nat} {R : Nat → Int32 → Int32 → G → Option (Int32 × G)} (hT : Toks T 0 K kd ps sz nm) (hM : PM T K B kd ps sz nm p n dep gm) (hpK : p ≤ K) (hv : v ≤ 14) (hk : kd p ≠ v) : k11_value_41 R (f + 1) (nI v) gm = k11_value_41 R f (nI (v + 1)) gm := by
  conv => lhs; unfold k11_value_41
  rw [if_neg (Int32.not_lt.mpr ((le_lit (M := 14) (k := 14) rfl (by omega) (by omega)).mpr hv)), takes_m1 hT hM.1 hM.2.1 hpK hM.2.2.1 (s := v) (c := nI v) (by omega) rfl, if_neg hk, some_bind]
  dsimp only
  rw [if_pos rfl, bd_eq, nI_1]
theorem v41_hit {gm : G} {p n dep v f : Nat} {R : Nat → Int32 → Int32 → G → Option (Int32 × G)} (hT : Toks T 0 K kd ps sz nm) (hM : PM T K B kd ps sz nm p n dep gm) (hpK : p ≤ K) (hv : v ≤ 14) (hk : kd p = v) (hn : n < 800) : k11_value_41 R (f + 1) (nI v) gm = some (nI n, addN n (nI v) 0 0 (up gm 47 8 (nI (p + 1)))) := by
  conv => lhs; unfold k11_value_41
  rw [if_neg (Int32.not_lt.mpr ((le_lit (M := 14) (k := 14) rfl (by omega) (by omega)).mpr hv)), takes_m1 hT hM.1 hM.2.1 hpK hM.2.2.1 (s := v) (c := nI v) (by omega) rfl, if_pos hk, some_bind]
  dsimp only
  rw [if_neg (by decide), node_m (n := n) (by rw [up_other (by decide)]; exact hM.2.2.2.2.1) hn, some_bind]
/-- the reference's value, by the token -/
theorem val_m {gm : G} {p n dep f : Nat} (hT : Toks T 0 K kd ps sz nm) (hM : PM T K B kd ps sz nm p n dep gm) (hpK : p ≤ K) (h31 : kd p ≠ 31) (h12 : kd p ≠ 12) (h13 : kd p ≠ 13) (h14 : kd p ≠ 14) : kG1 (f + 1) 6 0 0 gm = k11_value_41 (kG1 f) 99997 15 gm := by
  show kb11_value (kG1 f) gm = _
  unfold kb11_value
  rw [is_m hT hM.1 hM.2.1 hpK hM.2.2.1 (s := 31) (c := 31) (by decide) rfl, if_neg h31, some_bind, if_pos rfl]
  show k11_value_41 (kG1 f) (99997 + 1 + 1 + 1) (nI 12) gm = _
  rw [v41_step hT hM hpK (by omega) h12, v41_step hT hM hpK (by omega) h13, v41_step hT hM hpK (by omega) h14]
  rfl
theorem meas_m {gm : G} {p n dep : Nat} (hT : Toks T 0 K kd ps sz nm) (hM : PM T K B kd ps sz nm p n dep gm) (hpK : p ≤ K) : k11_isMeasure gm = some (if kd p = 2 ∨ kd p = 1 ∨ kd p = 17 ∨ kd p = 15 ∨ kd p = 16 then 1 else 0) := by
  have i : ∀ s : Nat, s < 64 → k11_is (nI s) gm = some (if kd p = s then 1 else 0) := fun s hs => is_m hT hM.1 hM.2.1 hpK hM.2.2.1 (s := s) (c := nI s) hs rfl
  unfold k11_isMeasure
  rw [show k11_is 2 gm = _ from i 2 (by decide), show k11_is 1 gm = _ from i 1 (by decide), show k11_is 17 gm = _ from i 17 (by decide), show k11_is 15 gm = _ from i 15 (by decide), show k11_is 16 gm = _ from i 16 (by decide)]
  simp only [some_bind]
  by_cases e2 : kd p = 2
  · rw [if_pos e2, if_neg (by decide), if_pos (Or.inl e2)]
  · rw [if_neg e2, if_pos rfl]
    by_cases e1 : kd p = 1
    · rw [if_pos e1, if_neg (by decide), if_pos (Or.inr (Or.inl e1))]
    · rw [if_neg e1, if_pos rfl]
      by_cases e17 : kd p = 17
      · rw [if_pos e17, if_neg (by decide), if_pos (Or.inr (Or.inr (Or.inl e17)))]
      · rw [if_neg e17, if_pos rfl]
        by_cases e15 : kd p = 15
        · rw [if_pos e15, if_neg (by decide), if_pos (Or.inr (Or.inr (Or.inr (Or.inl e15))))]
        · rw [if_neg e15, if_pos rfl]
          by_cases e16 : kd p = 16
          · rw [if_pos e16, if_neg (by decide), if_pos (Or.inr (Or.inr (Or.inr (Or.inr e16))))]
          · rw [if_neg e16, if_pos rfl, if_neg (by omega)]
theorem deeper_m {gm : G} {p n dep : Nat} (hM : PM T K B kd ps sz nm p n dep gm) (hd : dep ≤ 8) : k11_deeper gm = some (if dep = 8 then up (wr p gm) 47 12 (nI (dep + 1)) else up (up gm 47 8 (nI (p + 1))) 47 12 (nI (dep + 1))) := by
  unfold k11_deeper k11_deeper_26
  rw [hM.2.2.2.1]
  by_cases e : dep = 8
  · rw [if_pos (by rw [e]; rfl), wrong_m hM.1 hM.2.1, some_bind, bd_eq, if_pos e]
    rw [show wr p gm 47 12 = nI dep by
      unfold wr
      rw [up_slot (by decide), up_slot (by decide), up_slot (by decide)]; exact hM.2.2.2.1, nI_1]
  · rw [if_neg (show ¬ nI dep = 8 from fun z => e ((nI_eq (a := dep) (b := 8) (by omega) (by omega)).mp z)), bd_eq, bd_eq, up_slot (by decide), hM.2.2.2.1, nI_1, hM.1, nI_1, if_neg e]
/-- both wrong at p itself -/
theorem fail_here {gG gm gm' : G} {p L n n' : Nat} (hG : PG T K B kd ps sz nm p L gG) (hw : WM p gm') (hn : gm' 66 12 = nI n') (h1 : n ≤ n') (h2 : n' ≤ n + 1) (hm : mG n gm gm') : Fail K L n p gG gm gG gm' p n' := ⟨Nat.le_refl _, hG.2.1, hG.1, hw, hn, h1, by omega, cG.refl, hm⟩
end TK
