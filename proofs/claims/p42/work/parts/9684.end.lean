/-! a run's end: same as by hand, then a train of two mirrors -/
theorem law1118 {S : ZS} {sL : Nat} {sx : Nat → Int32} {K10 : Int32 → ZS → Option (Int32 × ZS)} {v2 v6 v8 v9 : Int32} (hq : 0 ≤ v8 ∨ v9 ≤ 0 ∨ 100 ≤ v6) (hK : Ret (K10 (v2 + 1) S) S) : Ret (kL_law_1118 sL sx K10 v2 v6 v8 v9 S) S := by
  unfold kL_law_1118
  by_cases e1 : 0 ≤ v8
  · rw [if_pos e1]; exact hK
  · rw [if_neg e1]
    by_cases e2 : v9 ≤ 0
    · rw [if_pos e2]; exact hK
    · rw [if_neg e2]
      by_cases e3 : 100 ≤ v6
      · rw [if_pos e3]; exact hK
      · rcases hq with z | z | z
        · exact absurd z e1
        · exact absurd z e2
        · exact absurd z e3
theorem CX.rc {S : ZS} {B : TA} {k : Nat} (h : CX S B k) : RC B [] S.g := h.1
theorem good0 {N : Nat} : ∀ o, o ∈ ([] : List OR4) → goodO N o := fun o h => by cases h
/-- behind the second text -/
theorem law_two {S : ZS} {sL u c o : Nat} {sx : Nat → Int32} {K10 : Int32 → ZS → Option (Int32 × ZS)} {v2 : Int32} (hE : endP c o) (hK : ∀ S', RM S' u → S'.g 1 1 = 0 → Ret (K10 (v2 + 1) S') S') (h : CX S (twoA c o) (u + 4)) : Ret (clI S (k8_bestToClean S.g) fun x264 S265 => clI S265 (k8_lightAtEnd S265.g) fun x266 S267 => if x264 < 0 then kL_law_1118 sL sx K10 v2 (nI c) x264 x266 S267 else clR Prod.snd S267 3 18 (k8_orderJob x264 0 S267.g) fun x269 S270 => if x269 = 1 then clR Prod.snd S270 3 18 (k8_minutesUntilDone 0 S270.g) fun x272 S273 => clR Prod.snd S273 3 18 (k8_passMinutes x272 S273.g) fun x274 S275 => if x274 = 1 then clI S275 (k8_lightAtEnd S275.g) fun x277 S278 => if x277 ≤ x266 then some (0, S278) else clR Prod.snd S278 3 18 (k8_clarityOf x264 S278.g) fun x280 S281 => if x280 = 100 then kL_law_1118 sL sx K10 v2 (nI c) x264 x266 S281 else some (0, S281) else some (0, S275) else some (0, S270)) S := by
  have hk : ∀ S' B, CX S' B u → Ret (K10 (v2 + 1) S') S' := fun S' B k => hK S' k.2 k.1.2.2.2
  refine cx_clI h (q_bestToClean h.1) (fun S1 h1 => ?_)
  refine cx_clI h1 (q_lightAtEnd h1.1) (fun S2 h2 => ?_)
  have e2 : (twoA c o).N = 2 := rfl
  rw [e2]
  rcases hE with ⟨z1, z2⟩ | ⟨m, k, z, hm, hb, k1, k2, hn, hd, hl, hc⟩
  · rw [if_pos z1]
    exact law1118 (Or.inr z2) (hk S2 _ ⟨h2.1, h2.2.le (by omega)⟩)
  · rw [if_neg z, hb]
    have eJ : (ordA (twoA c o) (nI 0) m).J = 1 := rfl
    have eN : (ordA (twoA c o) (nI 0) m).N = 2 := rfl
    obtain ⟨g', e, v, o1, o2, -, o4⟩ := q_orderJob (k := 0) h2.1 (by rw [e2]; exact hm) (by omega)
    obtain ⟨o5, o6⟩ := o4 (by
      have : jhas (twoA c o) (nI 0) m = false := rfl
      rw [this]; exact Bool.false_ne_true) (by show ¬ 12 ≤ 0; omega)
    rw [o5, o6] at o1
    refine cx_clR (k := u + 3) h2 ⟨g', o1, o2⟩ (fun S3 h3 => ?_)
    rw [if_pos (show nI ((twoA c o).J + 1) = 1 from rfl)]
    obtain ⟨A1, hA1⟩ : ∃ z, z = ordA (twoA c o) (nI 0) m := ⟨_, rfl⟩
    rw [← hA1] at h3 eJ eN hn hd hl hc
    refine cx_clR (k := u + 2) (B' := A1) (v := nI k) h3 ?_ (fun S4 h4 => ?_)
    · obtain ⟨g4, y1, y2⟩ := q_minutesUntilDone (k := 0) h3.1 good0 (by rw [eJ]; omega)
      exact ⟨g4, by rw [← hn]; exact y1, y2⟩
    · refine cx_clR (k := u + 1) (B' := minN [] k A1) (v := 1) h4 ?_ (fun S5 h5 => ?_)
      · obtain ⟨g5, y1, y2⟩ := q_passMinutes h4.1 good0 k1 k2
        exact ⟨g5, by rw [← hd]; exact y1, y2⟩
      · have eN2 : (minN [] k A1).N = 2 := (minN_N k A1).trans eN
        rw [if_pos rfl]
        refine cx_clI h5 (q_lightAtEnd h5.1) (fun S6 h6 => ?_)
        rw [eN2, if_neg hl]
        refine cx_clR (k := u) (B' := minN [] k A1) (v := 100) h6 ?_ (fun S7 h7 => ?_)
        · obtain ⟨g7, y1, y2⟩ := q_clarityOf h6.1 (m := m) (by rw [eN2]; exact hm)
          exact ⟨g7, by rw [← hc]; exact y1, y2⟩
        · rw [if_pos rfl]
          exact law1118 (Or.inl (by
            rcases (show m = 0 ∨ m = 1 by omega) with q | q <;> rw [q] <;> decide)) (hk S7 _ h7)
