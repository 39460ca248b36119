/-! the text of the train of two mirrors -/
def twoM (c o : Nat) : List (List Int32 × Mi) := [([97], (c, false, 0)), ([98], (o, false, 1))]
theorem e70 : sB 70 = sB 0 ++ ([32] ++ ([97] ++ ([32] ++ (sB 1 ++ [32])))) := by decide +kernel
theorem e71 : sB 71 = [32] ++ (sB 2 ++ ([32] ++ (dc 0 ++ ([59] ++ (sB 0 ++ ([32] ++ ([98] ++ ([32] ++ (sB 1 ++ [32]))))))))) := by decide +kernel
theorem e72 : sB 72 = [32] ++ (sB 2 ++ ([32] ++ (dc 1 ++ [59]))) := by decide +kernel
theorem two_spl {c o : Nat} : sB 70 ++ (dc c ++ (sB 71 ++ (dc o ++ sB 72))) = spl (allN none none (twoM c o) []) := by
  have e : spl (allN none none (twoM c o) []) = sB 0 ++ ([32] ++ ([97] ++ ([32] ++ (sB 1 ++ ([32] ++ (dc c ++ ([32] ++ (sB 2 ++ ([32] ++ (dc 0 ++ ([59] ++ (sB 0 ++ ([32] ++ ([98] ++ ([32] ++ (sB 1 ++ ([32] ++ (dc o ++ ([32] ++ (sB 2 ++ ([32] ++ (dc 1 ++ ([59] ++ []))))))))))))))))))))))) := rfl
  rw [e, e70, e71, e72]
  simp only [List.append_assoc, List.append_nil]
theorem okNw_a : okNw [97] := fun b hb => Or.inr ⟨Or.inr (Or.inr (Or.inl rfl)), fun _ => hb, fun z => by rcases z with z | z <;> cases z⟩
theorem okNw_b : okNw [98] := fun b hb => Or.inr ⟨Or.inr (Or.inr (Or.inr (Or.inl rfl))), fun _ => hb, fun z => by rcases z with z | z <;> cases z⟩
theorem two_txt {c o : Nat} (hc : c ≤ 100) (ho : o ≤ 100) : TXT 0 none none (twoM c o) [] := by
  have hm : ∀ y, y ∈ twoM c o → okNw y.1 ∧ miOK y.2 := fun y hy => by
    rcases List.mem_cons.mp hy with e | e
    · rw [e]; exact ⟨okNw_a, hc, Nat.zero_le _⟩
    · rw [List.mem_singleton.mp e]; exact ⟨okNw_b, ho, by show 1 ≤ 90; decide⟩
  obtain ⟨c1, c2⟩ := all_cnt (N := 0) (hw := none) (hl := none) (M := twoM c o) (L := []) (fun y hy => by cases hy) (Nat.zero_le _) (by show 2 ≤ 7; decide)
  refine ⟨by show 2 ≤ 10; decide, fun i j w h1 h2 => ?_, fun y hy => (hm y hy).2, Nat.zero_le _, (fun y hy => by cases hy), fun n hn => absurd hn (Nat.not_lt_zero _), (fun V h => by cases h), (fun V h => by cases h), all_oe (N := 0) (by omega) (fun y hy => by cases hy) hm (fun V h => by cases h) (fun V h => by cases h), c1, c2⟩
  have h1 : ([[97], [98]] : List (List Int32))[i]? = some w := h1
  have h2 : ([[97], [98]] : List (List Int32))[j]? = some w := h2
  have key : ∀ k, ([[97], [98]] : List (List Int32))[k]? = some w → (k = 0 ∧ w = [97]) ∨ (k = 1 ∧ w = [98]) := fun k h => by
    cases k with
    | zero => exact Or.inl ⟨rfl, by simpa using h.symm⟩
    | succ k =>
      cases k with
      | zero => exact Or.inr ⟨rfl, by simpa using h.symm⟩
      | succ k => simp at h
  rcases key i h1 with ⟨a, e⟩ | ⟨a, e⟩ <;> rcases key j h2 with ⟨a', e'⟩ | ⟨a', e'⟩
  · omega
  · rw [e] at e'; cases e'
  · rw [e] at e'; cases e'
  · omega
