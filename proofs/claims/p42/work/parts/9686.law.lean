/-! the law: two trains drawn, told and run -/
theorem k_cellL {S : ZS} {sL k : Nat} {sx : Nat → Int32} (hs : sL < 2 ^ 31) (hk : k < 100) : ∃ v, kL_cell sL sx (nI k) S = some (v, S) := by
  unfold kL_cell
  by_cases e : nI sL ≤ nI k
  · rw [if_pos e]
    exact ⟨_, chk_of rfl (Nat.le_refl _) (Nat.le_refl _)⟩
  · rw [if_neg e]
    rw [nI_leI hs (by omega)] at e
    have e0 : ¬ nI k < 0 := by
      rw [show (0 : Int32) = nI 0 from rfl, nI_ltI (by omega) (by omega)]
      omega
    unfold xld
    rw [nI_clamp (by omega), if_pos (fun z => z.elim e0 (fun y => e y))]
    exact ⟨_, chk_of rfl (Nat.le_refl _) (Nat.le_refl _)⟩
theorem x9_init {S : ZS} {c : Nat} {a : Int32} (h : OB S c 11) : ∃ S', kX9_init c a S = some S' ∧ Ste QDc 0 0 S S' := by
  have s1 : Ste QDc 0 0 S (S.wi (c / 2) 0 a) := Ste.wi (fun _ => h.2.2)
  refine ⟨_, ?_, s1⟩
  unfold kX9_init
  rw [pI_o h]
  exact chk_of rfl (Nat.le_refl _) (Nat.le_refl _)
theorem OLS.oa {S : ZS} {t N : Nat} {L : List (OR4 × List It)} (h : OLS S t N L.length L) (hL : L.length ≤ 4) : OA N S t (L.map Prod.fst) := by
  obtain ⟨h1, h2⟩ := h
  refine ⟨by rw [List.length_map]; exact h1 (by omega), fun k o hk => ?_⟩
  rw [List.getElem?_map] at hk
  obtain ⟨x, hx, rfl⟩ := Option.map_eq_some_iff.mp hk
  exact (h2 k x hx).s
/-- room for one round -/
def uR (u : Nat) : Nat := uD (u + 500 + 2830 * 8 + 82 + 700) 1667 + 180 + 180 + 180 + 180 + 180 + 180 + 2 + 30
theorem q9_c : big 400 (3 * 1667) := by unfold big; omega
theorem q9_w : big 30000 (18 * 1667) := by unfold big; omega
theorem Wv_ok {hw : Option Nat} (h : ∀ V, hw = some V → V ≤ 180) : 0 ≤ Wv hw ∧ Wv hw ≤ 180 := by
  cases hw with
  | none => exact ⟨by decide, by decide⟩
  | some V =>
    have := h V rfl
    show 0 ≤ nI V ∧ nI V ≤ 180
    rw [show (0 : Int32) = nI 0 from rfl, show (180 : Int32) = nI 180 from rfl, nI_leI (by omega) (by omega), nI_leI (by omega) (by omega)]
    omega
theorem notQD : (∀ q, QDc q → noT q) ∧ ¬ QDc 12 ∧ ¬ QDc 13 ∧ ¬ QDc 14 ∧ ∀ n, ¬ QDc (500000 + n) := ⟨fun q hq => by unfold QDc at hq; unfold noT; omega, by unfold QDc; omega, by unfold QDc; omega, by unfold QDc; omega, fun n => by unfold QDc; omega⟩
theorem RC.t11 {A : TA} {P : List OR4} {g : G} (h : RC A P g) : g 1 1 = 0 := h.2.2.2
