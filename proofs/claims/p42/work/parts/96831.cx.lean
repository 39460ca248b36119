/-! the class alone: what it answers at the run's end -/
def CX (S : ZS) (B : TA) (k : Nat) : Prop := RC B [] S.g ∧ RM S k
theorem cx_clR {S : ZS} {k : Nat} {B B' : TA} {z : Option XR} {v : Int32} {f : Int32 → ZS → Option (Int32 × ZS)} (h : CX S B (k + 1)) (hz : ∃ g', z = some (0, v, g') ∧ RC B' [] g') (K : ∀ S', CX S' B' k → Ret (f v S') S') : Ret (clR Prod.snd S 3 18 z f) S := by
  obtain ⟨g', e, hr⟩ := hz
  have h1 : CX ((S.wg g').use 3 18) B' k := ⟨hr, h.2.use (n := 1) (by omega) (by omega) (by omega)⟩
  obtain ⟨S', k1, k2, k3⟩ := K _ h1
  obtain ⟨m1, m2⟩ := h.2
  refine ⟨S', ?_, Nat.le_trans k2 (Nat.sub_le _ _), Nat.le_trans k3 (Nat.sub_le _ _)⟩
  unfold clR
  rw [if_pos ⟨by omega, by omega⟩, e]
  show (if (0 : Nat) = 0 then chk Prod.snd ((S.wg g').use 3 18) (f v ((S.wg g').use 3 18)) else none) = _
  rw [if_pos rfl]
  exact chk_of k1 k2 k3
theorem cx_clI {α : Type} {S : ZS} {k : Nat} {B B' : TA} {z : Option (α × G)} {v : α} {f : α → ZS → Option (Int32 × ZS)} (h : CX S B k) (hz : ∃ g', z = some (v, g') ∧ RC B' [] g') (K : ∀ S', CX S' B' k → Ret (f v S') S') : Ret (clI S z f) S := by
  obtain ⟨g', e, hr⟩ := hz
  obtain ⟨S', k1, k2, k3⟩ := K (S.wg g') ⟨hr, h.2⟩
  refine ⟨S', ?_, k2, k3⟩
  rw [e]
  exact k1
