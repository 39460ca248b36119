/-! a few more rows: iinc, switches, answers that are true or false -/
theorem lk_def : ∀ (ps : List (Int × Int)) (d z : Int), (∀ q ∈ ps, q.1 ≠ z) → Op.lookupswitch.offset ps d z = d := by
  intro ps
  induction ps with
  | nil => intro d z _; rfl
  | cons q ps ih =>
    intro d z h
    obtain ⟨a, o⟩ := q
    rw [Op.lookupswitch.offset_cons, if_neg (h _ List.mem_cons_self)]
    exact ih d z (fun q hq => h q (List.mem_cons_of_mem _ hq))
theorem nei {x k : Int32} {z : Int} (h : ¬ x = k) (hz : k.toInt = z) : z ≠ x.toInt := fun q => h (Int32.toInt_inj.mp (by rw [hz, q]))
theorem fa_c {q : Int × Int} {z : Int} {ps : List (Int × Int)} (h : q.1 ≠ z) (t : ∀ q ∈ ps, q.1 ≠ z) : ∀ w ∈ q :: ps, w.1 ≠ z := fun w hw => by
  rcases List.mem_cons.mp hw with rfl | hw
  · exact h
  · exact t w hw
theorem fa_n {z : Int} : ∀ w ∈ ([] : List (Int × Int)), w.1 ≠ z := fun _ h => absurd h List.not_mem_nil
theorem tab_out {x : Int32} {lo hi : Int} (n : Nat) (hn : hi - lo < n) (h : ∀ j : Nat, j < n → lo + (j : Int) ≠ x.toInt) : x.toInt < lo ∨ hi < x.toInt := by
  rcases Int.lt_or_le x.toInt lo with a | a
  · exact Or.inl a
  · rcases Int.lt_or_le hi x.toInt with b | b
    · exact Or.inr b
    · exact absurd (show lo + ((x.toInt - lo).toNat : Int) = x.toInt by omega) (h _ (by omega))
/-- a method that answers true or false, by a number that is not written out -/
def zr (v : Int32) (g : G) : Option (Int32 × G) := if v = 0 ∨ v = 1 then some (v, g) else none
theorem zr_inv {v : Int32} {g : G} {u : Int32 × G} (h : zr v g = some u) : narrow .boolean (.int v) = .int v ∧ some (v, g) = some u := by
  unfold zr at h
  by_cases hc : v = 0 ∨ v = 1
  · rw [if_pos hc] at h
    refine ⟨?_, h⟩
    rcases hc with rfl | rfl <;> rfl
  · rw [if_neg hc] at h; cases h
section ROWS2
variable {p : Program} {l : Launch} {e : Env} {R : Room} {s : State} {m : MethodId} {args : Array Value} {below : List Frame} {meth : Method} {c : Code} {H : Heap} {locs : List Loc} {cells slots : Nat} {Q : State → Prop} {cc : ByteArray} {n : Nat} {own : String} {E : EV} {pc : Nat} {ls : Array Slot} {rest st : List Value} {g : G} {xs : va_W} {ρ : Type} {r : ρ}
theorem r_iinc (C : Cx p s m args meth c cc n own E) {i k : Nat} {n0 : Int} {x w : Int32} {lv : List (Nat × Value)} {lv' : Int32 → List (Nat × Value)} (hd : decode cc pc = .ok (.iinc i n0, 3)) (hl : lv_has ls n lv) (hk : lv[k]? = some (i, .int x)) (hw : Int32.ofInt n0 = w) (hn : i < n) (hl' : ∀ y : Int32, (i, Value.int y) :: lv.filter (fun q => !(q.1 == i) && !(q.1 + 1 == i && q.2.category == 2)) = lv' y) {fn : Int32 → Option ρ} (h : bd (x + w) fn = some r)
    (kk : ∀ (y : Int32) (ls' : Array Slot), lv_has ls' n (lv' y) → fn y = some r → W p l e R s m args below meth c H locs cells slots Q (F0 m (pc + 3) ls' rest)) : W p l e R s m args below meth c H locs cells slots Q (F0 m pc ls rest) :=
  lv_iinc C.1 C.2.1 hd hl hk (by rw [hw]) hn (hl' _) (fun ls' a => kk _ ls' a h)
theorem r_zret (C : Cx p s m args meth c cc n own E) (hG : Gd E s H locs g []) (hr : meth.sig.returnType = some .boolean) {v : Int32} {u : Int32 × G} (hd : decode cc pc = .ok (.ireturn, 1)) (h : zr v g = some u) : W p l e R s m args below meth c H locs cells slots (MQ below (QI E s.heap.size u.1 u.2) args s cells slots (AA E s.heap.size)) (F0 m pc ls [.int v]) :=
  r_iret C hG hr (zr_inv h).1 hd (zr_inv h).2
end ROWS2
