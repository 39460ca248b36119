/-- Preconditions.checkIndex, the third argument null or a reference -/
def kJ3_checkIndex (a0 a1 : Int32) : Option Int32 := if a0 < 0 then none else if a0 < a1 then some a0 else none
set_option maxRecDepth 100000 in
set_option maxHeartbeats 4000000 in
theorem mJ3_checkIndex (E : EV) (l : Launch) (a0 a1 : Int32) (w : Value) (hw : w.category = 1) (g : G) : ∀ u, kJ3_checkIndex a0 a1 = some u → MI E l yJ3_checkIndex_8e157 cJ3_checkIndex_8e157 3 (some .int) 0 0 0 [.int a0, .int a1, w] g (u, g) := by
  intro u h
  refine MG.of (by decide +kernel) (by cases w <;> first | exact Nat.le_of_ble_eq_true rfl | cases hw) ?_
  intro p e s m args below meth c C hr hnm ls hl hG
  have C : Cx p s m args meth c cJ3_checkIndex_8e157 3 RJ3 E := C
  have hx := C.1
  have hb := C.2.1
  have hl : lv_has ls 3 [(0, .int a0), (1, .int a1), (2, w)] := hl
  unfold kJ3_checkIndex at h
  refine lv_iload_n hx hb dJ3_checkIndex_8e157_0 rfl (lv_at hl 0 rfl) ?_
  refine lv_if_lt (tgt := 9) hx hb dJ3_checkIndex_8e157_1 (by decide) (fun c1 => ?_) (fun c1 => ?_)
  · have h := (if_inv h).1 c1
    cases h
  · have h := (if_inv h).2 c1
    refine lv_iload_n hx hb dJ3_checkIndex_8e157_4 rfl (lv_at hl 0 rfl) ?_
    refine lv_iload_n hx hb dJ3_checkIndex_8e157_5 rfl (lv_at hl 1 rfl) ?_
    refine lv_icmp_lt (tgt := 16) hx hb dJ3_checkIndex_8e157_6 (by decide) (fun c2 => ?_) (fun c2 => ?_)
    · have h := (if_inv h).1 c2
      refine lv_iload_n hx hb dJ3_checkIndex_8e157_16 rfl (lv_at hl 0 rfl) ?_
      exact r_iretP C hG hr rfl dJ3_checkIndex_8e157_17 h
    · have h := (if_inv h).2 c2
      cases h
def kJ0_checkIndex_df160 (a0 a1 : Int32) (g : G) : Option Unit := (kJ3_checkIndex a0 a1).bind fun _ => some ()
set_option maxRecDepth 100000 in
set_option maxHeartbeats 4000000 in
theorem mJ0_checkIndex_df160 (E : EV) (l : Launch) (a0 a1 : Int32) (g : G) : ∀ u, kJ0_checkIndex_df160 a0 a1 g = some u → MV E l yJ0_checkIndex_df160 cJ0_checkIndex_df160 2 none 1 0 0 [.int a0, .int a1] g g := by
  intro u h
  refine MG.of (by decide +kernel) (Nat.le_of_ble_eq_true rfl) ?_
  intro p e s m args below meth c C hr hnm ls hl hG
  have C : Cx p s m args meth c cJ0_checkIndex_df160 2 RJ0 E := C
  have hx := C.1
  have hb := C.2.1
  have hl : lv_has ls 2 [(0, .int a0), (1, .int a1)] := hl
  unfold kJ0_checkIndex_df160 at h
  refine lv_iload_n hx hb dJ0_checkIndex_df160_0 rfl (lv_at hl 0 rfl) ?_
  refine lv_iload_n hx hb dJ0_checkIndex_df160_1 rfl (lv_at hl 1 rfl) ?_
  rcases C.oo.2.1.narrow C.na with hZ | ⟨t, hZ⟩
  · refine va_gets hx hb hZ hG.2.2 C.2.2.2.1 (C.2.2.2.2.1 _ FJ0_1053) (fun _ h9 => h9) dJ0_checkIndex_df160_2 ?_
    refine r_callSIP C hl.1 hG [.int a0, .int a1, .null] [] (mJ3_checkIndex E l a0 a1 .null rfl g) LJ0_1059 rfl (rm_ok (by decide) (by decide)) (Nat.le_of_ble_eq_true rfl) ⟨Nat.le_refl _, Nat.le_refl _⟩ rfl dJ0_checkIndex_df160_5 h (fun u1 H locs hG h => ?_)
    refine lv_pop hx hb dJ0_checkIndex_df160_8 rfl ?_
    exact r_vret (u := g) C hG hr dJ0_checkIndex_df160_9 rfl
  · refine va_gets hx hb hZ hG.2.2 C.2.2.2.1 (C.2.2.2.2.1 _ FJ0_1053) (fun _ h9 => h9) dJ0_checkIndex_df160_2 ?_
    refine r_callSIP C hl.1 hG [.int a0, .int a1, .ref t] [] (mJ3_checkIndex E l a0 a1 (.ref t) rfl g) LJ0_1059 rfl (rm_ok (by decide) (by decide)) (Nat.le_of_ble_eq_true rfl) ⟨Nat.le_refl _, Nat.le_refl _⟩ rfl dJ0_checkIndex_df160_5 h (fun u1 H locs hG h => ?_)
    refine lv_pop hx hb dJ0_checkIndex_df160_8 rfl ?_
    exact r_vret (u := g) C hG hr dJ0_checkIndex_df160_9 rfl
