theorem LL_7 : MLV RL 7 yX8_feed cX8_feed 6 (some .int) 5 ∧ Cond.methodLink RL 7 yX8_feed ∈ TB := ⟨⟨(mTBi 986 (by decide +kernel) rfl), (mTBi 85 (by decide +kernel) rfl), (mTBi 984 (by decide +kernel) rfl), (mTBi 985 (by decide +kernel) rfl), by unfold hdOk; decide +kernel, Or.inl (mTBi 983 (by decide +kernel) rfl)⟩, (mTBi 983 (by decide +kernel) rfl)⟩
theorem LL_15 : MLV RL 15 yX8_trim cX8_trim 2 (some .int) 1 ∧ Cond.methodLink RL 15 yX8_trim ∈ TB := ⟨⟨(mTBi 1065 (by decide +kernel) rfl), (mTBi 85 (by decide +kernel) rfl), (mTBi 1063 (by decide +kernel) rfl), (mTBi 1064 (by decide +kernel) rfl), by unfold hdOk; decide +kernel, Or.inl (mTBi 1062 (by decide +kernel) rfl)⟩, (mTBi 1062 (by decide +kernel) rfl)⟩
theorem LL_21 : MLV RL 21 yX8_worstMirror cX8_worstMirror 1 (some .int) 0 ∧ Cond.methodLink RL 21 yX8_worstMirror ∈ TB := ⟨⟨(mTBi 1088 (by decide +kernel) rfl), (mTBi 85 (by decide +kernel) rfl), (mTBi 1086 (by decide +kernel) rfl), (mTBi 1087 (by decide +kernel) rfl), by unfold hdOk; decide +kernel, Or.inl (mTBi 1085 (by decide +kernel) rfl)⟩, (mTBi 1085 (by decide +kernel) rfl)⟩
theorem LL_25 : MLV RL 25 yX8_clarityOf cX8_clarityOf 2 (some .int) 1 ∧ Cond.methodLink RL 25 yX8_clarityOf ∈ TB := ⟨⟨(mTBi 1101 (by decide +kernel) rfl), (mTBi 85 (by decide +kernel) rfl), (mTBi 1099 (by decide +kernel) rfl), (mTBi 1100 (by decide +kernel) rfl), by unfold hdOk; decide +kernel, Or.inl (mTBi 1098 (by decide +kernel) rfl)⟩, (mTBi 1098 (by decide +kernel) rfl)⟩
theorem LL_30 : MLV RL 30 yX8_bestClarityOf cX8_bestClarityOf 2 (some .int) 1 ∧ Cond.methodLink RL 30 yX8_bestClarityOf ∈ TB := ⟨⟨(mTBi 1128 (by decide +kernel) rfl), (mTBi 85 (by decide +kernel) rfl), (mTBi 1126 (by decide +kernel) rfl), (mTBi 1127 (by decide +kernel) rfl), by unfold hdOk; decide +kernel, Or.inl (mTBi 1125 (by decide +kernel) rfl)⟩, (mTBi 1125 (by decide +kernel) rfl)⟩
theorem LL_33 : MLV RL 33 yX8_offsetOf cX8_offsetOf 2 (some .int) 1 ∧ Cond.methodLink RL 33 yX8_offsetOf ∈ TB := ⟨⟨(mTBi 1135 (by decide +kernel) rfl), (mTBi 85 (by decide +kernel) rfl), (mTBi 1133 (by decide +kernel) rfl), (mTBi 1134 (by decide +kernel) rfl), by unfold hdOk; decide +kernel, Or.inl (mTBi 1132 (by decide +kernel) rfl)⟩, (mTBi 1132 (by decide +kernel) rfl)⟩
theorem LL_36 : MLV RL 36 yX8_placeOf cX8_placeOf 2 (some .int) 1 ∧ Cond.methodLink RL 36 yX8_placeOf ∈ TB := ⟨⟨(mTBi 1142 (by decide +kernel) rfl), (mTBi 85 (by decide +kernel) rfl), (mTBi 1140 (by decide +kernel) rfl), (mTBi 1141 (by decide +kernel) rfl), by unfold hdOk; decide +kernel, Or.inl (mTBi 1139 (by decide +kernel) rfl)⟩, (mTBi 1139 (by decide +kernel) rfl)⟩
theorem LL_39 : MLV RL 39 yX8_lightBehind cX8_lightBehind 2 (some .int) 1 ∧ Cond.methodLink RL 39 yX8_lightBehind ∈ TB := ⟨⟨(mTBi 1149 (by decide +kernel) rfl), (mTBi 85 (by decide +kernel) rfl), (mTBi 1147 (by decide +kernel) rfl), (mTBi 1148 (by decide +kernel) rfl), by unfold hdOk; decide +kernel, Or.inl (mTBi 1146 (by decide +kernel) rfl)⟩, (mTBi 1146 (by decide +kernel) rfl)⟩
theorem LL_42 : MLV RL 42 yX8_lostAt cX8_lostAt 2 (some .int) 1 ∧ Cond.methodLink RL 42 yX8_lostAt ∈ TB := ⟨⟨(mTBi 1156 (by decide +kernel) rfl), (mTBi 85 (by decide +kernel) rfl), (mTBi 1154 (by decide +kernel) rfl), (mTBi 1155 (by decide +kernel) rfl), by unfold hdOk; decide +kernel, Or.inl (mTBi 1153 (by decide +kernel) rfl)⟩, (mTBi 1153 (by decide +kernel) rfl)⟩
theorem LL_45 : MLV RL 45 yX8_tiltBehind cX8_tiltBehind 2 (some .int) 1 ∧ Cond.methodLink RL 45 yX8_tiltBehind ∈ TB := ⟨⟨(mTBi 1163 (by decide +kernel) rfl), (mTBi 85 (by decide +kernel) rfl), (mTBi 1161 (by decide +kernel) rfl), (mTBi 1162 (by decide +kernel) rfl), by unfold hdOk; decide +kernel, Or.inl (mTBi 1160 (by decide +kernel) rfl)⟩, (mTBi 1160 (by decide +kernel) rfl)⟩
theorem LL_48 : MLV RL 48 yX8_isCovered cX8_isCovered 2 (some .boolean) 1 ∧ Cond.methodLink RL 48 yX8_isCovered ∈ TB := ⟨⟨(mTBi 1170 (by decide +kernel) rfl), (mTBi 85 (by decide +kernel) rfl), (mTBi 1168 (by decide +kernel) rfl), (mTBi 1169 (by decide +kernel) rfl), by unfold hdOk; decide +kernel, Or.inl (mTBi 1167 (by decide +kernel) rfl)⟩, (mTBi 1167 (by decide +kernel) rfl)⟩
theorem LL_52 : MLV RL 52 yX8_mirrorAt cX8_mirrorAt 2 (some .int) 1 ∧ Cond.methodLink RL 52 yX8_mirrorAt ∈ TB := ⟨⟨(mTBi 1177 (by decide +kernel) rfl), (mTBi 85 (by decide +kernel) rfl), (mTBi 1175 (by decide +kernel) rfl), (mTBi 1176 (by decide +kernel) rfl), by unfold hdOk; decide +kernel, Or.inl (mTBi 1174 (by decide +kernel) rfl)⟩, (mTBi 1174 (by decide +kernel) rfl)⟩
theorem LL_55 : MLV RL 55 yX8_kindOfJob cX8_kindOfJob 2 (some .int) 1 ∧ Cond.methodLink RL 55 yX8_kindOfJob ∈ TB := ⟨⟨(mTBi 1186 (by decide +kernel) rfl), (mTBi 85 (by decide +kernel) rfl), (mTBi 1184 (by decide +kernel) rfl), (mTBi 1185 (by decide +kernel) rfl), by unfold hdOk; decide +kernel, Or.inl (mTBi 1183 (by decide +kernel) rfl)⟩, (mTBi 1183 (by decide +kernel) rfl)⟩
theorem LL_58 : MLV RL 58 yX8_mirrorOfJob cX8_mirrorOfJob 2 (some .int) 1 ∧ Cond.methodLink RL 58 yX8_mirrorOfJob ∈ TB := ⟨⟨(mTBi 1198 (by decide +kernel) rfl), (mTBi 85 (by decide +kernel) rfl), (mTBi 1196 (by decide +kernel) rfl), (mTBi 1197 (by decide +kernel) rfl), by unfold hdOk; decide +kernel, Or.inl (mTBi 1195 (by decide +kernel) rfl)⟩, (mTBi 1195 (by decide +kernel) rfl)⟩
theorem LL_61 : MLV RL 61 yX8_orderJob cX8_orderJob 3 (some .int) 2 ∧ Cond.methodLink RL 61 yX8_orderJob ∈ TB := ⟨⟨(mTBi 1205 (by decide +kernel) rfl), (mTBi 85 (by decide +kernel) rfl), (mTBi 1203 (by decide +kernel) rfl), (mTBi 1204 (by decide +kernel) rfl), by unfold hdOk; decide +kernel, Or.inl (mTBi 1202 (by decide +kernel) rfl)⟩, (mTBi 1202 (by decide +kernel) rfl)⟩
theorem LL_65 : MLV RL 65 yX8_cancelJob cX8_cancelJob 3 (some .int) 1 ∧ Cond.methodLink RL 65 yX8_cancelJob ∈ TB := ⟨⟨(mTBi 1216 (by decide +kernel) rfl), (mTBi 85 (by decide +kernel) rfl), (mTBi 1214 (by decide +kernel) rfl), (mTBi 1215 (by decide +kernel) rfl), by unfold hdOk; decide +kernel, Or.inl (mTBi 1213 (by decide +kernel) rfl)⟩, (mTBi 1213 (by decide +kernel) rfl)⟩
theorem LL_68 : MLV RL 68 yX8_turnMirror cX8_turnMirror 4 (some .int) 2 ∧ Cond.methodLink RL 68 yX8_turnMirror ∈ TB := ⟨⟨(mTBi 1224 (by decide +kernel) rfl), (mTBi 85 (by decide +kernel) rfl), (mTBi 1222 (by decide +kernel) rfl), (mTBi 1223 (by decide +kernel) rfl), by unfold hdOk; decide +kernel, Or.inl (mTBi 1221 (by decide +kernel) rfl)⟩, (mTBi 1221 (by decide +kernel) rfl)⟩
theorem LL_71 : MLV RL 71 yX8_dustMirror cX8_dustMirror 3 (some .int) 2 ∧ Cond.methodLink RL 71 yX8_dustMirror ∈ TB := ⟨⟨(mTBi 1233 (by decide +kernel) rfl), (mTBi 85 (by decide +kernel) rfl), (mTBi 1231 (by decide +kernel) rfl), (mTBi 1232 (by decide +kernel) rfl), by unfold hdOk; decide +kernel, Or.inl (mTBi 1230 (by decide +kernel) rfl)⟩, (mTBi 1230 (by decide +kernel) rfl)⟩
theorem LL_74 : MLV RL 74 yX8_moveMirror cX8_moveMirror 4 (some .int) 2 ∧ Cond.methodLink RL 74 yX8_moveMirror ∈ TB := ⟨⟨(mTBi 1242 (by decide +kernel) rfl), (mTBi 85 (by decide +kernel) rfl), (mTBi 1240 (by decide +kernel) rfl), (mTBi 1241 (by decide +kernel) rfl), by unfold hdOk; decide +kernel, Or.inl (mTBi 1239 (by decide +kernel) rfl)⟩, (mTBi 1239 (by decide +kernel) rfl)⟩
theorem LL_77 : MLV RL 77 yX8_passMinutes cX8_passMinutes 3 (some .int) 1 ∧ Cond.methodLink RL 77 yX8_passMinutes ∈ TB := ⟨⟨(mTBi 1254 (by decide +kernel) rfl), (mTBi 85 (by decide +kernel) rfl), (mTBi 1252 (by decide +kernel) rfl), (mTBi 1253 (by decide +kernel) rfl), by unfold hdOk; decide +kernel, Or.inl (mTBi 1251 (by decide +kernel) rfl)⟩, (mTBi 1251 (by decide +kernel) rfl)⟩
theorem LL_80 : MLV RL 80 yX8_lightAfter cX8_lightAfter 2 (some .int) 1 ∧ Cond.methodLink RL 80 yX8_lightAfter ∈ TB := ⟨⟨(mTBi 1265 (by decide +kernel) rfl), (mTBi 85 (by decide +kernel) rfl), (mTBi 1263 (by decide +kernel) rfl), (mTBi 1264 (by decide +kernel) rfl), by unfold hdOk; decide +kernel, Or.inl (mTBi 1262 (by decide +kernel) rfl)⟩, (mTBi 1262 (by decide +kernel) rfl)⟩
theorem LL_83 : MLV RL 83 yX8_minutesUntilDone cX8_minutesUntilDone 4 (some .int) 1 ∧ Cond.methodLink RL 83 yX8_minutesUntilDone ∈ TB := ⟨⟨(mTBi 1272 (by decide +kernel) rfl), (mTBi 85 (by decide +kernel) rfl), (mTBi 1270 (by decide +kernel) rfl), (mTBi 1271 (by decide +kernel) rfl), by unfold hdOk; decide +kernel, Or.inl (mTBi 1269 (by decide +kernel) rfl)⟩, (mTBi 1269 (by decide +kernel) rfl)⟩
theorem LL_86 : MLV RL 86 yX8_bestOffset cX8_bestOffset 7 (some .int) 1 ∧ Cond.methodLink RL 86 yX8_bestOffset ∈ TB := ⟨⟨(mTBi 1279 (by decide +kernel) rfl), (mTBi 85 (by decide +kernel) rfl), (mTBi 1277 (by decide +kernel) rfl), (mTBi 1278 (by decide +kernel) rfl), by unfold hdOk; decide +kernel, Or.inl (mTBi 1276 (by decide +kernel) rfl)⟩, (mTBi 1276 (by decide +kernel) rfl)⟩
theorem LKC_13 : Cond.classLink RL 13 (exN 1) ∈ TB := (mTBi 982 (by decide +kernel) rfl)
theorem LCA_1 : Cond.castable (exN 1) (exN 1) ∈ NB := (mNBi 905 (by decide +kernel) rfl)
theorem LKC_19 : Cond.classLink RL 19 (exN 2) ∈ TB := (mTBi 1061 (by decide +kernel) rfl)
theorem LCA_2 : Cond.castable (exN 2) (exN 2) ∈ NB := (mNBi 984 (by decide +kernel) rfl)
theorem LKC_28 : Cond.classLink RL 28 (exN 3) ∈ TB := (mTBi 1097 (by decide +kernel) rfl)
theorem LCA_3 : Cond.castable (exN 3) (exN 3) ∈ NB := (mNBi 1024 (by decide +kernel) rfl)
def w_feed (a1 : Int32) (a2 : Int32) (a3 : Int32) (a4 : Int32) (a5 : Int32) (g : G) (f : Nat → Int64) : Option WR := (k8_feed a1 a2 a3 a4 a5 g).bind fun w => wr1 1 w f w.2.1.toInt64
set_option maxRecDepth 100000 in
theorem v_feed (E : EV) (tL : ClassId) (ao : Nat) (l : Launch) (hst : l.stackTraces = false) (a1 : Int32) (a2 : Int32) (a3 : Int32) (a4 : Int32) (a5 : Int32) (g : G) (f : Nat → Int64) : ∀ u, w_feed a1 a2 a3 a4 a5 g f = some u → MO E tL ao l yL_feed cL_feed 8 [(0, 16, 19, 13)] [.ref (E.ad 0), .int a1, .int a2, .int a3, .int a4, .int a5, .ref ao] g f u := by
  intro u h
  obtain ⟨w, hw, h⟩ := bind_inv h
  refine MO.of (by decide +kernel) (Nat.le_of_ble_eq_true rfl) ?_
  intro p e s m args below meth c C ht hr hO ls hl hG
  have C : Cx p s m args meth c cL_feed 8 RL E := C
  have hx := C.1
  have hb := C.2.1
  have hl : lv_has ls 8 [(0, .ref (E.ad 0)), (1, .int a1), (2, .int a2), (3, .int a3), (4, .int a4), (5, .int a5), (6, .ref ao)] := hl
  refine lv_aload hx hb dL_feed_0 (lv_at hl 6 rfl) ?_
  refine lv_iconst (v := 0) hx hb dL_feed_2 (by decide) ?_
  refine lv_aload_n hx hb dL_feed_3 rfl (lv_at hl 0 rfl) ?_
  refine lv_iload_n hx hb dL_feed_4 rfl (lv_at hl 1 rfl) ?_
  refine lv_iload_n hx hb dL_feed_5 rfl (lv_at hl 2 rfl) ?_
  refine lv_iload_n hx hb dL_feed_6 rfl (lv_at hl 3 rfl) ?_
  refine lv_iload hx hb dL_feed_7 (lv_at hl 4 rfl) ?_
  refine lv_iload hx hb dL_feed_9 (lv_at hl 5 rfl) ?_
  refine o_call C hl.1 hO hG [.int a1, .int a2, .int a3, .int a4, .int a5] [.int 0, .ref ao] (m8_feed E l hst a1 a2 a3 a4 a5 g w hw) LL_7.1 LL_7.2 rfl KC8 rfl (rm_ok (by decide) (by decide)) (Nat.le_of_ble_eq_true rfl) ⟨Nat.le_of_ble_eq_true rfl, Nat.le_of_ble_eq_true rfl⟩ rfl dL_feed_11 (fun h0 H locs hG => ?_) (fun h0 H locs q ce hG hce hcv hcl => ?_)
  · unfold wr1 at h
    rw [if_pos h0] at h
    refine lv_i2l hx hb dL_feed_14 rfl ?_
    refine o_last C hO hG dL_feed_15 (fun H locs hG => ?_)
    refine lv_goto (tgt := 23) hx hb dL_feed_16 (by decide) ?_
    refine lv_iconst (v := 0) hx hb dL_feed_23 (by decide) ?_
    exact o_iret C hG hr dL_feed_24 ⟨Nat.le_of_ble_eq_true rfl, Nat.le_of_ble_eq_true rfl⟩ (Option.some.inj h)
  · unfold wr1 at h
    rw [if_neg h0] at h
    by_cases h1 : w.1 = 1
    · rw [if_pos h1] at h
      rw [h1] at hcl
      refine o_catch (k := 1) C hO ht [] (0, 16, 19, 13) [] rfl (by intro z hz; cases hz) (by decide) (by decide) (by decide) LKC_13 LCA_1 hce hcv hcl ?_
      refine lv_astore hx hb dL_feed_19 hl (by decide) rfl (fun ls hl => ?_)
      refine lv_iconst (v := 1) hx hb dL_feed_21 (by decide) ?_
      exact o_iret C hG hr dL_feed_22 ⟨Nat.le_of_ble_eq_true rfl, Nat.le_of_ble_eq_true rfl⟩ (Option.some.inj h)
    rw [if_neg h1] at h
    cases h
def w_trim (a1 : Int32) (g : G) (f : Nat → Int64) : Option WR := (k8_trim a1 g).bind fun w => wr1 2 w f w.2.1.toInt64
set_option maxRecDepth 100000 in
theorem v_trim (E : EV) (tL : ClassId) (ao : Nat) (l : Launch) (hst : l.stackTraces = false) (a1 : Int32) (g : G) (f : Nat → Int64) : ∀ u, w_trim a1 g f = some u → MO E tL ao l yL_trim cL_trim 4 [(0, 9, 12, 19)] [.ref (E.ad 0), .int a1, .ref ao] g f u := by
  intro u h
  obtain ⟨w, hw, h⟩ := bind_inv h
  refine MO.of (by decide +kernel) (Nat.le_of_ble_eq_true rfl) ?_
  intro p e s m args below meth c C ht hr hO ls hl hG
  have C : Cx p s m args meth c cL_trim 4 RL E := C
  have hx := C.1
  have hb := C.2.1
  have hl : lv_has ls 4 [(0, .ref (E.ad 0)), (1, .int a1), (2, .ref ao)] := hl
  refine lv_aload_n hx hb dL_trim_0 rfl (lv_at hl 2 rfl) ?_
  refine lv_iconst (v := 0) hx hb dL_trim_1 (by decide) ?_
  refine lv_aload_n hx hb dL_trim_2 rfl (lv_at hl 0 rfl) ?_
  refine lv_iload_n hx hb dL_trim_3 rfl (lv_at hl 1 rfl) ?_
  refine o_call C hl.1 hO hG [.int a1] [.int 0, .ref ao] (m8_trim E l hst a1 g w hw) LL_15.1 LL_15.2 rfl KC8 rfl (rm_ok (by decide) (by decide)) (Nat.le_of_ble_eq_true rfl) ⟨Nat.le_of_ble_eq_true rfl, Nat.le_of_ble_eq_true rfl⟩ rfl dL_trim_4 (fun h0 H locs hG => ?_) (fun h0 H locs q ce hG hce hcv hcl => ?_)
  · unfold wr1 at h
    rw [if_pos h0] at h
    refine lv_i2l hx hb dL_trim_7 rfl ?_
    refine o_last C hO hG dL_trim_8 (fun H locs hG => ?_)
    refine lv_goto (tgt := 15) hx hb dL_trim_9 (by decide) ?_
    refine lv_iconst (v := 0) hx hb dL_trim_15 (by decide) ?_
    exact o_iret C hG hr dL_trim_16 ⟨Nat.le_of_ble_eq_true rfl, Nat.le_of_ble_eq_true rfl⟩ (Option.some.inj h)
  · unfold wr1 at h
    rw [if_neg h0] at h
    by_cases h1 : w.1 = 2
    · rw [if_pos h1] at h
      rw [h1] at hcl
      refine o_catch (k := 2) C hO ht [] (0, 9, 12, 19) [] rfl (by intro z hz; cases hz) (by decide) (by decide) (by decide) LKC_19 LCA_2 hce hcv hcl ?_
      refine lv_astore_n hx hb dL_trim_12 rfl hl (by decide) rfl (fun ls hl => ?_)
      refine lv_iconst (v := 1) hx hb dL_trim_13 (by decide) ?_
      exact o_iret C hG hr dL_trim_14 ⟨Nat.le_of_ble_eq_true rfl, Nat.le_of_ble_eq_true rfl⟩ (Option.some.inj h)
    rw [if_neg h1] at h
    cases h
def w_worstMirror (g : G) (f : Nat → Int64) : Option WR := (k8_worstMirror g).bind fun w => wr1 1 w f w.2.1.toInt64
set_option maxRecDepth 100000 in
theorem v_worstMirror (E : EV) (tL : ClassId) (ao : Nat) (l : Launch) (hst : l.stackTraces = false) (g : G) (f : Nat → Int64) : ∀ u, w_worstMirror g f = some u → MO E tL ao l yL_worstMirror cL_worstMirror 3 [(0, 8, 11, 13)] [.ref (E.ad 0), .ref ao] g f u := by
  intro u h
  obtain ⟨w, hw, h⟩ := bind_inv h
  refine MO.of (by decide +kernel) (Nat.le_of_ble_eq_true rfl) ?_
  intro p e s m args below meth c C ht hr hO ls hl hG
  have C : Cx p s m args meth c cL_worstMirror 3 RL E := C
  have hx := C.1
  have hb := C.2.1
  have hl : lv_has ls 3 [(0, .ref (E.ad 0)), (1, .ref ao)] := hl
  refine lv_aload_n hx hb dL_worstMirror_0 rfl (lv_at hl 1 rfl) ?_
  refine lv_iconst (v := 0) hx hb dL_worstMirror_1 (by decide) ?_
  refine lv_aload_n hx hb dL_worstMirror_2 rfl (lv_at hl 0 rfl) ?_
  refine o_call C hl.1 hO hG [] [.int 0, .ref ao] (m8_worstMirror E l hst g w hw) LL_21.1 LL_21.2 rfl KC8 rfl (rm_ok (by decide) (by decide)) (Nat.le_of_ble_eq_true rfl) ⟨Nat.le_of_ble_eq_true rfl, Nat.le_of_ble_eq_true rfl⟩ rfl dL_worstMirror_3 (fun h0 H locs hG => ?_) (fun h0 H locs q ce hG hce hcv hcl => ?_)
  · unfold wr1 at h
    rw [if_pos h0] at h
    refine lv_i2l hx hb dL_worstMirror_6 rfl ?_
    refine o_last C hO hG dL_worstMirror_7 (fun H locs hG => ?_)
    refine lv_goto (tgt := 14) hx hb dL_worstMirror_8 (by decide) ?_
    refine lv_iconst (v := 0) hx hb dL_worstMirror_14 (by decide) ?_
    exact o_iret C hG hr dL_worstMirror_15 ⟨Nat.le_of_ble_eq_true rfl, Nat.le_of_ble_eq_true rfl⟩ (Option.some.inj h)
  · unfold wr1 at h
    rw [if_neg h0] at h
    by_cases h1 : w.1 = 1
    · rw [if_pos h1] at h
      rw [h1] at hcl
      refine o_catch (k := 1) C hO ht [] (0, 8, 11, 13) [] rfl (by intro z hz; cases hz) (by decide) (by decide) (by decide) LKC_13 LCA_1 hce hcv hcl ?_
      refine lv_astore_n hx hb dL_worstMirror_11 rfl hl (by decide) rfl (fun ls hl => ?_)
      refine lv_iconst (v := 1) hx hb dL_worstMirror_12 (by decide) ?_
      exact o_iret C hG hr dL_worstMirror_13 ⟨Nat.le_of_ble_eq_true rfl, Nat.le_of_ble_eq_true rfl⟩ (Option.some.inj h)
    rw [if_neg h1] at h
    cases h
def w_clarityOf (a1 : Int32) (g : G) (f : Nat → Int64) : Option WR := (k8_clarityOf a1 g).bind fun w => wr1 3 w f w.2.1.toInt64
set_option maxRecDepth 100000 in
theorem v_clarityOf (E : EV) (tL : ClassId) (ao : Nat) (l : Launch) (hst : l.stackTraces = false) (a1 : Int32) (g : G) (f : Nat → Int64) : ∀ u, w_clarityOf a1 g f = some u → MO E tL ao l yL_clarityOf cL_clarityOf 4 [(0, 9, 12, 28)] [.ref (E.ad 0), .int a1, .ref ao] g f u := by
  intro u h
  obtain ⟨w, hw, h⟩ := bind_inv h
  refine MO.of (by decide +kernel) (Nat.le_of_ble_eq_true rfl) ?_
  intro p e s m args below meth c C ht hr hO ls hl hG
  have C : Cx p s m args meth c cL_clarityOf 4 RL E := C
  have hx := C.1
  have hb := C.2.1
  have hl : lv_has ls 4 [(0, .ref (E.ad 0)), (1, .int a1), (2, .ref ao)] := hl
  refine lv_aload_n hx hb dL_clarityOf_0 rfl (lv_at hl 2 rfl) ?_
  refine lv_iconst (v := 0) hx hb dL_clarityOf_1 (by decide) ?_
  refine lv_aload_n hx hb dL_clarityOf_2 rfl (lv_at hl 0 rfl) ?_
  refine lv_iload_n hx hb dL_clarityOf_3 rfl (lv_at hl 1 rfl) ?_
  refine o_call C hl.1 hO hG [.int a1] [.int 0, .ref ao] (m8_clarityOf E l hst a1 g w hw) LL_25.1 LL_25.2 rfl KC8 rfl (rm_ok (by decide) (by decide)) (Nat.le_of_ble_eq_true rfl) ⟨Nat.le_of_ble_eq_true rfl, Nat.le_of_ble_eq_true rfl⟩ rfl dL_clarityOf_4 (fun h0 H locs hG => ?_) (fun h0 H locs q ce hG hce hcv hcl => ?_)
  · unfold wr1 at h
    rw [if_pos h0] at h
    refine lv_i2l hx hb dL_clarityOf_7 rfl ?_
    refine o_last C hO hG dL_clarityOf_8 (fun H locs hG => ?_)
    refine lv_goto (tgt := 15) hx hb dL_clarityOf_9 (by decide) ?_
    refine lv_iconst (v := 0) hx hb dL_clarityOf_15 (by decide) ?_
    exact o_iret C hG hr dL_clarityOf_16 ⟨Nat.le_of_ble_eq_true rfl, Nat.le_of_ble_eq_true rfl⟩ (Option.some.inj h)
  · unfold wr1 at h
    rw [if_neg h0] at h
    by_cases h1 : w.1 = 3
    · rw [if_pos h1] at h
      rw [h1] at hcl
      refine o_catch (k := 3) C hO ht [] (0, 9, 12, 28) [] rfl (by intro z hz; cases hz) (by decide) (by decide) (by decide) LKC_28 LCA_3 hce hcv hcl ?_
      refine lv_astore_n hx hb dL_clarityOf_12 rfl hl (by decide) rfl (fun ls hl => ?_)
      refine lv_iconst (v := 1) hx hb dL_clarityOf_13 (by decide) ?_
      exact o_iret C hG hr dL_clarityOf_14 ⟨Nat.le_of_ble_eq_true rfl, Nat.le_of_ble_eq_true rfl⟩ (Option.some.inj h)
    rw [if_neg h1] at h
    cases h
def w_bestClarityOf (a1 : Int32) (g : G) (f : Nat → Int64) : Option WR := (k8_bestClarityOf a1 g).bind fun w => wr1 3 w f w.2.1.toInt64
set_option maxRecDepth 100000 in
theorem v_bestClarityOf (E : EV) (tL : ClassId) (ao : Nat) (l : Launch) (hst : l.stackTraces = false) (a1 : Int32) (g : G) (f : Nat → Int64) : ∀ u, w_bestClarityOf a1 g f = some u → MO E tL ao l yL_bestClarityOf cL_bestClarityOf 4 [(0, 9, 12, 28)] [.ref (E.ad 0), .int a1, .ref ao] g f u := by
  intro u h
  obtain ⟨w, hw, h⟩ := bind_inv h
  refine MO.of (by decide +kernel) (Nat.le_of_ble_eq_true rfl) ?_
  intro p e s m args below meth c C ht hr hO ls hl hG
  have C : Cx p s m args meth c cL_bestClarityOf 4 RL E := C
  have hx := C.1
  have hb := C.2.1
  have hl : lv_has ls 4 [(0, .ref (E.ad 0)), (1, .int a1), (2, .ref ao)] := hl
  refine lv_aload_n hx hb dL_bestClarityOf_0 rfl (lv_at hl 2 rfl) ?_
  refine lv_iconst (v := 0) hx hb dL_bestClarityOf_1 (by decide) ?_
  refine lv_aload_n hx hb dL_bestClarityOf_2 rfl (lv_at hl 0 rfl) ?_
  refine lv_iload_n hx hb dL_bestClarityOf_3 rfl (lv_at hl 1 rfl) ?_
  refine o_call C hl.1 hO hG [.int a1] [.int 0, .ref ao] (m8_bestClarityOf E l hst a1 g w hw) LL_30.1 LL_30.2 rfl KC8 rfl (rm_ok (by decide) (by decide)) (Nat.le_of_ble_eq_true rfl) ⟨Nat.le_of_ble_eq_true rfl, Nat.le_of_ble_eq_true rfl⟩ rfl dL_bestClarityOf_4 (fun h0 H locs hG => ?_) (fun h0 H locs q ce hG hce hcv hcl => ?_)
  · unfold wr1 at h
    rw [if_pos h0] at h
    refine lv_i2l hx hb dL_bestClarityOf_7 rfl ?_
    refine o_last C hO hG dL_bestClarityOf_8 (fun H locs hG => ?_)
    refine lv_goto (tgt := 15) hx hb dL_bestClarityOf_9 (by decide) ?_
    refine lv_iconst (v := 0) hx hb dL_bestClarityOf_15 (by decide) ?_
    exact o_iret C hG hr dL_bestClarityOf_16 ⟨Nat.le_of_ble_eq_true rfl, Nat.le_of_ble_eq_true rfl⟩ (Option.some.inj h)
  · unfold wr1 at h
    rw [if_neg h0] at h
    by_cases h1 : w.1 = 3
    · rw [if_pos h1] at h
      rw [h1] at hcl
      refine o_catch (k := 3) C hO ht [] (0, 9, 12, 28) [] rfl (by intro z hz; cases hz) (by decide) (by decide) (by decide) LKC_28 LCA_3 hce hcv hcl ?_
      refine lv_astore_n hx hb dL_bestClarityOf_12 rfl hl (by decide) rfl (fun ls hl => ?_)
      refine lv_iconst (v := 1) hx hb dL_bestClarityOf_13 (by decide) ?_
      exact o_iret C hG hr dL_bestClarityOf_14 ⟨Nat.le_of_ble_eq_true rfl, Nat.le_of_ble_eq_true rfl⟩ (Option.some.inj h)
    rw [if_neg h1] at h
    cases h
def w_offsetOf (a1 : Int32) (g : G) (f : Nat → Int64) : Option WR := (k8_offsetOf a1 g).bind fun w => wr1 3 w f w.2.1.toInt64
set_option maxRecDepth 100000 in
theorem v_offsetOf (E : EV) (tL : ClassId) (ao : Nat) (l : Launch) (hst : l.stackTraces = false) (a1 : Int32) (g : G) (f : Nat → Int64) : ∀ u, w_offsetOf a1 g f = some u → MO E tL ao l yL_offsetOf cL_offsetOf 4 [(0, 9, 12, 28)] [.ref (E.ad 0), .int a1, .ref ao] g f u := by
  intro u h
  obtain ⟨w, hw, h⟩ := bind_inv h
  refine MO.of (by decide +kernel) (Nat.le_of_ble_eq_true rfl) ?_
  intro p e s m args below meth c C ht hr hO ls hl hG
  have C : Cx p s m args meth c cL_offsetOf 4 RL E := C
  have hx := C.1
  have hb := C.2.1
  have hl : lv_has ls 4 [(0, .ref (E.ad 0)), (1, .int a1), (2, .ref ao)] := hl
  refine lv_aload_n hx hb dL_offsetOf_0 rfl (lv_at hl 2 rfl) ?_
  refine lv_iconst (v := 0) hx hb dL_offsetOf_1 (by decide) ?_
  refine lv_aload_n hx hb dL_offsetOf_2 rfl (lv_at hl 0 rfl) ?_
  refine lv_iload_n hx hb dL_offsetOf_3 rfl (lv_at hl 1 rfl) ?_
  refine o_call C hl.1 hO hG [.int a1] [.int 0, .ref ao] (m8_offsetOf E l hst a1 g w hw) LL_33.1 LL_33.2 rfl KC8 rfl (rm_ok (by decide) (by decide)) (Nat.le_of_ble_eq_true rfl) ⟨Nat.le_of_ble_eq_true rfl, Nat.le_of_ble_eq_true rfl⟩ rfl dL_offsetOf_4 (fun h0 H locs hG => ?_) (fun h0 H locs q ce hG hce hcv hcl => ?_)
  · unfold wr1 at h
    rw [if_pos h0] at h
    refine lv_i2l hx hb dL_offsetOf_7 rfl ?_
    refine o_last C hO hG dL_offsetOf_8 (fun H locs hG => ?_)
    refine lv_goto (tgt := 15) hx hb dL_offsetOf_9 (by decide) ?_
    refine lv_iconst (v := 0) hx hb dL_offsetOf_15 (by decide) ?_
    exact o_iret C hG hr dL_offsetOf_16 ⟨Nat.le_of_ble_eq_true rfl, Nat.le_of_ble_eq_true rfl⟩ (Option.some.inj h)
  · unfold wr1 at h
    rw [if_neg h0] at h
    by_cases h1 : w.1 = 3
    · rw [if_pos h1] at h
      rw [h1] at hcl
      refine o_catch (k := 3) C hO ht [] (0, 9, 12, 28) [] rfl (by intro z hz; cases hz) (by decide) (by decide) (by decide) LKC_28 LCA_3 hce hcv hcl ?_
      refine lv_astore_n hx hb dL_offsetOf_12 rfl hl (by decide) rfl (fun ls hl => ?_)
      refine lv_iconst (v := 1) hx hb dL_offsetOf_13 (by decide) ?_
      exact o_iret C hG hr dL_offsetOf_14 ⟨Nat.le_of_ble_eq_true rfl, Nat.le_of_ble_eq_true rfl⟩ (Option.some.inj h)
    rw [if_neg h1] at h
    cases h
def w_placeOf (a1 : Int32) (g : G) (f : Nat → Int64) : Option WR := (k8_placeOf a1 g).bind fun w => wr1 3 w f w.2.1.toInt64
set_option maxRecDepth 100000 in
theorem v_placeOf (E : EV) (tL : ClassId) (ao : Nat) (l : Launch) (hst : l.stackTraces = false) (a1 : Int32) (g : G) (f : Nat → Int64) : ∀ u, w_placeOf a1 g f = some u → MO E tL ao l yL_placeOf cL_placeOf 4 [(0, 9, 12, 28)] [.ref (E.ad 0), .int a1, .ref ao] g f u := by
  intro u h
  obtain ⟨w, hw, h⟩ := bind_inv h
  refine MO.of (by decide +kernel) (Nat.le_of_ble_eq_true rfl) ?_
  intro p e s m args below meth c C ht hr hO ls hl hG
  have C : Cx p s m args meth c cL_placeOf 4 RL E := C
  have hx := C.1
  have hb := C.2.1
  have hl : lv_has ls 4 [(0, .ref (E.ad 0)), (1, .int a1), (2, .ref ao)] := hl
  refine lv_aload_n hx hb dL_placeOf_0 rfl (lv_at hl 2 rfl) ?_
  refine lv_iconst (v := 0) hx hb dL_placeOf_1 (by decide) ?_
  refine lv_aload_n hx hb dL_placeOf_2 rfl (lv_at hl 0 rfl) ?_
  refine lv_iload_n hx hb dL_placeOf_3 rfl (lv_at hl 1 rfl) ?_
  refine o_call C hl.1 hO hG [.int a1] [.int 0, .ref ao] (m8_placeOf E l hst a1 g w hw) LL_36.1 LL_36.2 rfl KC8 rfl (rm_ok (by decide) (by decide)) (Nat.le_of_ble_eq_true rfl) ⟨Nat.le_of_ble_eq_true rfl, Nat.le_of_ble_eq_true rfl⟩ rfl dL_placeOf_4 (fun h0 H locs hG => ?_) (fun h0 H locs q ce hG hce hcv hcl => ?_)
  · unfold wr1 at h
    rw [if_pos h0] at h
    refine lv_i2l hx hb dL_placeOf_7 rfl ?_
    refine o_last C hO hG dL_placeOf_8 (fun H locs hG => ?_)
    refine lv_goto (tgt := 15) hx hb dL_placeOf_9 (by decide) ?_
    refine lv_iconst (v := 0) hx hb dL_placeOf_15 (by decide) ?_
    exact o_iret C hG hr dL_placeOf_16 ⟨Nat.le_of_ble_eq_true rfl, Nat.le_of_ble_eq_true rfl⟩ (Option.some.inj h)
  · unfold wr1 at h
    rw [if_neg h0] at h
    by_cases h1 : w.1 = 3
    · rw [if_pos h1] at h
      rw [h1] at hcl
      refine o_catch (k := 3) C hO ht [] (0, 9, 12, 28) [] rfl (by intro z hz; cases hz) (by decide) (by decide) (by decide) LKC_28 LCA_3 hce hcv hcl ?_
      refine lv_astore_n hx hb dL_placeOf_12 rfl hl (by decide) rfl (fun ls hl => ?_)
      refine lv_iconst (v := 1) hx hb dL_placeOf_13 (by decide) ?_
      exact o_iret C hG hr dL_placeOf_14 ⟨Nat.le_of_ble_eq_true rfl, Nat.le_of_ble_eq_true rfl⟩ (Option.some.inj h)
    rw [if_neg h1] at h
    cases h
def w_lightBehind (a1 : Int32) (g : G) (f : Nat → Int64) : Option WR := (k8_lightBehind a1 g).bind fun w => wr1 3 w f w.2.1.toInt64
set_option maxRecDepth 100000 in
theorem v_lightBehind (E : EV) (tL : ClassId) (ao : Nat) (l : Launch) (hst : l.stackTraces = false) (a1 : Int32) (g : G) (f : Nat → Int64) : ∀ u, w_lightBehind a1 g f = some u → MO E tL ao l yL_lightBehind cL_lightBehind 4 [(0, 9, 12, 28)] [.ref (E.ad 0), .int a1, .ref ao] g f u := by
  intro u h
  obtain ⟨w, hw, h⟩ := bind_inv h
  refine MO.of (by decide +kernel) (Nat.le_of_ble_eq_true rfl) ?_
  intro p e s m args below meth c C ht hr hO ls hl hG
  have C : Cx p s m args meth c cL_lightBehind 4 RL E := C
  have hx := C.1
  have hb := C.2.1
  have hl : lv_has ls 4 [(0, .ref (E.ad 0)), (1, .int a1), (2, .ref ao)] := hl
  refine lv_aload_n hx hb dL_lightBehind_0 rfl (lv_at hl 2 rfl) ?_
  refine lv_iconst (v := 0) hx hb dL_lightBehind_1 (by decide) ?_
  refine lv_aload_n hx hb dL_lightBehind_2 rfl (lv_at hl 0 rfl) ?_
  refine lv_iload_n hx hb dL_lightBehind_3 rfl (lv_at hl 1 rfl) ?_
  refine o_call C hl.1 hO hG [.int a1] [.int 0, .ref ao] (m8_lightBehind E l hst a1 g w hw) LL_39.1 LL_39.2 rfl KC8 rfl (rm_ok (by decide) (by decide)) (Nat.le_of_ble_eq_true rfl) ⟨Nat.le_of_ble_eq_true rfl, Nat.le_of_ble_eq_true rfl⟩ rfl dL_lightBehind_4 (fun h0 H locs hG => ?_) (fun h0 H locs q ce hG hce hcv hcl => ?_)
  · unfold wr1 at h
    rw [if_pos h0] at h
    refine lv_i2l hx hb dL_lightBehind_7 rfl ?_
    refine o_last C hO hG dL_lightBehind_8 (fun H locs hG => ?_)
    refine lv_goto (tgt := 15) hx hb dL_lightBehind_9 (by decide) ?_
    refine lv_iconst (v := 0) hx hb dL_lightBehind_15 (by decide) ?_
    exact o_iret C hG hr dL_lightBehind_16 ⟨Nat.le_of_ble_eq_true rfl, Nat.le_of_ble_eq_true rfl⟩ (Option.some.inj h)
  · unfold wr1 at h
    rw [if_neg h0] at h
    by_cases h1 : w.1 = 3
    · rw [if_pos h1] at h
      rw [h1] at hcl
      refine o_catch (k := 3) C hO ht [] (0, 9, 12, 28) [] rfl (by intro z hz; cases hz) (by decide) (by decide) (by decide) LKC_28 LCA_3 hce hcv hcl ?_
      refine lv_astore_n hx hb dL_lightBehind_12 rfl hl (by decide) rfl (fun ls hl => ?_)
      refine lv_iconst (v := 1) hx hb dL_lightBehind_13 (by decide) ?_
      exact o_iret C hG hr dL_lightBehind_14 ⟨Nat.le_of_ble_eq_true rfl, Nat.le_of_ble_eq_true rfl⟩ (Option.some.inj h)
    rw [if_neg h1] at h
    cases h
def w_lostAt (a1 : Int32) (g : G) (f : Nat → Int64) : Option WR := (k8_lostAt a1 g).bind fun w => wr1 3 w f w.2.1.toInt64
set_option maxRecDepth 100000 in
theorem v_lostAt (E : EV) (tL : ClassId) (ao : Nat) (l : Launch) (hst : l.stackTraces = false) (a1 : Int32) (g : G) (f : Nat → Int64) : ∀ u, w_lostAt a1 g f = some u → MO E tL ao l yL_lostAt cL_lostAt 4 [(0, 9, 12, 28)] [.ref (E.ad 0), .int a1, .ref ao] g f u := by
  intro u h
  obtain ⟨w, hw, h⟩ := bind_inv h
  refine MO.of (by decide +kernel) (Nat.le_of_ble_eq_true rfl) ?_
  intro p e s m args below meth c C ht hr hO ls hl hG
  have C : Cx p s m args meth c cL_lostAt 4 RL E := C
  have hx := C.1
  have hb := C.2.1
  have hl : lv_has ls 4 [(0, .ref (E.ad 0)), (1, .int a1), (2, .ref ao)] := hl
  refine lv_aload_n hx hb dL_lostAt_0 rfl (lv_at hl 2 rfl) ?_
  refine lv_iconst (v := 0) hx hb dL_lostAt_1 (by decide) ?_
  refine lv_aload_n hx hb dL_lostAt_2 rfl (lv_at hl 0 rfl) ?_
  refine lv_iload_n hx hb dL_lostAt_3 rfl (lv_at hl 1 rfl) ?_
  refine o_call C hl.1 hO hG [.int a1] [.int 0, .ref ao] (m8_lostAt E l hst a1 g w hw) LL_42.1 LL_42.2 rfl KC8 rfl (rm_ok (by decide) (by decide)) (Nat.le_of_ble_eq_true rfl) ⟨Nat.le_of_ble_eq_true rfl, Nat.le_of_ble_eq_true rfl⟩ rfl dL_lostAt_4 (fun h0 H locs hG => ?_) (fun h0 H locs q ce hG hce hcv hcl => ?_)
  · unfold wr1 at h
    rw [if_pos h0] at h
    refine lv_i2l hx hb dL_lostAt_7 rfl ?_
    refine o_last C hO hG dL_lostAt_8 (fun H locs hG => ?_)
    refine lv_goto (tgt := 15) hx hb dL_lostAt_9 (by decide) ?_
    refine lv_iconst (v := 0) hx hb dL_lostAt_15 (by decide) ?_
    exact o_iret C hG hr dL_lostAt_16 ⟨Nat.le_of_ble_eq_true rfl, Nat.le_of_ble_eq_true rfl⟩ (Option.some.inj h)
  · unfold wr1 at h
    rw [if_neg h0] at h
    by_cases h1 : w.1 = 3
    · rw [if_pos h1] at h
      rw [h1] at hcl
      refine o_catch (k := 3) C hO ht [] (0, 9, 12, 28) [] rfl (by intro z hz; cases hz) (by decide) (by decide) (by decide) LKC_28 LCA_3 hce hcv hcl ?_
      refine lv_astore_n hx hb dL_lostAt_12 rfl hl (by decide) rfl (fun ls hl => ?_)
      refine lv_iconst (v := 1) hx hb dL_lostAt_13 (by decide) ?_
      exact o_iret C hG hr dL_lostAt_14 ⟨Nat.le_of_ble_eq_true rfl, Nat.le_of_ble_eq_true rfl⟩ (Option.some.inj h)
    rw [if_neg h1] at h
    cases h
def w_tiltBehind (a1 : Int32) (g : G) (f : Nat → Int64) : Option WR := (k8_tiltBehind a1 g).bind fun w => wr1 3 w f w.2.1.toInt64
set_option maxRecDepth 100000 in
theorem v_tiltBehind (E : EV) (tL : ClassId) (ao : Nat) (l : Launch) (hst : l.stackTraces = false) (a1 : Int32) (g : G) (f : Nat → Int64) : ∀ u, w_tiltBehind a1 g f = some u → MO E tL ao l yL_tiltBehind cL_tiltBehind 4 [(0, 9, 12, 28)] [.ref (E.ad 0), .int a1, .ref ao] g f u := by
  intro u h
  obtain ⟨w, hw, h⟩ := bind_inv h
  refine MO.of (by decide +kernel) (Nat.le_of_ble_eq_true rfl) ?_
  intro p e s m args below meth c C ht hr hO ls hl hG
  have C : Cx p s m args meth c cL_tiltBehind 4 RL E := C
  have hx := C.1
  have hb := C.2.1
  have hl : lv_has ls 4 [(0, .ref (E.ad 0)), (1, .int a1), (2, .ref ao)] := hl
  refine lv_aload_n hx hb dL_tiltBehind_0 rfl (lv_at hl 2 rfl) ?_
  refine lv_iconst (v := 0) hx hb dL_tiltBehind_1 (by decide) ?_
  refine lv_aload_n hx hb dL_tiltBehind_2 rfl (lv_at hl 0 rfl) ?_
  refine lv_iload_n hx hb dL_tiltBehind_3 rfl (lv_at hl 1 rfl) ?_
  refine o_call C hl.1 hO hG [.int a1] [.int 0, .ref ao] (m8_tiltBehind E l hst a1 g w hw) LL_45.1 LL_45.2 rfl KC8 rfl (rm_ok (by decide) (by decide)) (Nat.le_of_ble_eq_true rfl) ⟨Nat.le_of_ble_eq_true rfl, Nat.le_of_ble_eq_true rfl⟩ rfl dL_tiltBehind_4 (fun h0 H locs hG => ?_) (fun h0 H locs q ce hG hce hcv hcl => ?_)
  · unfold wr1 at h
    rw [if_pos h0] at h
    refine lv_i2l hx hb dL_tiltBehind_7 rfl ?_
    refine o_last C hO hG dL_tiltBehind_8 (fun H locs hG => ?_)
    refine lv_goto (tgt := 15) hx hb dL_tiltBehind_9 (by decide) ?_
    refine lv_iconst (v := 0) hx hb dL_tiltBehind_15 (by decide) ?_
    exact o_iret C hG hr dL_tiltBehind_16 ⟨Nat.le_of_ble_eq_true rfl, Nat.le_of_ble_eq_true rfl⟩ (Option.some.inj h)
  · unfold wr1 at h
    rw [if_neg h0] at h
    by_cases h1 : w.1 = 3
    · rw [if_pos h1] at h
      rw [h1] at hcl
      refine o_catch (k := 3) C hO ht [] (0, 9, 12, 28) [] rfl (by intro z hz; cases hz) (by decide) (by decide) (by decide) LKC_28 LCA_3 hce hcv hcl ?_
      refine lv_astore_n hx hb dL_tiltBehind_12 rfl hl (by decide) rfl (fun ls hl => ?_)
      refine lv_iconst (v := 1) hx hb dL_tiltBehind_13 (by decide) ?_
      exact o_iret C hG hr dL_tiltBehind_14 ⟨Nat.le_of_ble_eq_true rfl, Nat.le_of_ble_eq_true rfl⟩ (Option.some.inj h)
    rw [if_neg h1] at h
    cases h
def w_isCovered (a1 : Int32) (g : G) (f : Nat → Int64) : Option WR := (k8_isCovered a1 g).bind fun w => wr1 3 w f (if w.2.1 = 0 then 0 else 1)
set_option maxRecDepth 100000 in
theorem v_isCovered (E : EV) (tL : ClassId) (ao : Nat) (l : Launch) (hst : l.stackTraces = false) (a1 : Int32) (g : G) (f : Nat → Int64) : ∀ u, w_isCovered a1 g f = some u → MO E tL ao l yL_isCovered cL_isCovered 4 [(0, 16, 19, 28)] [.ref (E.ad 0), .int a1, .ref ao] g f u := by
  intro u h
  obtain ⟨w, hw, h⟩ := bind_inv h
  refine MO.of (by decide +kernel) (Nat.le_of_ble_eq_true rfl) ?_
  intro p e s m args below meth c C ht hr hO ls hl hG
  have C : Cx p s m args meth c cL_isCovered 4 RL E := C
  have hx := C.1
  have hb := C.2.1
  have hl : lv_has ls 4 [(0, .ref (E.ad 0)), (1, .int a1), (2, .ref ao)] := hl
  refine lv_aload_n hx hb dL_isCovered_0 rfl (lv_at hl 2 rfl) ?_
  refine lv_iconst (v := 0) hx hb dL_isCovered_1 (by decide) ?_
  refine lv_aload_n hx hb dL_isCovered_2 rfl (lv_at hl 0 rfl) ?_
  refine lv_iload_n hx hb dL_isCovered_3 rfl (lv_at hl 1 rfl) ?_
  refine o_call C hl.1 hO hG [.int a1] [.int 0, .ref ao] (m8_isCovered E l hst a1 g w hw) LL_48.1 LL_48.2 rfl KC8 rfl (rm_ok (by decide) (by decide)) (Nat.le_of_ble_eq_true rfl) ⟨Nat.le_of_ble_eq_true rfl, Nat.le_of_ble_eq_true rfl⟩ rfl dL_isCovered_4 (fun h0 H locs hG => ?_) (fun h0 H locs q ce hG hce hcv hcl => ?_)
  · unfold wr1 at h
    rw [if_pos h0] at h
    refine lv_if_eq (tgt := 14) hx hb dL_isCovered_7 (by decide) (fun c1 => ?_) (fun c1 => ?_)
    · rw [if_pos c1] at h
      refine lv_lconst (v := 0) hx hb dL_isCovered_14 (by decide) ?_
      refine o_last C hO hG dL_isCovered_15 (fun H locs hG => ?_)
      refine lv_goto (tgt := 22) hx hb dL_isCovered_16 (by decide) ?_
      refine lv_iconst (v := 0) hx hb dL_isCovered_22 (by decide) ?_
      exact o_iret C hG hr dL_isCovered_23 ⟨Nat.le_of_ble_eq_true rfl, Nat.le_of_ble_eq_true rfl⟩ (Option.some.inj h)
    · rw [if_neg c1] at h
      refine lv_lconst (v := 1) hx hb dL_isCovered_10 (by decide) ?_
      refine lv_goto (tgt := 15) hx hb dL_isCovered_11 (by decide) ?_
      refine o_last C hO hG dL_isCovered_15 (fun H locs hG => ?_)
      refine lv_goto (tgt := 22) hx hb dL_isCovered_16 (by decide) ?_
      refine lv_iconst (v := 0) hx hb dL_isCovered_22 (by decide) ?_
      exact o_iret C hG hr dL_isCovered_23 ⟨Nat.le_of_ble_eq_true rfl, Nat.le_of_ble_eq_true rfl⟩ (Option.some.inj h)
  · unfold wr1 at h
    rw [if_neg h0] at h
    by_cases h1 : w.1 = 3
    · rw [if_pos h1] at h
      rw [h1] at hcl
      refine o_catch (k := 3) C hO ht [] (0, 16, 19, 28) [] rfl (by intro z hz; cases hz) (by decide) (by decide) (by decide) LKC_28 LCA_3 hce hcv hcl ?_
      refine lv_astore_n hx hb dL_isCovered_19 rfl hl (by decide) rfl (fun ls hl => ?_)
      refine lv_iconst (v := 1) hx hb dL_isCovered_20 (by decide) ?_
      exact o_iret C hG hr dL_isCovered_21 ⟨Nat.le_of_ble_eq_true rfl, Nat.le_of_ble_eq_true rfl⟩ (Option.some.inj h)
    rw [if_neg h1] at h
    cases h
def w_mirrorAt (a1 : Int32) (g : G) (f : Nat → Int64) : Option WR := (k8_mirrorAt a1 g).bind fun w => wr1 3 w f w.2.1.toInt64
set_option maxRecDepth 100000 in
theorem v_mirrorAt (E : EV) (tL : ClassId) (ao : Nat) (l : Launch) (hst : l.stackTraces = false) (a1 : Int32) (g : G) (f : Nat → Int64) : ∀ u, w_mirrorAt a1 g f = some u → MO E tL ao l yL_mirrorAt cL_mirrorAt 4 [(0, 9, 12, 28)] [.ref (E.ad 0), .int a1, .ref ao] g f u := by
  intro u h
  obtain ⟨w, hw, h⟩ := bind_inv h
  refine MO.of (by decide +kernel) (Nat.le_of_ble_eq_true rfl) ?_
  intro p e s m args below meth c C ht hr hO ls hl hG
  have C : Cx p s m args meth c cL_mirrorAt 4 RL E := C
  have hx := C.1
  have hb := C.2.1
  have hl : lv_has ls 4 [(0, .ref (E.ad 0)), (1, .int a1), (2, .ref ao)] := hl
  refine lv_aload_n hx hb dL_mirrorAt_0 rfl (lv_at hl 2 rfl) ?_
  refine lv_iconst (v := 0) hx hb dL_mirrorAt_1 (by decide) ?_
  refine lv_aload_n hx hb dL_mirrorAt_2 rfl (lv_at hl 0 rfl) ?_
  refine lv_iload_n hx hb dL_mirrorAt_3 rfl (lv_at hl 1 rfl) ?_
  refine o_call C hl.1 hO hG [.int a1] [.int 0, .ref ao] (m8_mirrorAt E l hst a1 g w hw) LL_52.1 LL_52.2 rfl KC8 rfl (rm_ok (by decide) (by decide)) (Nat.le_of_ble_eq_true rfl) ⟨Nat.le_of_ble_eq_true rfl, Nat.le_of_ble_eq_true rfl⟩ rfl dL_mirrorAt_4 (fun h0 H locs hG => ?_) (fun h0 H locs q ce hG hce hcv hcl => ?_)
  · unfold wr1 at h
    rw [if_pos h0] at h
    refine lv_i2l hx hb dL_mirrorAt_7 rfl ?_
    refine o_last C hO hG dL_mirrorAt_8 (fun H locs hG => ?_)
    refine lv_goto (tgt := 15) hx hb dL_mirrorAt_9 (by decide) ?_
    refine lv_iconst (v := 0) hx hb dL_mirrorAt_15 (by decide) ?_
    exact o_iret C hG hr dL_mirrorAt_16 ⟨Nat.le_of_ble_eq_true rfl, Nat.le_of_ble_eq_true rfl⟩ (Option.some.inj h)
  · unfold wr1 at h
    rw [if_neg h0] at h
    by_cases h1 : w.1 = 3
    · rw [if_pos h1] at h
      rw [h1] at hcl
      refine o_catch (k := 3) C hO ht [] (0, 9, 12, 28) [] rfl (by intro z hz; cases hz) (by decide) (by decide) (by decide) LKC_28 LCA_3 hce hcv hcl ?_
      refine lv_astore_n hx hb dL_mirrorAt_12 rfl hl (by decide) rfl (fun ls hl => ?_)
      refine lv_iconst (v := 1) hx hb dL_mirrorAt_13 (by decide) ?_
      exact o_iret C hG hr dL_mirrorAt_14 ⟨Nat.le_of_ble_eq_true rfl, Nat.le_of_ble_eq_true rfl⟩ (Option.some.inj h)
    rw [if_neg h1] at h
    cases h
def w_kindOfJob (a1 : Int32) (g : G) (f : Nat → Int64) : Option WR := (k8_kindOfJob a1 g).bind fun w => wr1 3 w f w.2.1.toInt64
set_option maxRecDepth 100000 in
theorem v_kindOfJob (E : EV) (tL : ClassId) (ao : Nat) (l : Launch) (hst : l.stackTraces = false) (a1 : Int32) (g : G) (f : Nat → Int64) : ∀ u, w_kindOfJob a1 g f = some u → MO E tL ao l yL_kindOfJob cL_kindOfJob 4 [(0, 9, 12, 28)] [.ref (E.ad 0), .int a1, .ref ao] g f u := by
  intro u h
  obtain ⟨w, hw, h⟩ := bind_inv h
  refine MO.of (by decide +kernel) (Nat.le_of_ble_eq_true rfl) ?_
  intro p e s m args below meth c C ht hr hO ls hl hG
  have C : Cx p s m args meth c cL_kindOfJob 4 RL E := C
  have hx := C.1
  have hb := C.2.1
  have hl : lv_has ls 4 [(0, .ref (E.ad 0)), (1, .int a1), (2, .ref ao)] := hl
  refine lv_aload_n hx hb dL_kindOfJob_0 rfl (lv_at hl 2 rfl) ?_
  refine lv_iconst (v := 0) hx hb dL_kindOfJob_1 (by decide) ?_
  refine lv_aload_n hx hb dL_kindOfJob_2 rfl (lv_at hl 0 rfl) ?_
  refine lv_iload_n hx hb dL_kindOfJob_3 rfl (lv_at hl 1 rfl) ?_
  refine o_call C hl.1 hO hG [.int a1] [.int 0, .ref ao] (m8_kindOfJob E l hst a1 g w hw) LL_55.1 LL_55.2 rfl KC8 rfl (rm_ok (by decide) (by decide)) (Nat.le_of_ble_eq_true rfl) ⟨Nat.le_of_ble_eq_true rfl, Nat.le_of_ble_eq_true rfl⟩ rfl dL_kindOfJob_4 (fun h0 H locs hG => ?_) (fun h0 H locs q ce hG hce hcv hcl => ?_)
  · unfold wr1 at h
    rw [if_pos h0] at h
    refine lv_i2l hx hb dL_kindOfJob_7 rfl ?_
    refine o_last C hO hG dL_kindOfJob_8 (fun H locs hG => ?_)
    refine lv_goto (tgt := 15) hx hb dL_kindOfJob_9 (by decide) ?_
    refine lv_iconst (v := 0) hx hb dL_kindOfJob_15 (by decide) ?_
    exact o_iret C hG hr dL_kindOfJob_16 ⟨Nat.le_of_ble_eq_true rfl, Nat.le_of_ble_eq_true rfl⟩ (Option.some.inj h)
  · unfold wr1 at h
    rw [if_neg h0] at h
    by_cases h1 : w.1 = 3
    · rw [if_pos h1] at h
      rw [h1] at hcl
      refine o_catch (k := 3) C hO ht [] (0, 9, 12, 28) [] rfl (by intro z hz; cases hz) (by decide) (by decide) (by decide) LKC_28 LCA_3 hce hcv hcl ?_
      refine lv_astore_n hx hb dL_kindOfJob_12 rfl hl (by decide) rfl (fun ls hl => ?_)
      refine lv_iconst (v := 1) hx hb dL_kindOfJob_13 (by decide) ?_
      exact o_iret C hG hr dL_kindOfJob_14 ⟨Nat.le_of_ble_eq_true rfl, Nat.le_of_ble_eq_true rfl⟩ (Option.some.inj h)
    rw [if_neg h1] at h
    cases h
def w_mirrorOfJob (a1 : Int32) (g : G) (f : Nat → Int64) : Option WR := (k8_mirrorOfJob a1 g).bind fun w => wr1 3 w f w.2.1.toInt64
set_option maxRecDepth 100000 in
theorem v_mirrorOfJob (E : EV) (tL : ClassId) (ao : Nat) (l : Launch) (hst : l.stackTraces = false) (a1 : Int32) (g : G) (f : Nat → Int64) : ∀ u, w_mirrorOfJob a1 g f = some u → MO E tL ao l yL_mirrorOfJob cL_mirrorOfJob 4 [(0, 9, 12, 28)] [.ref (E.ad 0), .int a1, .ref ao] g f u := by
  intro u h
  obtain ⟨w, hw, h⟩ := bind_inv h
  refine MO.of (by decide +kernel) (Nat.le_of_ble_eq_true rfl) ?_
  intro p e s m args below meth c C ht hr hO ls hl hG
  have C : Cx p s m args meth c cL_mirrorOfJob 4 RL E := C
  have hx := C.1
  have hb := C.2.1
  have hl : lv_has ls 4 [(0, .ref (E.ad 0)), (1, .int a1), (2, .ref ao)] := hl
  refine lv_aload_n hx hb dL_mirrorOfJob_0 rfl (lv_at hl 2 rfl) ?_
  refine lv_iconst (v := 0) hx hb dL_mirrorOfJob_1 (by decide) ?_
  refine lv_aload_n hx hb dL_mirrorOfJob_2 rfl (lv_at hl 0 rfl) ?_
  refine lv_iload_n hx hb dL_mirrorOfJob_3 rfl (lv_at hl 1 rfl) ?_
  refine o_call C hl.1 hO hG [.int a1] [.int 0, .ref ao] (m8_mirrorOfJob E l hst a1 g w hw) LL_58.1 LL_58.2 rfl KC8 rfl (rm_ok (by decide) (by decide)) (Nat.le_of_ble_eq_true rfl) ⟨Nat.le_of_ble_eq_true rfl, Nat.le_of_ble_eq_true rfl⟩ rfl dL_mirrorOfJob_4 (fun h0 H locs hG => ?_) (fun h0 H locs q ce hG hce hcv hcl => ?_)
  · unfold wr1 at h
    rw [if_pos h0] at h
    refine lv_i2l hx hb dL_mirrorOfJob_7 rfl ?_
    refine o_last C hO hG dL_mirrorOfJob_8 (fun H locs hG => ?_)
    refine lv_goto (tgt := 15) hx hb dL_mirrorOfJob_9 (by decide) ?_
    refine lv_iconst (v := 0) hx hb dL_mirrorOfJob_15 (by decide) ?_
    exact o_iret C hG hr dL_mirrorOfJob_16 ⟨Nat.le_of_ble_eq_true rfl, Nat.le_of_ble_eq_true rfl⟩ (Option.some.inj h)
  · unfold wr1 at h
    rw [if_neg h0] at h
    by_cases h1 : w.1 = 3
    · rw [if_pos h1] at h
      rw [h1] at hcl
      refine o_catch (k := 3) C hO ht [] (0, 9, 12, 28) [] rfl (by intro z hz; cases hz) (by decide) (by decide) (by decide) LKC_28 LCA_3 hce hcv hcl ?_
      refine lv_astore_n hx hb dL_mirrorOfJob_12 rfl hl (by decide) rfl (fun ls hl => ?_)
      refine lv_iconst (v := 1) hx hb dL_mirrorOfJob_13 (by decide) ?_
      exact o_iret C hG hr dL_mirrorOfJob_14 ⟨Nat.le_of_ble_eq_true rfl, Nat.le_of_ble_eq_true rfl⟩ (Option.some.inj h)
    rw [if_neg h1] at h
    cases h
def w_orderJob (a1 : Int32) (a2 : Int32) (g : G) (f : Nat → Int64) : Option WR := (k8_orderJob a1 a2 g).bind fun w => wr3 3 2 1 w f w.2.1.toInt64
set_option maxRecDepth 100000 in
theorem v_orderJob (E : EV) (tL : ClassId) (ao : Nat) (l : Launch) (hst : l.stackTraces = false) (a1 : Int32) (a2 : Int32) (g : G) (f : Nat → Int64) : ∀ u, w_orderJob a1 a2 g f = some u → MO E tL ao l yL_orderJob cL_orderJob 5 [(0, 10, 13, 28), (0, 10, 17, 19), (0, 10, 21, 13)] [.ref (E.ad 0), .int a1, .int a2, .ref ao] g f u := by
  intro u h
  obtain ⟨w, hw, h⟩ := bind_inv h
  refine MO.of (by decide +kernel) (Nat.le_of_ble_eq_true rfl) ?_
  intro p e s m args below meth c C ht hr hO ls hl hG
  have C : Cx p s m args meth c cL_orderJob 5 RL E := C
  have hx := C.1
  have hb := C.2.1
  have hl : lv_has ls 5 [(0, .ref (E.ad 0)), (1, .int a1), (2, .int a2), (3, .ref ao)] := hl
  refine lv_aload_n hx hb dL_orderJob_0 rfl (lv_at hl 3 rfl) ?_
  refine lv_iconst (v := 0) hx hb dL_orderJob_1 (by decide) ?_
  refine lv_aload_n hx hb dL_orderJob_2 rfl (lv_at hl 0 rfl) ?_
  refine lv_iload_n hx hb dL_orderJob_3 rfl (lv_at hl 1 rfl) ?_
  refine lv_iload_n hx hb dL_orderJob_4 rfl (lv_at hl 2 rfl) ?_
  refine o_call C hl.1 hO hG [.int a1, .int a2] [.int 0, .ref ao] (m8_orderJob E l hst a1 a2 g w hw) LL_61.1 LL_61.2 rfl KC8 rfl (rm_ok (by decide) (by decide)) (Nat.le_of_ble_eq_true rfl) ⟨Nat.le_of_ble_eq_true rfl, Nat.le_of_ble_eq_true rfl⟩ rfl dL_orderJob_5 (fun h0 H locs hG => ?_) (fun h0 H locs q ce hG hce hcv hcl => ?_)
  · unfold wr3 at h
    rw [if_pos h0] at h
    refine lv_i2l hx hb dL_orderJob_8 rfl ?_
    refine o_last C hO hG dL_orderJob_9 (fun H locs hG => ?_)
    refine lv_goto (tgt := 25) hx hb dL_orderJob_10 (by decide) ?_
    refine lv_iconst (v := 0) hx hb dL_orderJob_25 (by decide) ?_
    exact o_iret C hG hr dL_orderJob_26 ⟨Nat.le_of_ble_eq_true rfl, Nat.le_of_ble_eq_true rfl⟩ (Option.some.inj h)
  · unfold wr3 at h
    rw [if_neg h0] at h
    by_cases h1 : w.1 = 3
    · rw [if_pos h1] at h
      rw [h1] at hcl
      refine o_catch (k := 3) C hO ht [] (0, 10, 13, 28) [(0, 10, 17, 19), (0, 10, 21, 13)] rfl (by intro z hz; cases hz) (by decide) (by decide) (by decide) LKC_28 LCA_3 hce hcv hcl ?_
      refine lv_astore hx hb dL_orderJob_13 hl (by decide) rfl (fun ls hl => ?_)
      refine lv_iconst (v := 1) hx hb dL_orderJob_15 (by decide) ?_
      exact o_iret C hG hr dL_orderJob_16 ⟨Nat.le_of_ble_eq_true rfl, Nat.le_of_ble_eq_true rfl⟩ (Option.some.inj h)
    rw [if_neg h1] at h
    by_cases h2 : w.1 = 2
    · rw [if_pos h2] at h
      rw [h2] at hcl
      refine o_catch (k := 2) C hO ht [(0, 10, 13, 28)] (0, 10, 17, 19) [(0, 10, 21, 13)] rfl (by simp only [List.mem_cons, List.not_mem_nil, or_false]; rintro z rfl <;> first | exact ⟨3, by decide, by decide, by decide, by decide, LKC_28⟩) (by decide) (by decide) (by decide) LKC_19 LCA_2 hce hcv hcl ?_
      refine lv_astore hx hb dL_orderJob_17 hl (by decide) rfl (fun ls hl => ?_)
      refine lv_iconst (v := 2) hx hb dL_orderJob_19 (by decide) ?_
      exact o_iret C hG hr dL_orderJob_20 ⟨Nat.le_of_ble_eq_true rfl, Nat.le_of_ble_eq_true rfl⟩ (Option.some.inj h)
    rw [if_neg h2] at h
    by_cases h3 : w.1 = 1
    · rw [if_pos h3] at h
      rw [h3] at hcl
      refine o_catch (k := 1) C hO ht [(0, 10, 13, 28), (0, 10, 17, 19)] (0, 10, 21, 13) [] rfl (by simp only [List.mem_cons, List.not_mem_nil, or_false]; rintro z (rfl | rfl) <;> first | exact ⟨3, by decide, by decide, by decide, by decide, LKC_28⟩ | exact ⟨2, by decide, by decide, by decide, by decide, LKC_19⟩) (by decide) (by decide) (by decide) LKC_13 LCA_1 hce hcv hcl ?_
      refine lv_astore hx hb dL_orderJob_21 hl (by decide) rfl (fun ls hl => ?_)
      refine lv_iconst (v := 3) hx hb dL_orderJob_23 (by decide) ?_
      exact o_iret C hG hr dL_orderJob_24 ⟨Nat.le_of_ble_eq_true rfl, Nat.le_of_ble_eq_true rfl⟩ (Option.some.inj h)
    rw [if_neg h3] at h
    cases h
def w_cancelJob (a1 : Int32) (g : G) (f : Nat → Int64) : Option WR := (k8_cancelJob a1 g).bind fun w => wr1 3 w f w.2.1.toInt64
set_option maxRecDepth 100000 in
theorem v_cancelJob (E : EV) (tL : ClassId) (ao : Nat) (l : Launch) (hst : l.stackTraces = false) (a1 : Int32) (g : G) (f : Nat → Int64) : ∀ u, w_cancelJob a1 g f = some u → MO E tL ao l yL_cancelJob cL_cancelJob 4 [(0, 9, 12, 28)] [.ref (E.ad 0), .int a1, .ref ao] g f u := by
  intro u h
  obtain ⟨w, hw, h⟩ := bind_inv h
  refine MO.of (by decide +kernel) (Nat.le_of_ble_eq_true rfl) ?_
  intro p e s m args below meth c C ht hr hO ls hl hG
  have C : Cx p s m args meth c cL_cancelJob 4 RL E := C
  have hx := C.1
  have hb := C.2.1
  have hl : lv_has ls 4 [(0, .ref (E.ad 0)), (1, .int a1), (2, .ref ao)] := hl
  refine lv_aload_n hx hb dL_cancelJob_0 rfl (lv_at hl 2 rfl) ?_
  refine lv_iconst (v := 0) hx hb dL_cancelJob_1 (by decide) ?_
  refine lv_aload_n hx hb dL_cancelJob_2 rfl (lv_at hl 0 rfl) ?_
  refine lv_iload_n hx hb dL_cancelJob_3 rfl (lv_at hl 1 rfl) ?_
  refine o_call C hl.1 hO hG [.int a1] [.int 0, .ref ao] (m8_cancelJob E l hst a1 g w hw) LL_65.1 LL_65.2 rfl KC8 rfl (rm_ok (by decide) (by decide)) (Nat.le_of_ble_eq_true rfl) ⟨Nat.le_of_ble_eq_true rfl, Nat.le_of_ble_eq_true rfl⟩ rfl dL_cancelJob_4 (fun h0 H locs hG => ?_) (fun h0 H locs q ce hG hce hcv hcl => ?_)
  · unfold wr1 at h
    rw [if_pos h0] at h
    refine lv_i2l hx hb dL_cancelJob_7 rfl ?_
    refine o_last C hO hG dL_cancelJob_8 (fun H locs hG => ?_)
    refine lv_goto (tgt := 15) hx hb dL_cancelJob_9 (by decide) ?_
    refine lv_iconst (v := 0) hx hb dL_cancelJob_15 (by decide) ?_
    exact o_iret C hG hr dL_cancelJob_16 ⟨Nat.le_of_ble_eq_true rfl, Nat.le_of_ble_eq_true rfl⟩ (Option.some.inj h)
  · unfold wr1 at h
    rw [if_neg h0] at h
    by_cases h1 : w.1 = 3
    · rw [if_pos h1] at h
      rw [h1] at hcl
      refine o_catch (k := 3) C hO ht [] (0, 9, 12, 28) [] rfl (by intro z hz; cases hz) (by decide) (by decide) (by decide) LKC_28 LCA_3 hce hcv hcl ?_
      refine lv_astore_n hx hb dL_cancelJob_12 rfl hl (by decide) rfl (fun ls hl => ?_)
      refine lv_iconst (v := 1) hx hb dL_cancelJob_13 (by decide) ?_
      exact o_iret C hG hr dL_cancelJob_14 ⟨Nat.le_of_ble_eq_true rfl, Nat.le_of_ble_eq_true rfl⟩ (Option.some.inj h)
    rw [if_neg h1] at h
    cases h
def w_turnMirror (a1 : Int32) (a2 : Int32) (g : G) (f : Nat → Int64) : Option WR := (k8_turnMirror a1 a2 g).bind fun w => wr2 3 2 w f w.2.1.toInt64
set_option maxRecDepth 100000 in
theorem v_turnMirror (E : EV) (tL : ClassId) (ao : Nat) (l : Launch) (hst : l.stackTraces = false) (a1 : Int32) (a2 : Int32) (g : G) (f : Nat → Int64) : ∀ u, w_turnMirror a1 a2 g f = some u → MO E tL ao l yL_turnMirror cL_turnMirror 5 [(0, 10, 13, 28), (0, 10, 17, 19)] [.ref (E.ad 0), .int a1, .int a2, .ref ao] g f u := by
  intro u h
  obtain ⟨w, hw, h⟩ := bind_inv h
  refine MO.of (by decide +kernel) (Nat.le_of_ble_eq_true rfl) ?_
  intro p e s m args below meth c C ht hr hO ls hl hG
  have C : Cx p s m args meth c cL_turnMirror 5 RL E := C
  have hx := C.1
  have hb := C.2.1
  have hl : lv_has ls 5 [(0, .ref (E.ad 0)), (1, .int a1), (2, .int a2), (3, .ref ao)] := hl
  refine lv_aload_n hx hb dL_turnMirror_0 rfl (lv_at hl 3 rfl) ?_
  refine lv_iconst (v := 0) hx hb dL_turnMirror_1 (by decide) ?_
  refine lv_aload_n hx hb dL_turnMirror_2 rfl (lv_at hl 0 rfl) ?_
  refine lv_iload_n hx hb dL_turnMirror_3 rfl (lv_at hl 1 rfl) ?_
  refine lv_iload_n hx hb dL_turnMirror_4 rfl (lv_at hl 2 rfl) ?_
  refine o_call C hl.1 hO hG [.int a1, .int a2] [.int 0, .ref ao] (m8_turnMirror E l hst a1 a2 g w hw) LL_68.1 LL_68.2 rfl KC8 rfl (rm_ok (by decide) (by decide)) (Nat.le_of_ble_eq_true rfl) ⟨Nat.le_of_ble_eq_true rfl, Nat.le_of_ble_eq_true rfl⟩ rfl dL_turnMirror_5 (fun h0 H locs hG => ?_) (fun h0 H locs q ce hG hce hcv hcl => ?_)
  · unfold wr2 at h
    rw [if_pos h0] at h
    refine lv_i2l hx hb dL_turnMirror_8 rfl ?_
    refine o_last C hO hG dL_turnMirror_9 (fun H locs hG => ?_)
    refine lv_goto (tgt := 21) hx hb dL_turnMirror_10 (by decide) ?_
    refine lv_iconst (v := 0) hx hb dL_turnMirror_21 (by decide) ?_
    exact o_iret C hG hr dL_turnMirror_22 ⟨Nat.le_of_ble_eq_true rfl, Nat.le_of_ble_eq_true rfl⟩ (Option.some.inj h)
  · unfold wr2 at h
    rw [if_neg h0] at h
    by_cases h1 : w.1 = 3
    · rw [if_pos h1] at h
      rw [h1] at hcl
      refine o_catch (k := 3) C hO ht [] (0, 10, 13, 28) [(0, 10, 17, 19)] rfl (by intro z hz; cases hz) (by decide) (by decide) (by decide) LKC_28 LCA_3 hce hcv hcl ?_
      refine lv_astore hx hb dL_turnMirror_13 hl (by decide) rfl (fun ls hl => ?_)
      refine lv_iconst (v := 1) hx hb dL_turnMirror_15 (by decide) ?_
      exact o_iret C hG hr dL_turnMirror_16 ⟨Nat.le_of_ble_eq_true rfl, Nat.le_of_ble_eq_true rfl⟩ (Option.some.inj h)
    rw [if_neg h1] at h
    by_cases h2 : w.1 = 2
    · rw [if_pos h2] at h
      rw [h2] at hcl
      refine o_catch (k := 2) C hO ht [(0, 10, 13, 28)] (0, 10, 17, 19) [] rfl (by simp only [List.mem_cons, List.not_mem_nil, or_false]; rintro z rfl <;> first | exact ⟨3, by decide, by decide, by decide, by decide, LKC_28⟩) (by decide) (by decide) (by decide) LKC_19 LCA_2 hce hcv hcl ?_
      refine lv_astore hx hb dL_turnMirror_17 hl (by decide) rfl (fun ls hl => ?_)
      refine lv_iconst (v := 2) hx hb dL_turnMirror_19 (by decide) ?_
      exact o_iret C hG hr dL_turnMirror_20 ⟨Nat.le_of_ble_eq_true rfl, Nat.le_of_ble_eq_true rfl⟩ (Option.some.inj h)
    rw [if_neg h2] at h
    cases h
def w_dustMirror (a1 : Int32) (a2 : Int32) (g : G) (f : Nat → Int64) : Option WR := (k8_dustMirror a1 a2 g).bind fun w => wr2 3 2 w f w.2.1.toInt64
set_option maxRecDepth 100000 in
theorem v_dustMirror (E : EV) (tL : ClassId) (ao : Nat) (l : Launch) (hst : l.stackTraces = false) (a1 : Int32) (a2 : Int32) (g : G) (f : Nat → Int64) : ∀ u, w_dustMirror a1 a2 g f = some u → MO E tL ao l yL_dustMirror cL_dustMirror 5 [(0, 10, 13, 28), (0, 10, 17, 19)] [.ref (E.ad 0), .int a1, .int a2, .ref ao] g f u := by
  intro u h
  obtain ⟨w, hw, h⟩ := bind_inv h
  refine MO.of (by decide +kernel) (Nat.le_of_ble_eq_true rfl) ?_
  intro p e s m args below meth c C ht hr hO ls hl hG
  have C : Cx p s m args meth c cL_dustMirror 5 RL E := C
  have hx := C.1
  have hb := C.2.1
  have hl : lv_has ls 5 [(0, .ref (E.ad 0)), (1, .int a1), (2, .int a2), (3, .ref ao)] := hl
  refine lv_aload_n hx hb dL_dustMirror_0 rfl (lv_at hl 3 rfl) ?_
  refine lv_iconst (v := 0) hx hb dL_dustMirror_1 (by decide) ?_
  refine lv_aload_n hx hb dL_dustMirror_2 rfl (lv_at hl 0 rfl) ?_
  refine lv_iload_n hx hb dL_dustMirror_3 rfl (lv_at hl 1 rfl) ?_
  refine lv_iload_n hx hb dL_dustMirror_4 rfl (lv_at hl 2 rfl) ?_
  refine o_call C hl.1 hO hG [.int a1, .int a2] [.int 0, .ref ao] (m8_dustMirror E l hst a1 a2 g w hw) LL_71.1 LL_71.2 rfl KC8 rfl (rm_ok (by decide) (by decide)) (Nat.le_of_ble_eq_true rfl) ⟨Nat.le_of_ble_eq_true rfl, Nat.le_of_ble_eq_true rfl⟩ rfl dL_dustMirror_5 (fun h0 H locs hG => ?_) (fun h0 H locs q ce hG hce hcv hcl => ?_)
  · unfold wr2 at h
    rw [if_pos h0] at h
    refine lv_i2l hx hb dL_dustMirror_8 rfl ?_
    refine o_last C hO hG dL_dustMirror_9 (fun H locs hG => ?_)
    refine lv_goto (tgt := 21) hx hb dL_dustMirror_10 (by decide) ?_
    refine lv_iconst (v := 0) hx hb dL_dustMirror_21 (by decide) ?_
    exact o_iret C hG hr dL_dustMirror_22 ⟨Nat.le_of_ble_eq_true rfl, Nat.le_of_ble_eq_true rfl⟩ (Option.some.inj h)
  · unfold wr2 at h
    rw [if_neg h0] at h
    by_cases h1 : w.1 = 3
    · rw [if_pos h1] at h
      rw [h1] at hcl
      refine o_catch (k := 3) C hO ht [] (0, 10, 13, 28) [(0, 10, 17, 19)] rfl (by intro z hz; cases hz) (by decide) (by decide) (by decide) LKC_28 LCA_3 hce hcv hcl ?_
      refine lv_astore hx hb dL_dustMirror_13 hl (by decide) rfl (fun ls hl => ?_)
      refine lv_iconst (v := 1) hx hb dL_dustMirror_15 (by decide) ?_
      exact o_iret C hG hr dL_dustMirror_16 ⟨Nat.le_of_ble_eq_true rfl, Nat.le_of_ble_eq_true rfl⟩ (Option.some.inj h)
    rw [if_neg h1] at h
    by_cases h2 : w.1 = 2
    · rw [if_pos h2] at h
      rw [h2] at hcl
      refine o_catch (k := 2) C hO ht [(0, 10, 13, 28)] (0, 10, 17, 19) [] rfl (by simp only [List.mem_cons, List.not_mem_nil, or_false]; rintro z rfl <;> first | exact ⟨3, by decide, by decide, by decide, by decide, LKC_28⟩) (by decide) (by decide) (by decide) LKC_19 LCA_2 hce hcv hcl ?_
      refine lv_astore hx hb dL_dustMirror_17 hl (by decide) rfl (fun ls hl => ?_)
      refine lv_iconst (v := 2) hx hb dL_dustMirror_19 (by decide) ?_
      exact o_iret C hG hr dL_dustMirror_20 ⟨Nat.le_of_ble_eq_true rfl, Nat.le_of_ble_eq_true rfl⟩ (Option.some.inj h)
    rw [if_neg h2] at h
    cases h
def w_moveMirror (a1 : Int32) (a2 : Int32) (g : G) (f : Nat → Int64) : Option WR := (k8_moveMirror a1 a2 g).bind fun w => wr1 3 w f w.2.1.toInt64
set_option maxRecDepth 100000 in
theorem v_moveMirror (E : EV) (tL : ClassId) (ao : Nat) (l : Launch) (hst : l.stackTraces = false) (a1 : Int32) (a2 : Int32) (g : G) (f : Nat → Int64) : ∀ u, w_moveMirror a1 a2 g f = some u → MO E tL ao l yL_moveMirror cL_moveMirror 5 [(0, 10, 13, 28)] [.ref (E.ad 0), .int a1, .int a2, .ref ao] g f u := by
  intro u h
  obtain ⟨w, hw, h⟩ := bind_inv h
  refine MO.of (by decide +kernel) (Nat.le_of_ble_eq_true rfl) ?_
  intro p e s m args below meth c C ht hr hO ls hl hG
  have C : Cx p s m args meth c cL_moveMirror 5 RL E := C
  have hx := C.1
  have hb := C.2.1
  have hl : lv_has ls 5 [(0, .ref (E.ad 0)), (1, .int a1), (2, .int a2), (3, .ref ao)] := hl
  refine lv_aload_n hx hb dL_moveMirror_0 rfl (lv_at hl 3 rfl) ?_
  refine lv_iconst (v := 0) hx hb dL_moveMirror_1 (by decide) ?_
  refine lv_aload_n hx hb dL_moveMirror_2 rfl (lv_at hl 0 rfl) ?_
  refine lv_iload_n hx hb dL_moveMirror_3 rfl (lv_at hl 1 rfl) ?_
  refine lv_iload_n hx hb dL_moveMirror_4 rfl (lv_at hl 2 rfl) ?_
  refine o_call C hl.1 hO hG [.int a1, .int a2] [.int 0, .ref ao] (m8_moveMirror E l hst a1 a2 g w hw) LL_74.1 LL_74.2 rfl KC8 rfl (rm_ok (by decide) (by decide)) (Nat.le_of_ble_eq_true rfl) ⟨Nat.le_of_ble_eq_true rfl, Nat.le_of_ble_eq_true rfl⟩ rfl dL_moveMirror_5 (fun h0 H locs hG => ?_) (fun h0 H locs q ce hG hce hcv hcl => ?_)
  · unfold wr1 at h
    rw [if_pos h0] at h
    refine lv_i2l hx hb dL_moveMirror_8 rfl ?_
    refine o_last C hO hG dL_moveMirror_9 (fun H locs hG => ?_)
    refine lv_goto (tgt := 17) hx hb dL_moveMirror_10 (by decide) ?_
    refine lv_iconst (v := 0) hx hb dL_moveMirror_17 (by decide) ?_
    exact o_iret C hG hr dL_moveMirror_18 ⟨Nat.le_of_ble_eq_true rfl, Nat.le_of_ble_eq_true rfl⟩ (Option.some.inj h)
  · unfold wr1 at h
    rw [if_neg h0] at h
    by_cases h1 : w.1 = 3
    · rw [if_pos h1] at h
      rw [h1] at hcl
      refine o_catch (k := 3) C hO ht [] (0, 10, 13, 28) [] rfl (by intro z hz; cases hz) (by decide) (by decide) (by decide) LKC_28 LCA_3 hce hcv hcl ?_
      refine lv_astore hx hb dL_moveMirror_13 hl (by decide) rfl (fun ls hl => ?_)
      refine lv_iconst (v := 1) hx hb dL_moveMirror_15 (by decide) ?_
      exact o_iret C hG hr dL_moveMirror_16 ⟨Nat.le_of_ble_eq_true rfl, Nat.le_of_ble_eq_true rfl⟩ (Option.some.inj h)
    rw [if_neg h1] at h
    cases h
def w_passMinutes (a1 : Int32) (g : G) (f : Nat → Int64) : Option WR := (k8_passMinutes a1 g).bind fun w => wr1 2 w f w.2.1.toInt64
set_option maxRecDepth 100000 in
theorem v_passMinutes (E : EV) (tL : ClassId) (ao : Nat) (l : Launch) (hst : l.stackTraces = false) (a1 : Int32) (g : G) (f : Nat → Int64) : ∀ u, w_passMinutes a1 g f = some u → MO E tL ao l yL_passMinutes cL_passMinutes 4 [(0, 9, 12, 19)] [.ref (E.ad 0), .int a1, .ref ao] g f u := by
  intro u h
  obtain ⟨w, hw, h⟩ := bind_inv h
  refine MO.of (by decide +kernel) (Nat.le_of_ble_eq_true rfl) ?_
  intro p e s m args below meth c C ht hr hO ls hl hG
  have C : Cx p s m args meth c cL_passMinutes 4 RL E := C
  have hx := C.1
  have hb := C.2.1
  have hl : lv_has ls 4 [(0, .ref (E.ad 0)), (1, .int a1), (2, .ref ao)] := hl
  refine lv_aload_n hx hb dL_passMinutes_0 rfl (lv_at hl 2 rfl) ?_
  refine lv_iconst (v := 0) hx hb dL_passMinutes_1 (by decide) ?_
  refine lv_aload_n hx hb dL_passMinutes_2 rfl (lv_at hl 0 rfl) ?_
  refine lv_iload_n hx hb dL_passMinutes_3 rfl (lv_at hl 1 rfl) ?_
  refine o_call C hl.1 hO hG [.int a1] [.int 0, .ref ao] (m8_passMinutes E l hst a1 g w hw) LL_77.1 LL_77.2 rfl KC8 rfl (rm_ok (by decide) (by decide)) (Nat.le_of_ble_eq_true rfl) ⟨Nat.le_of_ble_eq_true rfl, Nat.le_of_ble_eq_true rfl⟩ rfl dL_passMinutes_4 (fun h0 H locs hG => ?_) (fun h0 H locs q ce hG hce hcv hcl => ?_)
  · unfold wr1 at h
    rw [if_pos h0] at h
    refine lv_i2l hx hb dL_passMinutes_7 rfl ?_
    refine o_last C hO hG dL_passMinutes_8 (fun H locs hG => ?_)
    refine lv_goto (tgt := 15) hx hb dL_passMinutes_9 (by decide) ?_
    refine lv_iconst (v := 0) hx hb dL_passMinutes_15 (by decide) ?_
    exact o_iret C hG hr dL_passMinutes_16 ⟨Nat.le_of_ble_eq_true rfl, Nat.le_of_ble_eq_true rfl⟩ (Option.some.inj h)
  · unfold wr1 at h
    rw [if_neg h0] at h
    by_cases h1 : w.1 = 2
    · rw [if_pos h1] at h
      rw [h1] at hcl
      refine o_catch (k := 2) C hO ht [] (0, 9, 12, 19) [] rfl (by intro z hz; cases hz) (by decide) (by decide) (by decide) LKC_19 LCA_2 hce hcv hcl ?_
      refine lv_astore_n hx hb dL_passMinutes_12 rfl hl (by decide) rfl (fun ls hl => ?_)
      refine lv_iconst (v := 1) hx hb dL_passMinutes_13 (by decide) ?_
      exact o_iret C hG hr dL_passMinutes_14 ⟨Nat.le_of_ble_eq_true rfl, Nat.le_of_ble_eq_true rfl⟩ (Option.some.inj h)
    rw [if_neg h1] at h
    cases h
def w_lightAfter (a1 : Int32) (g : G) (f : Nat → Int64) : Option WR := (k8_lightAfter a1 g).bind fun w => wr1 2 w f w.2.1.toInt64
set_option maxRecDepth 100000 in
theorem v_lightAfter (E : EV) (tL : ClassId) (ao : Nat) (l : Launch) (hst : l.stackTraces = false) (a1 : Int32) (g : G) (f : Nat → Int64) : ∀ u, w_lightAfter a1 g f = some u → MO E tL ao l yL_lightAfter cL_lightAfter 4 [(0, 9, 12, 19)] [.ref (E.ad 0), .int a1, .ref ao] g f u := by
  intro u h
  obtain ⟨w, hw, h⟩ := bind_inv h
  refine MO.of (by decide +kernel) (Nat.le_of_ble_eq_true rfl) ?_
  intro p e s m args below meth c C ht hr hO ls hl hG
  have C : Cx p s m args meth c cL_lightAfter 4 RL E := C
  have hx := C.1
  have hb := C.2.1
  have hl : lv_has ls 4 [(0, .ref (E.ad 0)), (1, .int a1), (2, .ref ao)] := hl
  refine lv_aload_n hx hb dL_lightAfter_0 rfl (lv_at hl 2 rfl) ?_
  refine lv_iconst (v := 0) hx hb dL_lightAfter_1 (by decide) ?_
  refine lv_aload_n hx hb dL_lightAfter_2 rfl (lv_at hl 0 rfl) ?_
  refine lv_iload_n hx hb dL_lightAfter_3 rfl (lv_at hl 1 rfl) ?_
  refine o_call C hl.1 hO hG [.int a1] [.int 0, .ref ao] (m8_lightAfter E l hst a1 g w hw) LL_80.1 LL_80.2 rfl KC8 rfl (rm_ok (by decide) (by decide)) (Nat.le_of_ble_eq_true rfl) ⟨Nat.le_of_ble_eq_true rfl, Nat.le_of_ble_eq_true rfl⟩ rfl dL_lightAfter_4 (fun h0 H locs hG => ?_) (fun h0 H locs q ce hG hce hcv hcl => ?_)
  · unfold wr1 at h
    rw [if_pos h0] at h
    refine lv_i2l hx hb dL_lightAfter_7 rfl ?_
    refine o_last C hO hG dL_lightAfter_8 (fun H locs hG => ?_)
    refine lv_goto (tgt := 15) hx hb dL_lightAfter_9 (by decide) ?_
    refine lv_iconst (v := 0) hx hb dL_lightAfter_15 (by decide) ?_
    exact o_iret C hG hr dL_lightAfter_16 ⟨Nat.le_of_ble_eq_true rfl, Nat.le_of_ble_eq_true rfl⟩ (Option.some.inj h)
  · unfold wr1 at h
    rw [if_neg h0] at h
    by_cases h1 : w.1 = 2
    · rw [if_pos h1] at h
      rw [h1] at hcl
      refine o_catch (k := 2) C hO ht [] (0, 9, 12, 19) [] rfl (by intro z hz; cases hz) (by decide) (by decide) (by decide) LKC_19 LCA_2 hce hcv hcl ?_
      refine lv_astore_n hx hb dL_lightAfter_12 rfl hl (by decide) rfl (fun ls hl => ?_)
      refine lv_iconst (v := 1) hx hb dL_lightAfter_13 (by decide) ?_
      exact o_iret C hG hr dL_lightAfter_14 ⟨Nat.le_of_ble_eq_true rfl, Nat.le_of_ble_eq_true rfl⟩ (Option.some.inj h)
    rw [if_neg h1] at h
    cases h
def w_minutesUntilDone (a1 : Int32) (g : G) (f : Nat → Int64) : Option WR := (k8_minutesUntilDone a1 g).bind fun w => wr1 3 w f w.2.1.toInt64
set_option maxRecDepth 100000 in
theorem v_minutesUntilDone (E : EV) (tL : ClassId) (ao : Nat) (l : Launch) (hst : l.stackTraces = false) (a1 : Int32) (g : G) (f : Nat → Int64) : ∀ u, w_minutesUntilDone a1 g f = some u → MO E tL ao l yL_minutesUntilDone cL_minutesUntilDone 4 [(0, 9, 12, 28)] [.ref (E.ad 0), .int a1, .ref ao] g f u := by
  intro u h
  obtain ⟨w, hw, h⟩ := bind_inv h
  refine MO.of (by decide +kernel) (Nat.le_of_ble_eq_true rfl) ?_
  intro p e s m args below meth c C ht hr hO ls hl hG
  have C : Cx p s m args meth c cL_minutesUntilDone 4 RL E := C
  have hx := C.1
  have hb := C.2.1
  have hl : lv_has ls 4 [(0, .ref (E.ad 0)), (1, .int a1), (2, .ref ao)] := hl
  refine lv_aload_n hx hb dL_minutesUntilDone_0 rfl (lv_at hl 2 rfl) ?_
  refine lv_iconst (v := 0) hx hb dL_minutesUntilDone_1 (by decide) ?_
  refine lv_aload_n hx hb dL_minutesUntilDone_2 rfl (lv_at hl 0 rfl) ?_
  refine lv_iload_n hx hb dL_minutesUntilDone_3 rfl (lv_at hl 1 rfl) ?_
  refine o_call C hl.1 hO hG [.int a1] [.int 0, .ref ao] (m8_minutesUntilDone E l hst a1 g w hw) LL_83.1 LL_83.2 rfl KC8 rfl (rm_ok (by decide) (by decide)) (Nat.le_of_ble_eq_true rfl) ⟨Nat.le_of_ble_eq_true rfl, Nat.le_of_ble_eq_true rfl⟩ rfl dL_minutesUntilDone_4 (fun h0 H locs hG => ?_) (fun h0 H locs q ce hG hce hcv hcl => ?_)
  · unfold wr1 at h
    rw [if_pos h0] at h
    refine lv_i2l hx hb dL_minutesUntilDone_7 rfl ?_
    refine o_last C hO hG dL_minutesUntilDone_8 (fun H locs hG => ?_)
    refine lv_goto (tgt := 15) hx hb dL_minutesUntilDone_9 (by decide) ?_
    refine lv_iconst (v := 0) hx hb dL_minutesUntilDone_15 (by decide) ?_
    exact o_iret C hG hr dL_minutesUntilDone_16 ⟨Nat.le_of_ble_eq_true rfl, Nat.le_of_ble_eq_true rfl⟩ (Option.some.inj h)
  · unfold wr1 at h
    rw [if_neg h0] at h
    by_cases h1 : w.1 = 3
    · rw [if_pos h1] at h
      rw [h1] at hcl
      refine o_catch (k := 3) C hO ht [] (0, 9, 12, 28) [] rfl (by intro z hz; cases hz) (by decide) (by decide) (by decide) LKC_28 LCA_3 hce hcv hcl ?_
      refine lv_astore_n hx hb dL_minutesUntilDone_12 rfl hl (by decide) rfl (fun ls hl => ?_)
      refine lv_iconst (v := 1) hx hb dL_minutesUntilDone_13 (by decide) ?_
      exact o_iret C hG hr dL_minutesUntilDone_14 ⟨Nat.le_of_ble_eq_true rfl, Nat.le_of_ble_eq_true rfl⟩ (Option.some.inj h)
    rw [if_neg h1] at h
    cases h
def w_bestOffset (a1 : Int32) (g : G) (f : Nat → Int64) : Option WR := (k8_bestOffset a1 g).bind fun w => wr1 3 w f w.2.1.toInt64
set_option maxRecDepth 100000 in
theorem v_bestOffset (E : EV) (tL : ClassId) (ao : Nat) (l : Launch) (hst : l.stackTraces = false) (a1 : Int32) (g : G) (f : Nat → Int64) : ∀ u, w_bestOffset a1 g f = some u → MO E tL ao l yL_bestOffset cL_bestOffset 4 [(0, 9, 12, 28)] [.ref (E.ad 0), .int a1, .ref ao] g f u := by
  intro u h
  obtain ⟨w, hw, h⟩ := bind_inv h
  refine MO.of (by decide +kernel) (Nat.le_of_ble_eq_true rfl) ?_
  intro p e s m args below meth c C ht hr hO ls hl hG
  have C : Cx p s m args meth c cL_bestOffset 4 RL E := C
  have hx := C.1
  have hb := C.2.1
  have hl : lv_has ls 4 [(0, .ref (E.ad 0)), (1, .int a1), (2, .ref ao)] := hl
  refine lv_aload_n hx hb dL_bestOffset_0 rfl (lv_at hl 2 rfl) ?_
  refine lv_iconst (v := 0) hx hb dL_bestOffset_1 (by decide) ?_
  refine lv_aload_n hx hb dL_bestOffset_2 rfl (lv_at hl 0 rfl) ?_
  refine lv_iload_n hx hb dL_bestOffset_3 rfl (lv_at hl 1 rfl) ?_
  refine o_call C hl.1 hO hG [.int a1] [.int 0, .ref ao] (m8_bestOffset E l hst a1 g w hw) LL_86.1 LL_86.2 rfl KC8 rfl (rm_ok (by decide) (by decide)) (Nat.le_of_ble_eq_true rfl) ⟨Nat.le_of_ble_eq_true rfl, Nat.le_of_ble_eq_true rfl⟩ rfl dL_bestOffset_4 (fun h0 H locs hG => ?_) (fun h0 H locs q ce hG hce hcv hcl => ?_)
  · unfold wr1 at h
    rw [if_pos h0] at h
    refine lv_i2l hx hb dL_bestOffset_7 rfl ?_
    refine o_last C hO hG dL_bestOffset_8 (fun H locs hG => ?_)
    refine lv_goto (tgt := 15) hx hb dL_bestOffset_9 (by decide) ?_
    refine lv_iconst (v := 0) hx hb dL_bestOffset_15 (by decide) ?_
    exact o_iret C hG hr dL_bestOffset_16 ⟨Nat.le_of_ble_eq_true rfl, Nat.le_of_ble_eq_true rfl⟩ (Option.some.inj h)
  · unfold wr1 at h
    rw [if_neg h0] at h
    by_cases h1 : w.1 = 3
    · rw [if_pos h1] at h
      rw [h1] at hcl
      refine o_catch (k := 3) C hO ht [] (0, 9, 12, 28) [] rfl (by intro z hz; cases hz) (by decide) (by decide) (by decide) LKC_28 LCA_3 hce hcv hcl ?_
      refine lv_astore_n hx hb dL_bestOffset_12 rfl hl (by decide) rfl (fun ls hl => ?_)
      refine lv_iconst (v := 1) hx hb dL_bestOffset_13 (by decide) ?_
      exact o_iret C hG hr dL_bestOffset_14 ⟨Nat.le_of_ble_eq_true rfl, Nat.le_of_ble_eq_true rfl⟩ (Option.some.inj h)
    rw [if_neg h1] at h
    cases h
