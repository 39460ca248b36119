section
-- ===== PART A: goes FIRST, ahead of the names: the tables' words, and 'selects' of the private methods out of them =====
/-- a private method of a class that the tables say can be made, by its rows of tables_1 -/
def lw_okq (q : MethodName × Nat) : Prop := (q.1.cls ≠ "java/lang/invoke/MethodHandle" ∧ q.1.cls ≠ "java/lang/invoke/VarHandle") ∧ Cond.instantiable q.1.cls q.2 ∈ tables_1 ∧ Cond.privateMethod q.1 ∈ tables_1 ∧ Cond.instanceMethod q.1 ∈ tables_1
theorem lw_p0 : lw_okq (⟨"PeriscopeTrain$Row", "shine", "()V"⟩, 14) := ⟨⟨by decide +kernel, by decide +kernel⟩, List.mem_of_getElem? (i := 176) (by decide +kernel), List.mem_of_getElem? (i := 317) (by decide +kernel), List.mem_of_getElem? (i := 318) (by decide +kernel)⟩
theorem lw_p1 : lw_okq (⟨"PeriscopeTrain$Row", "has", "(I)Z"⟩, 14) := ⟨⟨by decide +kernel, by decide +kernel⟩, List.mem_of_getElem? (i := 176) (by decide +kernel), List.mem_of_getElem? (i := 325) (by decide +kernel), List.mem_of_getElem? (i := 326) (by decide +kernel)⟩
theorem lw_p2 : lw_okq (⟨"PeriscopeTrain$Row", "isWithinWidth", "(I)Z"⟩, 14) := ⟨⟨by decide +kernel, by decide +kernel⟩, List.mem_of_getElem? (i := 176) (by decide +kernel), List.mem_of_getElem? (i := 329) (by decide +kernel), List.mem_of_getElem? (i := 330) (by decide +kernel)⟩
theorem lw_p3 : lw_okq (⟨"java/lang/Throwable", "fillInStackTrace", "(I)Ljava/lang/Throwable;"⟩, 6) := ⟨⟨by decide +kernel, by decide +kernel⟩, List.mem_of_getElem? (i := 391) (by decide +kernel), List.mem_of_getElem? (i := 389) (by decide +kernel), List.mem_of_getElem? (i := 390) (by decide +kernel)⟩
theorem lw_p4 : lw_okq (⟨"PeriscopeTrain", "checkMirror", "(I)V"⟩, 9) := ⟨⟨by decide +kernel, by decide +kernel⟩, List.mem_of_getElem? (i := 33) (by decide +kernel), List.mem_of_getElem? (i := 428) (by decide +kernel), List.mem_of_getElem? (i := 429) (by decide +kernel)⟩
theorem lw_p5 : lw_okq (⟨"PeriscopeTrain", "checkJob", "(I)V"⟩, 9) := ⟨⟨by decide +kernel, by decide +kernel⟩, List.mem_of_getElem? (i := 33) (by decide +kernel), List.mem_of_getElem? (i := 502) (by decide +kernel), List.mem_of_getElem? (i := 503) (by decide +kernel)⟩
theorem lw_p6 : lw_okq (⟨"PeriscopeTrain$World", "follow", "(II)V"⟩, 6) := ⟨⟨by decide +kernel, by decide +kernel⟩, List.mem_of_getElem? (i := 170) (by decide +kernel), List.mem_of_getElem? (i := 574) (by decide +kernel), List.mem_of_getElem? (i := 575) (by decide +kernel)⟩
theorem lw_p7 : lw_okq (⟨"PeriscopeTrain$World", "carryOut", "(II)V"⟩, 6) := ⟨⟨by decide +kernel, by decide +kernel⟩, List.mem_of_getElem? (i := 170) (by decide +kernel), List.mem_of_getElem? (i := 581) (by decide +kernel), List.mem_of_getElem? (i := 582) (by decide +kernel)⟩
theorem lw_p8 : lw_okq (⟨"PeriscopeTrain$World", "pop", "()I"⟩, 6) := ⟨⟨by decide +kernel, by decide +kernel⟩, List.mem_of_getElem? (i := 170) (by decide +kernel), List.mem_of_getElem? (i := 585) (by decide +kernel), List.mem_of_getElem? (i := 586) (by decide +kernel)⟩
theorem lw_p9 : lw_okq (⟨"PeriscopeTrain$World", "push", "(I)V"⟩, 6) := ⟨⟨by decide +kernel, by decide +kernel⟩, List.mem_of_getElem? (i := 170) (by decide +kernel), List.mem_of_getElem? (i := 615) (by decide +kernel), List.mem_of_getElem? (i := 616) (by decide +kernel)⟩
theorem lw_p10 : lw_okq (⟨"PeriscopeTrain$World", "valueOf", "(II)I"⟩, 6) := ⟨⟨by decide +kernel, by decide +kernel⟩, List.mem_of_getElem? (i := 170) (by decide +kernel), List.mem_of_getElem? (i := 631) (by decide +kernel), List.mem_of_getElem? (i := 632) (by decide +kernel)⟩
theorem lw_p11 : lw_okq (⟨"PeriscopeTrain$World", "work", "()V"⟩, 6) := ⟨⟨by decide +kernel, by decide +kernel⟩, List.mem_of_getElem? (i := 170) (by decide +kernel), List.mem_of_getElem? (i := 642) (by decide +kernel), List.mem_of_getElem? (i := 643) (by decide +kernel)⟩
theorem lw_p12 : lw_okq (⟨"PeriscopeTrain$World", "minutesFor", "(II)I"⟩, 6) := ⟨⟨by decide +kernel, by decide +kernel⟩, List.mem_of_getElem? (i := 170) (by decide +kernel), List.mem_of_getElem? (i := 648) (by decide +kernel), List.mem_of_getElem? (i := 649) (by decide +kernel)⟩
theorem lw_p13 : lw_okq (⟨"PeriscopeTrain$World", "finish", "(II)V"⟩, 6) := ⟨⟨by decide +kernel, by decide +kernel⟩, List.mem_of_getElem? (i := 170) (by decide +kernel), List.mem_of_getElem? (i := 667) (by decide +kernel), List.mem_of_getElem? (i := 668) (by decide +kernel)⟩
theorem lw_p14 : lw_okq (⟨"PeriscopeTrain", "lightIfTurned", "(II)I"⟩, 9) := ⟨⟨by decide +kernel, by decide +kernel⟩, List.mem_of_getElem? (i := 33) (by decide +kernel), List.mem_of_getElem? (i := 719) (by decide +kernel), List.mem_of_getElem? (i := 720) (by decide +kernel)⟩
theorem lw_p15 : lw_okq (⟨"PeriscopeTrain", "digestOfMirror", "(JI)J"⟩, 9) := ⟨⟨by decide +kernel, by decide +kernel⟩, List.mem_of_getElem? (i := 33) (by decide +kernel), List.mem_of_getElem? (i := 745) (by decide +kernel), List.mem_of_getElem? (i := 746) (by decide +kernel)⟩
def lw_privs_1 : List (MethodName × Nat) := [(⟨"PeriscopeTrain$Row", "shine", "()V"⟩, 14), (⟨"PeriscopeTrain$Row", "has", "(I)Z"⟩, 14), (⟨"PeriscopeTrain$Row", "isWithinWidth", "(I)Z"⟩, 14), (⟨"java/lang/Throwable", "fillInStackTrace", "(I)Ljava/lang/Throwable;"⟩, 6), (⟨"PeriscopeTrain", "checkMirror", "(I)V"⟩, 9), (⟨"PeriscopeTrain", "checkJob", "(I)V"⟩, 9), (⟨"PeriscopeTrain$World", "follow", "(II)V"⟩, 6), (⟨"PeriscopeTrain$World", "carryOut", "(II)V"⟩, 6), (⟨"PeriscopeTrain$World", "pop", "()I"⟩, 6), (⟨"PeriscopeTrain$World", "push", "(I)V"⟩, 6), (⟨"PeriscopeTrain$World", "valueOf", "(II)I"⟩, 6), (⟨"PeriscopeTrain$World", "work", "()V"⟩, 6), (⟨"PeriscopeTrain$World", "minutesFor", "(II)I"⟩, 6), (⟨"PeriscopeTrain$World", "finish", "(II)V"⟩, 6), (⟨"PeriscopeTrain", "lightIfTurned", "(II)I"⟩, 9), (⟨"PeriscopeTrain", "digestOfMirror", "(JI)J"⟩, 9)]
theorem lw_r1 : ∀ q ∈ lw_privs_1, lw_okq q := List.forall_mem_cons.mpr ⟨lw_p0, List.forall_mem_cons.mpr ⟨lw_p1, List.forall_mem_cons.mpr ⟨lw_p2, List.forall_mem_cons.mpr ⟨lw_p3, List.forall_mem_cons.mpr ⟨lw_p4, List.forall_mem_cons.mpr ⟨lw_p5, List.forall_mem_cons.mpr ⟨lw_p6, List.forall_mem_cons.mpr ⟨lw_p7, List.forall_mem_cons.mpr ⟨lw_p8, List.forall_mem_cons.mpr ⟨lw_p9, List.forall_mem_cons.mpr ⟨lw_p10, List.forall_mem_cons.mpr ⟨lw_p11, List.forall_mem_cons.mpr ⟨lw_p12, List.forall_mem_cons.mpr ⟨lw_p13, List.forall_mem_cons.mpr ⟨lw_p14, List.forall_mem_cons.mpr ⟨lw_p15, fun _ h => absurd h List.not_mem_nil⟩⟩⟩⟩⟩⟩⟩⟩⟩⟩⟩⟩⟩⟩⟩⟩
theorem lw_p16 : lw_okq (⟨"PeriscopeTrain$Tokens", "readToken", "(I)I"⟩, 6) := ⟨⟨by decide +kernel, by decide +kernel⟩, List.mem_of_getElem? (i := 57) (by decide +kernel), List.mem_of_getElem? (i := 951) (by decide +kernel), List.mem_of_getElem? (i := 952) (by decide +kernel)⟩
theorem lw_p17 : lw_okq (⟨"PeriscopeTrain$Tokens", "readWord", "(I)I"⟩, 6) := ⟨⟨by decide +kernel, by decide +kernel⟩, List.mem_of_getElem? (i := 57) (by decide +kernel), List.mem_of_getElem? (i := 959) (by decide +kernel), List.mem_of_getElem? (i := 960) (by decide +kernel)⟩
theorem lw_p18 : lw_okq (⟨"PeriscopeTrain$Tokens", "add", "(III)V"⟩, 6) := ⟨⟨by decide +kernel, by decide +kernel⟩, List.mem_of_getElem? (i := 57) (by decide +kernel), List.mem_of_getElem? (i := 1007) (by decide +kernel), List.mem_of_getElem? (i := 1008) (by decide +kernel)⟩
theorem lw_p19 : lw_okq (⟨"PeriscopeTrain$Tokens", "readNumber", "(I)I"⟩, 6) := ⟨⟨by decide +kernel, by decide +kernel⟩, List.mem_of_getElem? (i := 57) (by decide +kernel), List.mem_of_getElem? (i := 1012) (by decide +kernel), List.mem_of_getElem? (i := 1013) (by decide +kernel)⟩
theorem lw_p20 : lw_okq (⟨"PeriscopeTrain$Tokens", "readSymbol", "(II)I"⟩, 6) := ⟨⟨by decide +kernel, by decide +kernel⟩, List.mem_of_getElem? (i := 57) (by decide +kernel), List.mem_of_getElem? (i := 1024) (by decide +kernel), List.mem_of_getElem? (i := 1025) (by decide +kernel)⟩
theorem lw_p21 : lw_okq (⟨"PeriscopeTrain$Grammar", "isNext", "(I)Z"⟩, 3) := ⟨⟨by decide +kernel, by decide +kernel⟩, List.mem_of_getElem? (i := 131) (by decide +kernel), List.mem_of_getElem? (i := 1092) (by decide +kernel), List.mem_of_getElem? (i := 1093) (by decide +kernel)⟩
theorem lw_p22 : lw_okq (⟨"PeriscopeTrain$Grammar", "line", "()Z"⟩, 3) := ⟨⟨by decide +kernel, by decide +kernel⟩, List.mem_of_getElem? (i := 131) (by decide +kernel), List.mem_of_getElem? (i := 1100) (by decide +kernel), List.mem_of_getElem? (i := 1101) (by decide +kernel)⟩
theorem lw_p23 : lw_okq (⟨"PeriscopeTrain$Grammar", "take", "(I)Z"⟩, 3) := ⟨⟨by decide +kernel, by decide +kernel⟩, List.mem_of_getElem? (i := 131) (by decide +kernel), List.mem_of_getElem? (i := 1104) (by decide +kernel), List.mem_of_getElem? (i := 1105) (by decide +kernel)⟩
theorem lw_p24 : lw_okq (⟨"PeriscopeTrain$Grammar", "mirror", "()Z"⟩, 3) := ⟨⟨by decide +kernel, by decide +kernel⟩, List.mem_of_getElem? (i := 131) (by decide +kernel), List.mem_of_getElem? (i := 1108) (by decide +kernel), List.mem_of_getElem? (i := 1109) (by decide +kernel)⟩
theorem lw_p25 : lw_okq (⟨"PeriscopeTrain$Grammar", "order", "(I)Z"⟩, 3) := ⟨⟨by decide +kernel, by decide +kernel⟩, List.mem_of_getElem? (i := 131) (by decide +kernel), List.mem_of_getElem? (i := 1112) (by decide +kernel), List.mem_of_getElem? (i := 1113) (by decide +kernel)⟩
theorem lw_p26 : lw_okq (⟨"PeriscopeTrain$Grammar", "sum", "(I)Z"⟩, 3) := ⟨⟨by decide +kernel, by decide +kernel⟩, List.mem_of_getElem? (i := 131) (by decide +kernel), List.mem_of_getElem? (i := 1118) (by decide +kernel), List.mem_of_getElem? (i := 1119) (by decide +kernel)⟩
theorem lw_p27 : lw_okq (⟨"PeriscopeTrain$Grammar", "product", "(I)Z"⟩, 3) := ⟨⟨by decide +kernel, by decide +kernel⟩, List.mem_of_getElem? (i := 131) (by decide +kernel), List.mem_of_getElem? (i := 1122) (by decide +kernel), List.mem_of_getElem? (i := 1123) (by decide +kernel)⟩
theorem lw_p28 : lw_okq (⟨"PeriscopeTrain$Grammar", "value", "(I)Z"⟩, 3) := ⟨⟨by decide +kernel, by decide +kernel⟩, List.mem_of_getElem? (i := 131) (by decide +kernel), List.mem_of_getElem? (i := 1126) (by decide +kernel), List.mem_of_getElem? (i := 1127) (by decide +kernel)⟩
theorem lw_p29 : lw_okq (⟨"PeriscopeTrain$Grammar", "pair", "(II)Z"⟩, 3) := ⟨⟨by decide +kernel, by decide +kernel⟩, List.mem_of_getElem? (i := 131) (by decide +kernel), List.mem_of_getElem? (i := 1134) (by decide +kernel), List.mem_of_getElem? (i := 1135) (by decide +kernel)⟩
theorem lw_p30 : lw_okq (⟨"PeriscopeTrain$Grammar", "test", "(I)Z"⟩, 3) := ⟨⟨by decide +kernel, by decide +kernel⟩, List.mem_of_getElem? (i := 131) (by decide +kernel), List.mem_of_getElem? (i := 1138) (by decide +kernel), List.mem_of_getElem? (i := 1139) (by decide +kernel)⟩
theorem lw_p31 : lw_okq (⟨"PeriscopeTrain$Grammar", "both", "(I)Z"⟩, 3) := ⟨⟨by decide +kernel, by decide +kernel⟩, List.mem_of_getElem? (i := 131) (by decide +kernel), List.mem_of_getElem? (i := 1142) (by decide +kernel), List.mem_of_getElem? (i := 1143) (by decide +kernel)⟩
def lw_privs_2 : List (MethodName × Nat) := [(⟨"PeriscopeTrain$Tokens", "readToken", "(I)I"⟩, 6), (⟨"PeriscopeTrain$Tokens", "readWord", "(I)I"⟩, 6), (⟨"PeriscopeTrain$Tokens", "add", "(III)V"⟩, 6), (⟨"PeriscopeTrain$Tokens", "readNumber", "(I)I"⟩, 6), (⟨"PeriscopeTrain$Tokens", "readSymbol", "(II)I"⟩, 6), (⟨"PeriscopeTrain$Grammar", "isNext", "(I)Z"⟩, 3), (⟨"PeriscopeTrain$Grammar", "line", "()Z"⟩, 3), (⟨"PeriscopeTrain$Grammar", "take", "(I)Z"⟩, 3), (⟨"PeriscopeTrain$Grammar", "mirror", "()Z"⟩, 3), (⟨"PeriscopeTrain$Grammar", "order", "(I)Z"⟩, 3), (⟨"PeriscopeTrain$Grammar", "sum", "(I)Z"⟩, 3), (⟨"PeriscopeTrain$Grammar", "product", "(I)Z"⟩, 3), (⟨"PeriscopeTrain$Grammar", "value", "(I)Z"⟩, 3), (⟨"PeriscopeTrain$Grammar", "pair", "(II)Z"⟩, 3), (⟨"PeriscopeTrain$Grammar", "test", "(I)Z"⟩, 3), (⟨"PeriscopeTrain$Grammar", "both", "(I)Z"⟩, 3)]
theorem lw_r2 : ∀ q ∈ lw_privs_2, lw_okq q := List.forall_mem_cons.mpr ⟨lw_p16, List.forall_mem_cons.mpr ⟨lw_p17, List.forall_mem_cons.mpr ⟨lw_p18, List.forall_mem_cons.mpr ⟨lw_p19, List.forall_mem_cons.mpr ⟨lw_p20, List.forall_mem_cons.mpr ⟨lw_p21, List.forall_mem_cons.mpr ⟨lw_p22, List.forall_mem_cons.mpr ⟨lw_p23, List.forall_mem_cons.mpr ⟨lw_p24, List.forall_mem_cons.mpr ⟨lw_p25, List.forall_mem_cons.mpr ⟨lw_p26, List.forall_mem_cons.mpr ⟨lw_p27, List.forall_mem_cons.mpr ⟨lw_p28, List.forall_mem_cons.mpr ⟨lw_p29, List.forall_mem_cons.mpr ⟨lw_p30, List.forall_mem_cons.mpr ⟨lw_p31, fun _ h => absurd h List.not_mem_nil⟩⟩⟩⟩⟩⟩⟩⟩⟩⟩⟩⟩⟩⟩⟩⟩
theorem lw_p32 : lw_okq (⟨"PeriscopeTrain$Grammar", "single", "(I)Z"⟩, 3) := ⟨⟨by decide +kernel, by decide +kernel⟩, List.mem_of_getElem? (i := 131) (by decide +kernel), List.mem_of_getElem? (i := 1146) (by decide +kernel), List.mem_of_getElem? (i := 1147) (by decide +kernel)⟩
theorem lw_p33 : lw_okq (⟨"PeriscopeTrain$Meaning", "errorOf", "(I)I"⟩, 5) := ⟨⟨by decide +kernel, by decide +kernel⟩, List.mem_of_getElem? (i := 147) (by decide +kernel), List.mem_of_getElem? (i := 1154) (by decide +kernel), List.mem_of_getElem? (i := 1155) (by decide +kernel)⟩
theorem lw_p34 : lw_okq (⟨"PeriscopeTrain$Meaning", "errorOfNewName", "(I)I"⟩, 5) := ⟨⟨by decide +kernel, by decide +kernel⟩, List.mem_of_getElem? (i := 147) (by decide +kernel), List.mem_of_getElem? (i := 1159) (by decide +kernel), List.mem_of_getElem? (i := 1160) (by decide +kernel)⟩
theorem lw_p35 : lw_okq (⟨"PeriscopeTrain$Meaning", "mirrorNamed", "(I)I"⟩, 5) := ⟨⟨by decide +kernel, by decide +kernel⟩, List.mem_of_getElem? (i := 147) (by decide +kernel), List.mem_of_getElem? (i := 1163) (by decide +kernel), List.mem_of_getElem? (i := 1164) (by decide +kernel)⟩
theorem lw_p36 : lw_okq (⟨"PeriscopeTrain$Meaning", "errorOfName", "(I)I"⟩, 5) := ⟨⟨by decide +kernel, by decide +kernel⟩, List.mem_of_getElem? (i := 147) (by decide +kernel), List.mem_of_getElem? (i := 1175) (by decide +kernel), List.mem_of_getElem? (i := 1176) (by decide +kernel)⟩
theorem lw_p37 : lw_okq (⟨"PeriscopeTrain$Meaning", "errorOfNumber", "(I)I"⟩, 5) := ⟨⟨by decide +kernel, by decide +kernel⟩, List.mem_of_getElem? (i := 147) (by decide +kernel), List.mem_of_getElem? (i := 1180) (by decide +kernel), List.mem_of_getElem? (i := 1181) (by decide +kernel)⟩
theorem lw_p38 : lw_okq (⟨"PeriscopeTrain$Meaning", "errorOfOrder", "()I"⟩, 5) := ⟨⟨by decide +kernel, by decide +kernel⟩, List.mem_of_getElem? (i := 147) (by decide +kernel), List.mem_of_getElem? (i := 1197) (by decide +kernel), List.mem_of_getElem? (i := 1198) (by decide +kernel)⟩
def lw_privs_3 : List (MethodName × Nat) := [(⟨"PeriscopeTrain$Grammar", "single", "(I)Z"⟩, 3), (⟨"PeriscopeTrain$Meaning", "errorOf", "(I)I"⟩, 5), (⟨"PeriscopeTrain$Meaning", "errorOfNewName", "(I)I"⟩, 5), (⟨"PeriscopeTrain$Meaning", "mirrorNamed", "(I)I"⟩, 5), (⟨"PeriscopeTrain$Meaning", "errorOfName", "(I)I"⟩, 5), (⟨"PeriscopeTrain$Meaning", "errorOfNumber", "(I)I"⟩, 5), (⟨"PeriscopeTrain$Meaning", "errorOfOrder", "()I"⟩, 5)]
theorem lw_r3 : ∀ q ∈ lw_privs_3, lw_okq q := List.forall_mem_cons.mpr ⟨lw_p32, List.forall_mem_cons.mpr ⟨lw_p33, List.forall_mem_cons.mpr ⟨lw_p34, List.forall_mem_cons.mpr ⟨lw_p35, List.forall_mem_cons.mpr ⟨lw_p36, List.forall_mem_cons.mpr ⟨lw_p37, List.forall_mem_cons.mpr ⟨lw_p38, fun _ h => absurd h List.not_mem_nil⟩⟩⟩⟩⟩⟩⟩
def lw_privs : List (MethodName × Nat) := lw_privs_1 ++ (lw_privs_2 ++ (lw_privs_3))
def lw_tbl : List Cond := k2_sels lw_privs ++ tables_1
theorem lw_privs_ok : ∀ q ∈ lw_privs, lw_okq q := by
  show ∀ q ∈ lw_privs_1 ++ (lw_privs_2 ++ (lw_privs_3)), lw_okq q
  exact List.forall_mem_append.mpr ⟨lw_r1, List.forall_mem_append.mpr ⟨lw_r2, lw_r3⟩⟩
/-- the streams that the claim lets the run draw from -/
abbrev lw_cs : List Choice := [Jvm.Choice.named "NaN.bits"]
theorem lw_bits : nanBits ∈ lw_cs := by first | decide | exact List.mem_cons_self | simp [lw_cs, nanBits]
-- ===== end of PART A; then your names; then what follows =====
def RX0 : String := "PeriscopeTrain$Grammar"
def TX0 : u_T := fun k => match k with
  | 0 => ("PeriscopeTrain$Grammar", "tokens", "LPeriscopeTrain$Tokens;", true)
  | 1 => ("PeriscopeTrain$Grammar", "draft", "LPeriscopeTrain$Plan;", true)
  | _ => ("PeriscopeTrain$Grammar", "at", "I", false)
def tyX0 : Nat → FieldType := fun k => match k with
  | 0 => .object "PeriscopeTrain$Tokens"
  | 1 => .object "PeriscopeTrain$Plan"
  | _ => .int
theorem nmX0 : ∀ a, a < 3 → ∀ b, b < 3 → a ≠ b → (TX0 a).2.1 ≠ (TX0 b).2.1 := by decide +kernel
theorem tyX0_ok : ∀ k, k < 3 → parseFieldDescriptor (TX0 k).2.2.1 = some (tyX0 k) := by decide +kernel
abbrev cX0_init : ByteArray := prog_2_method_1_code
def yX0_init : MethodName := ⟨RX0, "<init>", "(LPeriscopeTrain$Tokens;LPeriscopeTrain$Plan;)V"⟩
abbrev cX0_firstMisfit : ByteArray := prog_2_method_2_code
def yX0_firstMisfit : MethodName := ⟨RX0, "firstMisfit", "()I"⟩
abbrev cX0_isNext : ByteArray := prog_2_method_3_code
def yX0_isNext : MethodName := ⟨RX0, "isNext", "(I)Z"⟩
abbrev cX0_take : ByteArray := prog_2_method_4_code
def yX0_take : MethodName := ⟨RX0, "take", "(I)Z"⟩
abbrev cX0_line : ByteArray := prog_2_method_5_code
def yX0_line : MethodName := ⟨RX0, "line", "()Z"⟩
abbrev cX0_mirror : ByteArray := prog_2_method_6_code
def yX0_mirror : MethodName := ⟨RX0, "mirror", "()Z"⟩
abbrev cX0_order : ByteArray := prog_2_method_7_code
def yX0_order : MethodName := ⟨RX0, "order", "(I)Z"⟩
abbrev cX0_test : ByteArray := prog_2_method_8_code
def yX0_test : MethodName := ⟨RX0, "test", "(I)Z"⟩
abbrev cX0_both : ByteArray := prog_2_method_9_code
def yX0_both : MethodName := ⟨RX0, "both", "(I)Z"⟩
abbrev cX0_single : ByteArray := prog_2_method_10_code
def yX0_single : MethodName := ⟨RX0, "single", "(I)Z"⟩
abbrev cX0_sum : ByteArray := prog_2_method_11_code
def yX0_sum : MethodName := ⟨RX0, "sum", "(I)Z"⟩
abbrev cX0_product : ByteArray := prog_2_method_12_code
def yX0_product : MethodName := ⟨RX0, "product", "(I)Z"⟩
abbrev cX0_value : ByteArray := prog_2_method_13_code
def yX0_value : MethodName := ⟨RX0, "value", "(I)Z"⟩
abbrev cX0_pair : ByteArray := prog_2_method_14_code
def yX0_pair : MethodName := ⟨RX0, "pair", "(II)Z"⟩
def RX1 : String := "PeriscopeTrain$Meaning"
def TX1 : u_T := fun k => match k with
  | 0 => ("PeriscopeTrain$Meaning", "tape", "LPeriscopeTrain$Tape;", true)
  | 1 => ("PeriscopeTrain$Meaning", "tokens", "LPeriscopeTrain$Tokens;", true)
  | 2 => ("PeriscopeTrain$Meaning", "draft", "LPeriscopeTrain$Plan;", true)
  | 3 => ("PeriscopeTrain$Meaning", "names", "[I", true)
  | _ => ("PeriscopeTrain$Meaning", "error", "I", false)
def tyX1 : Nat → FieldType := fun k => match k with
  | 0 => .object "PeriscopeTrain$Tape"
  | 1 => .object "PeriscopeTrain$Tokens"
  | 2 => .object "PeriscopeTrain$Plan"
  | 3 => .array .int
  | _ => .int
theorem nmX1 : ∀ a, a < 5 → ∀ b, b < 5 → a ≠ b → (TX1 a).2.1 ≠ (TX1 b).2.1 := by decide +kernel
theorem tyX1_ok : ∀ k, k < 5 → parseFieldDescriptor (TX1 k).2.2.1 = some (tyX1 k) := by decide +kernel
abbrev cX1_init : ByteArray := prog_3_method_1_code
def yX1_init : MethodName := ⟨RX1, "<init>", "(LPeriscopeTrain$Tape;LPeriscopeTrain$Tokens;LPeriscopeTrain$Plan;)V"⟩
abbrev cX1_firstMistake : ByteArray := prog_3_method_2_code
def yX1_firstMistake : MethodName := ⟨RX1, "firstMistake", "()I"⟩
abbrev cX1_errorOf : ByteArray := prog_3_method_3_code
def yX1_errorOf : MethodName := ⟨RX1, "errorOf", "(I)I"⟩
abbrev cX1_errorOfNewName : ByteArray := prog_3_method_4_code
def yX1_errorOfNewName : MethodName := ⟨RX1, "errorOfNewName", "(I)I"⟩
abbrev cX1_errorOfName : ByteArray := prog_3_method_5_code
def yX1_errorOfName : MethodName := ⟨RX1, "errorOfName", "(I)I"⟩
abbrev cX1_mirrorNamed : ByteArray := prog_3_method_6_code
def yX1_mirrorNamed : MethodName := ⟨RX1, "mirrorNamed", "(I)I"⟩
abbrev cX1_errorOfOrder : ByteArray := prog_3_method_7_code
def yX1_errorOfOrder : MethodName := ⟨RX1, "errorOfOrder", "()I"⟩
abbrev cX1_errorOfNumber : ByteArray := prog_3_method_8_code
def yX1_errorOfNumber : MethodName := ⟨RX1, "errorOfNumber", "(I)I"⟩
def RX2 : String := "PeriscopeTrain$Plan"
def TX2 : u_T := fun k => match k with
  | 0 => ("PeriscopeTrain$Plan", "clarity", "[I", true)
  | 1 => ("PeriscopeTrain$Plan", "offset", "[I", true)
  | 2 => ("PeriscopeTrain$Plan", "step", "[I", true)
  | 3 => ("PeriscopeTrain$Plan", "value", "[I", true)
  | 4 => ("PeriscopeTrain$Plan", "mirrors", "I", false)
  | 5 => ("PeriscopeTrain$Plan", "orders", "I", false)
  | 6 => ("PeriscopeTrain$Plan", "width", "I", false)
  | 7 => ("PeriscopeTrain$Plan", "limit", "I", false)
  | _ => ("PeriscopeTrain$Plan", "length", "I", false)
def tyX2 : Nat → FieldType := fun k => match k with
  | 0 => .array .int
  | 1 => .array .int
  | 2 => .array .int
  | 3 => .array .int
  | 4 => .int
  | 5 => .int
  | 6 => .int
  | 7 => .int
  | _ => .int
theorem nmX2 : ∀ a, a < 9 → ∀ b, b < 9 → a ≠ b → (TX2 a).2.1 ≠ (TX2 b).2.1 := by decide +kernel
theorem tyX2_ok : ∀ k, k < 9 → parseFieldDescriptor (TX2 k).2.2.1 = some (tyX2 k) := by decide +kernel
abbrev cX2_init : ByteArray := prog_4_method_1_code
def yX2_init : MethodName := ⟨RX2, "<init>", "()V"⟩
abbrev cX2_clear : ByteArray := prog_4_method_2_code
def yX2_clear : MethodName := ⟨RX2, "clear", "()V"⟩
abbrev cX2_write : ByteArray := prog_4_method_3_code
def yX2_write : MethodName := ⟨RX2, "write", "(II)V"⟩
abbrev cX2_tellClarity : ByteArray := prog_4_method_4_code
def yX2_tellClarity : MethodName := ⟨RX2, "tellClarity", "(I)V"⟩
abbrev cX2_tellOffset : ByteArray := prog_4_method_5_code
def yX2_tellOffset : MethodName := ⟨RX2, "tellOffset", "(I)V"⟩
abbrev cX2_takeOver : ByteArray := prog_4_method_6_code
def yX2_takeOver : MethodName := ⟨RX2, "takeOver", "(LPeriscopeTrain$Plan;LPeriscopeTrain$Tokens;)V"⟩
def RX3 : String := "PeriscopeTrain$Queue"
def TX3 : u_T := fun k => match k with
  | 0 => ("PeriscopeTrain$Queue", "kind", "[I", true)
  | 1 => ("PeriscopeTrain$Queue", "mirror", "[I", true)
  | 2 => ("PeriscopeTrain$Queue", "size", "I", false)
  | 3 => ("PeriscopeTrain$Queue", "toGo", "I", false)
  | _ => ("PeriscopeTrain$Queue", "done", "I", false)
def tyX3 : Nat → FieldType := fun k => match k with
  | 0 => .array .int
  | 1 => .array .int
  | 2 => .int
  | 3 => .int
  | _ => .int
theorem nmX3 : ∀ a, a < 5 → ∀ b, b < 5 → a ≠ b → (TX3 a).2.1 ≠ (TX3 b).2.1 := by decide +kernel
theorem tyX3_ok : ∀ k, k < 5 → parseFieldDescriptor (TX3 k).2.2.1 = some (tyX3 k) := by decide +kernel
abbrev cX3_init : ByteArray := prog_5_method_1_code
def yX3_init : MethodName := ⟨RX3, "<init>", "()V"⟩
abbrev cX3_begin : ByteArray := prog_5_method_2_code
def yX3_begin : MethodName := ⟨RX3, "begin", "()V"⟩
abbrev cX3_copy : ByteArray := prog_5_method_3_code
def yX3_copy : MethodName := ⟨RX3, "copy", "(LPeriscopeTrain$Queue;)V"⟩
abbrev cX3_kindIn : ByteArray := prog_5_method_4_code
def yX3_kindIn : MethodName := ⟨RX3, "kindIn", "(I)I"⟩
abbrev cX3_mirrorIn : ByteArray := prog_5_method_5_code
def yX3_mirrorIn : MethodName := ⟨RX3, "mirrorIn", "(I)I"⟩
abbrev cX3_hasJobFor : ByteArray := prog_5_method_6_code
def yX3_hasJobFor : MethodName := ⟨RX3, "hasJobFor", "(I)Z"⟩
abbrev cX3_takesIn : ByteArray := prog_5_method_7_code
def yX3_takesIn : MethodName := ⟨RX3, "takesIn", "(II)Z"⟩
abbrev cX3_add : ByteArray := prog_5_method_8_code
def yX3_add : MethodName := ⟨RX3, "add", "(II)V"⟩
abbrev cX3_remove : ByteArray := prog_5_method_9_code
def yX3_remove : MethodName := ⟨RX3, "remove", "(I)V"⟩
def RX4 : String := "PeriscopeTrain$Row"
def TX4 : u_T := fun k => match k with
  | 0 => ("PeriscopeTrain$Row", "clarity", "[I", true)
  | 1 => ("PeriscopeTrain$Row", "best", "[I", true)
  | 2 => ("PeriscopeTrain$Row", "offset", "[I", true)
  | 3 => ("PeriscopeTrain$Row", "mirrorAtPlace", "[I", true)
  | 4 => ("PeriscopeTrain$Row", "light", "[I", true)
  | 5 => ("PeriscopeTrain$Row", "lost", "[I", true)
  | 6 => ("PeriscopeTrain$Row", "tilt", "[I", true)
  | 7 => ("PeriscopeTrain$Row", "count", "I", false)
  | 8 => ("PeriscopeTrain$Row", "width", "I", false)
  | 9 => ("PeriscopeTrain$Row", "limit", "I", false)
  | 10 => ("PeriscopeTrain$Row", "covered", "I", false)
  | 11 => ("PeriscopeTrain$Row", "endLight", "I", false)
  | 12 => ("PeriscopeTrain$Row", "endTilt", "I", false)
  | _ => ("PeriscopeTrain$Row", "isLit", "Z", false)
def tyX4 : Nat → FieldType := fun k => match k with
  | 0 => .array .int
  | 1 => .array .int
  | 2 => .array .int
  | 3 => .array .int
  | 4 => .array .int
  | 5 => .array .int
  | 6 => .array .int
  | 7 => .int
  | 8 => .int
  | 9 => .int
  | 10 => .int
  | 11 => .int
  | 12 => .int
  | _ => .boolean
theorem nmX4 : ∀ a, a < 14 → ∀ b, b < 14 → a ≠ b → (TX4 a).2.1 ≠ (TX4 b).2.1 := by decide +kernel
theorem tyX4_ok : ∀ k, k < 14 → parseFieldDescriptor (TX4 k).2.2.1 = some (tyX4 k) := by decide +kernel
abbrev cX4_init : ByteArray := prog_6_method_1_code
def yX4_init : MethodName := ⟨RX4, "<init>", "()V"⟩
abbrev cX4_begin : ByteArray := prog_6_method_2_code
def yX4_begin : MethodName := ⟨RX4, "begin", "(LPeriscopeTrain$Plan;)V"⟩
abbrev cX4_copy : ByteArray := prog_6_method_3_code
def yX4_copy : MethodName := ⟨RX4, "copy", "(LPeriscopeTrain$Row;)V"⟩
abbrev cX4_has : ByteArray := prog_6_method_4_code
def yX4_has : MethodName := ⟨RX4, "has", "(I)Z"⟩
abbrev cX4_mirrorIn : ByteArray := prog_6_method_5_code
def yX4_mirrorIn : MethodName := ⟨RX4, "mirrorIn", "(I)I"⟩
abbrev cX4_findPlace : ByteArray := prog_6_method_6_code
def yX4_findPlace : MethodName := ⟨RX4, "findPlace", "(I)I"⟩
abbrev cX4_valueOf : ByteArray := prog_6_method_7_code
def yX4_valueOf : MethodName := ⟨RX4, "valueOf", "(II)I"⟩
abbrev cX4_lastLight : ByteArray := prog_6_method_8_code
def yX4_lastLight : MethodName := ⟨RX4, "lastLight", "()I"⟩
abbrev cX4_lastTilt : ByteArray := prog_6_method_9_code
def yX4_lastTilt : MethodName := ⟨RX4, "lastTilt", "()I"⟩
abbrev cX4_showsLight : ByteArray := prog_6_method_10_code
def yX4_showsLight : MethodName := ⟨RX4, "showsLight", "()Z"⟩
abbrev cX4_mostLosing : ByteArray := prog_6_method_11_code
def yX4_mostLosing : MethodName := ⟨RX4, "mostLosing", "()I"⟩
abbrev cX4_isWithinWidth : ByteArray := prog_6_method_12_code
def yX4_isWithinWidth : MethodName := ⟨RX4, "isWithinWidth", "(I)Z"⟩
abbrev cX4_shine : ByteArray := prog_6_method_13_code
def yX4_shine : MethodName := ⟨RX4, "shine", "()V"⟩
abbrev cX4_cover : ByteArray := prog_6_method_14_code
def yX4_cover : MethodName := ⟨RX4, "cover", "(I)V"⟩
abbrev cX4_turn : ByteArray := prog_6_method_15_code
def yX4_turn : MethodName := ⟨RX4, "turn", "(II)V"⟩
abbrev cX4_shake : ByteArray := prog_6_method_16_code
def yX4_shake : MethodName := ⟨RX4, "shake", "(II)V"⟩
abbrev cX4_dim : ByteArray := prog_6_method_17_code
def yX4_dim : MethodName := ⟨RX4, "dim", "(III)V"⟩
abbrev cX4_dust : ByteArray := prog_6_method_18_code
def yX4_dust : MethodName := ⟨RX4, "dust", "(II)V"⟩
abbrev cX4_clean : ByteArray := prog_6_method_19_code
def yX4_clean : MethodName := ⟨RX4, "clean", "(I)V"⟩
abbrev cX4_replace : ByteArray := prog_6_method_20_code
def yX4_replace : MethodName := ⟨RX4, "replace", "(I)V"⟩
abbrev cX4_move : ByteArray := prog_6_method_21_code
def yX4_move : MethodName := ⟨RX4, "move", "(II)V"⟩
def RX5 : String := "PeriscopeTrain$Tape"
def TX5 : u_T := fun k => match k with
  | 0 => ("PeriscopeTrain$Tape", "bytes", "[B", true)
  | _ => ("PeriscopeTrain$Tape", "length", "I", false)
def tyX5 : Nat → FieldType := fun k => match k with
  | 0 => .array .byte
  | _ => .int
theorem nmX5 : ∀ a, a < 2 → ∀ b, b < 2 → a ≠ b → (TX5 a).2.1 ≠ (TX5 b).2.1 := by decide +kernel
theorem tyX5_ok : ∀ k, k < 2 → parseFieldDescriptor (TX5 k).2.2.1 = some (tyX5 k) := by decide +kernel
abbrev cX5_init : ByteArray := prog_7_method_1_code
def yX5_init : MethodName := ⟨RX5, "<init>", "()V"⟩
abbrev cX5_append : ByteArray := prog_7_method_2_code
def yX5_append : MethodName := ⟨RX5, "append", "(I)V"⟩
abbrev cX5_byteAt : ByteArray := prog_7_method_3_code
def yX5_byteAt : MethodName := ⟨RX5, "byteAt", "(I)I"⟩
abbrev cX5_skipBlanks : ByteArray := prog_7_method_4_code
def yX5_skipBlanks : MethodName := ⟨RX5, "skipBlanks", "(I)I"⟩
abbrev cX5_skipDigits : ByteArray := prog_7_method_5_code
def yX5_skipDigits : MethodName := ⟨RX5, "skipDigits", "(I)I"⟩
abbrev cX5_skipLettersAndDigits : ByteArray := prog_7_method_6_code
def yX5_skipLettersAndDigits : MethodName := ⟨RX5, "skipLettersAndDigits", "(I)I"⟩
abbrev cX5_holdsText : ByteArray := prog_7_method_7_code
def yX5_holdsText : MethodName := ⟨RX5, "holdsText", "(Ljava/lang/String;II)Z"⟩
abbrev cX5_holdsSame : ByteArray := prog_7_method_8_code
def yX5_holdsSame : MethodName := ⟨RX5, "holdsSame", "(III)Z"⟩
abbrev cX5_isBlank : ByteArray := prog_7_method_9_code
def yX5_isBlank : MethodName := ⟨RX5, "isBlank", "(I)Z"⟩
abbrev cX5_isLetter : ByteArray := prog_7_method_10_code
def yX5_isLetter : MethodName := ⟨RX5, "isLetter", "(I)Z"⟩
abbrev cX5_isDigit : ByteArray := prog_7_method_11_code
def yX5_isDigit : MethodName := ⟨RX5, "isDigit", "(I)Z"⟩
def RX6 : String := "PeriscopeTrain$Tokens"
def TX6 : u_T := fun k => match k with
  | 0 => ("PeriscopeTrain$Tokens", "tape", "LPeriscopeTrain$Tape;", true)
  | 1 => ("PeriscopeTrain$Tokens", "kind", "[I", true)
  | 2 => ("PeriscopeTrain$Tokens", "start", "[I", true)
  | 3 => ("PeriscopeTrain$Tokens", "size", "[I", true)
  | 4 => ("PeriscopeTrain$Tokens", "value", "[I", true)
  | _ => ("PeriscopeTrain$Tokens", "count", "I", false)
def tyX6 : Nat → FieldType := fun k => match k with
  | 0 => .object "PeriscopeTrain$Tape"
  | 1 => .array .int
  | 2 => .array .int
  | 3 => .array .int
  | 4 => .array .int
  | _ => .int
theorem nmX6 : ∀ a, a < 6 → ∀ b, b < 6 → a ≠ b → (TX6 a).2.1 ≠ (TX6 b).2.1 := by decide +kernel
theorem tyX6_ok : ∀ k, k < 6 → parseFieldDescriptor (TX6 k).2.2.1 = some (tyX6 k) := by decide +kernel
abbrev cX6_init : ByteArray := prog_8_method_1_code
def yX6_init : MethodName := ⟨RX6, "<init>", "(LPeriscopeTrain$Tape;)V"⟩
abbrev cX6_kindAt : ByteArray := prog_8_method_2_code
def yX6_kindAt : MethodName := ⟨RX6, "kindAt", "(I)I"⟩
abbrev cX6_valueAt : ByteArray := prog_8_method_3_code
def yX6_valueAt : MethodName := ⟨RX6, "valueAt", "(I)I"⟩
abbrev cX6_setValue : ByteArray := prog_8_method_4_code
def yX6_setValue : MethodName := ⟨RX6, "setValue", "(II)V"⟩
abbrev cX6_positionOf : ByteArray := prog_8_method_5_code
def yX6_positionOf : MethodName := ⟨RX6, "positionOf", "(I)I"⟩
abbrev cX6_areSameNames : ByteArray := prog_8_method_6_code
def yX6_areSameNames : MethodName := ⟨RX6, "areSameNames", "(II)Z"⟩
abbrev cX6_readTape : ByteArray := prog_8_method_7_code
def yX6_readTape : MethodName := ⟨RX6, "readTape", "()V"⟩
abbrev cX6_readToken : ByteArray := prog_8_method_8_code
def yX6_readToken : MethodName := ⟨RX6, "readToken", "(I)I"⟩
abbrev cX6_readWord : ByteArray := prog_8_method_9_code
def yX6_readWord : MethodName := ⟨RX6, "readWord", "(I)I"⟩
abbrev cX6_readNumber : ByteArray := prog_8_method_10_code
def yX6_readNumber : MethodName := ⟨RX6, "readNumber", "(I)I"⟩
abbrev cX6_readSymbol : ByteArray := prog_8_method_11_code
def yX6_readSymbol : MethodName := ⟨RX6, "readSymbol", "(II)I"⟩
abbrev cX6_add : ByteArray := prog_8_method_12_code
def yX6_add : MethodName := ⟨RX6, "add", "(III)V"⟩
abbrev cX6_keyword : ByteArray := prog_8_method_13_code
def yX6_keyword : MethodName := ⟨RX6, "keyword", "(I)Ljava/lang/String;"⟩
def RX7 : String := "PeriscopeTrain$World"
def TX7 : u_T := fun k => match k with
  | 0 => ("PeriscopeTrain$World", "plan", "LPeriscopeTrain$Plan;", true)
  | 1 => ("PeriscopeTrain$World", "row", "LPeriscopeTrain$Row;", true)
  | 2 => ("PeriscopeTrain$World", "queue", "LPeriscopeTrain$Queue;", true)
  | 3 => ("PeriscopeTrain$World", "answers", "[I", true)
  | 4 => ("PeriscopeTrain$World", "answered", "I", false)
  | _ => ("PeriscopeTrain$World", "minute", "I", false)
def tyX7 : Nat → FieldType := fun k => match k with
  | 0 => .object "PeriscopeTrain$Plan"
  | 1 => .object "PeriscopeTrain$Row"
  | 2 => .object "PeriscopeTrain$Queue"
  | 3 => .array .int
  | 4 => .int
  | _ => .int
theorem nmX7 : ∀ a, a < 6 → ∀ b, b < 6 → a ≠ b → (TX7 a).2.1 ≠ (TX7 b).2.1 := by decide +kernel
theorem tyX7_ok : ∀ k, k < 6 → parseFieldDescriptor (TX7 k).2.2.1 = some (tyX7 k) := by decide +kernel
abbrev cX7_init : ByteArray := prog_9_method_1_code
def yX7_init : MethodName := ⟨RX7, "<init>", "(LPeriscopeTrain$Plan;)V"⟩
abbrev cX7_begin : ByteArray := prog_9_method_2_code
def yX7_begin : MethodName := ⟨RX7, "begin", "()V"⟩
abbrev cX7_copy : ByteArray := prog_9_method_3_code
def yX7_copy : MethodName := ⟨RX7, "copy", "(LPeriscopeTrain$World;)V"⟩
abbrev cX7_pass : ByteArray := prog_9_method_4_code
def yX7_pass : MethodName := ⟨RX7, "pass", "(I)V"⟩
abbrev cX7_dropJob : ByteArray := prog_9_method_5_code
def yX7_dropJob : MethodName := ⟨RX7, "dropJob", "(I)V"⟩
abbrev cX7_follow : ByteArray := prog_9_method_6_code
def yX7_follow : MethodName := ⟨RX7, "follow", "(II)V"⟩
abbrev cX7_push : ByteArray := prog_9_method_7_code
def yX7_push : MethodName := ⟨RX7, "push", "(I)V"⟩
abbrev cX7_pop : ByteArray := prog_9_method_8_code
def yX7_pop : MethodName := ⟨RX7, "pop", "()I"⟩
abbrev cX7_carryOut : ByteArray := prog_9_method_9_code
def yX7_carryOut : MethodName := ⟨RX7, "carryOut", "(II)V"⟩
abbrev cX7_valueOf : ByteArray := prog_9_method_10_code
def yX7_valueOf : MethodName := ⟨RX7, "valueOf", "(II)I"⟩
abbrev cX7_joinsTwo : ByteArray := prog_9_method_11_code
def yX7_joinsTwo : MethodName := ⟨RX7, "joinsTwo", "(I)Z"⟩
abbrev cX7_join : ByteArray := prog_9_method_12_code
def yX7_join : MethodName := ⟨RX7, "join", "(III)I"⟩
abbrev cX7_work : ByteArray := prog_9_method_13_code
def yX7_work : MethodName := ⟨RX7, "work", "()V"⟩
abbrev cX7_minutesFor : ByteArray := prog_9_method_14_code
def yX7_minutesFor : MethodName := ⟨RX7, "minutesFor", "(II)I"⟩
abbrev cX7_finish : ByteArray := prog_9_method_15_code
def yX7_finish : MethodName := ⟨RX7, "finish", "(II)V"⟩
def RX8 : String := "PeriscopeTrain"
def TX8 : u_T := fun k => match k with
  | 0 => ("PeriscopeTrain", "tape", "LPeriscopeTrain$Tape;", true)
  | 1 => ("PeriscopeTrain", "tokens", "LPeriscopeTrain$Tokens;", true)
  | 2 => ("PeriscopeTrain", "grammar", "LPeriscopeTrain$Grammar;", true)
  | 3 => ("PeriscopeTrain", "meaning", "LPeriscopeTrain$Meaning;", true)
  | 4 => ("PeriscopeTrain", "draft", "LPeriscopeTrain$Plan;", true)
  | 5 => ("PeriscopeTrain", "plan", "LPeriscopeTrain$Plan;", true)
  | 6 => ("PeriscopeTrain", "now", "LPeriscopeTrain$World;", true)
  | 7 => ("PeriscopeTrain", "would", "LPeriscopeTrain$World;", true)
  | _ => ("PeriscopeTrain", "errorPosition", "I", false)
def tyX8 : Nat → FieldType := fun k => match k with
  | 0 => .object "PeriscopeTrain$Tape"
  | 1 => .object "PeriscopeTrain$Tokens"
  | 2 => .object "PeriscopeTrain$Grammar"
  | 3 => .object "PeriscopeTrain$Meaning"
  | 4 => .object "PeriscopeTrain$Plan"
  | 5 => .object "PeriscopeTrain$Plan"
  | 6 => .object "PeriscopeTrain$World"
  | 7 => .object "PeriscopeTrain$World"
  | _ => .int
theorem nmX8 : ∀ a, a < 9 → ∀ b, b < 9 → a ≠ b → (TX8 a).2.1 ≠ (TX8 b).2.1 := by decide +kernel
theorem tyX8_ok : ∀ k, k < 9 → parseFieldDescriptor (TX8 k).2.2.1 = some (tyX8 k) := by decide +kernel
abbrev cX8_init : ByteArray := prog_1_method_1_code
def yX8_init : MethodName := ⟨RX8, "<init>", "()V"⟩
abbrev cX8_feed : ByteArray := prog_1_method_2_code
def yX8_feed : MethodName := ⟨RX8, "feed", "(IIIII)I"⟩
abbrev cX8_trim : ByteArray := prog_1_method_3_code
def yX8_trim : MethodName := ⟨RX8, "trim", "(I)I"⟩
abbrev cX8_teach : ByteArray := prog_1_method_4_code
def yX8_teach : MethodName := ⟨RX8, "teach", "()I"⟩
abbrev cX8_mirrors : ByteArray := prog_1_method_6_code
def yX8_mirrors : MethodName := ⟨RX8, "mirrors", "()I"⟩
abbrev cX8_orders : ByteArray := prog_1_method_7_code
def yX8_orders : MethodName := ⟨RX8, "orders", "()I"⟩
abbrev cX8_minutes : ByteArray := prog_1_method_8_code
def yX8_minutes : MethodName := ⟨RX8, "minutes", "()I"⟩
abbrev cX8_tapeBytes : ByteArray := prog_1_method_9_code
def yX8_tapeBytes : MethodName := ⟨RX8, "tapeBytes", "()I"⟩
abbrev cX8_lightAtEnd : ByteArray := prog_1_method_10_code
def yX8_lightAtEnd : MethodName := ⟨RX8, "lightAtEnd", "()I"⟩
abbrev cX8_tiltAtEnd : ByteArray := prog_1_method_11_code
def yX8_tiltAtEnd : MethodName := ⟨RX8, "tiltAtEnd", "()I"⟩
abbrev cX8_isSeen : ByteArray := prog_1_method_12_code
def yX8_isSeen : MethodName := ⟨RX8, "isSeen", "()Z"⟩
abbrev cX8_worstMirror : ByteArray := prog_1_method_13_code
def yX8_worstMirror : MethodName := ⟨RX8, "worstMirror", "()I"⟩
abbrev cX8_clarityOf : ByteArray := prog_1_method_14_code
def yX8_clarityOf : MethodName := ⟨RX8, "clarityOf", "(I)I"⟩
abbrev cX8_bestClarityOf : ByteArray := prog_1_method_15_code
def yX8_bestClarityOf : MethodName := ⟨RX8, "bestClarityOf", "(I)I"⟩
abbrev cX8_offsetOf : ByteArray := prog_1_method_16_code
def yX8_offsetOf : MethodName := ⟨RX8, "offsetOf", "(I)I"⟩
abbrev cX8_placeOf : ByteArray := prog_1_method_17_code
def yX8_placeOf : MethodName := ⟨RX8, "placeOf", "(I)I"⟩
abbrev cX8_lightBehind : ByteArray := prog_1_method_18_code
def yX8_lightBehind : MethodName := ⟨RX8, "lightBehind", "(I)I"⟩
abbrev cX8_lostAt : ByteArray := prog_1_method_19_code
def yX8_lostAt : MethodName := ⟨RX8, "lostAt", "(I)I"⟩
abbrev cX8_tiltBehind : ByteArray := prog_1_method_20_code
def yX8_tiltBehind : MethodName := ⟨RX8, "tiltBehind", "(I)I"⟩
abbrev cX8_isCovered : ByteArray := prog_1_method_21_code
def yX8_isCovered : MethodName := ⟨RX8, "isCovered", "(I)Z"⟩
abbrev cX8_mirrorAt : ByteArray := prog_1_method_22_code
def yX8_mirrorAt : MethodName := ⟨RX8, "mirrorAt", "(I)I"⟩
abbrev cX8_jobs : ByteArray := prog_1_method_23_code
def yX8_jobs : MethodName := ⟨RX8, "jobs", "()I"⟩
abbrev cX8_jobsDone : ByteArray := prog_1_method_24_code
def yX8_jobsDone : MethodName := ⟨RX8, "jobsDone", "()I"⟩
abbrev cX8_kindOfJob : ByteArray := prog_1_method_25_code
def yX8_kindOfJob : MethodName := ⟨RX8, "kindOfJob", "(I)I"⟩
abbrev cX8_mirrorOfJob : ByteArray := prog_1_method_26_code
def yX8_mirrorOfJob : MethodName := ⟨RX8, "mirrorOfJob", "(I)I"⟩
abbrev cX8_minutesToGo : ByteArray := prog_1_method_27_code
def yX8_minutesToGo : MethodName := ⟨RX8, "minutesToGo", "()I"⟩
abbrev cX8_orderJob : ByteArray := prog_1_method_28_code
def yX8_orderJob : MethodName := ⟨RX8, "orderJob", "(II)I"⟩
abbrev cX8_cancelJob : ByteArray := prog_1_method_29_code
def yX8_cancelJob : MethodName := ⟨RX8, "cancelJob", "(I)I"⟩
abbrev cX8_turnMirror : ByteArray := prog_1_method_30_code
def yX8_turnMirror : MethodName := ⟨RX8, "turnMirror", "(II)I"⟩
abbrev cX8_dustMirror : ByteArray := prog_1_method_31_code
def yX8_dustMirror : MethodName := ⟨RX8, "dustMirror", "(II)I"⟩
abbrev cX8_moveMirror : ByteArray := prog_1_method_32_code
def yX8_moveMirror : MethodName := ⟨RX8, "moveMirror", "(II)I"⟩
abbrev cX8_passMinutes : ByteArray := prog_1_method_33_code
def yX8_passMinutes : MethodName := ⟨RX8, "passMinutes", "(I)I"⟩
abbrev cX8_lightAfter : ByteArray := prog_1_method_34_code
def yX8_lightAfter : MethodName := ⟨RX8, "lightAfter", "(I)I"⟩
abbrev cX8_minutesUntilSeen : ByteArray := prog_1_method_35_code
def yX8_minutesUntilSeen : MethodName := ⟨RX8, "minutesUntilSeen", "()I"⟩
abbrev cX8_minutesUntilDone : ByteArray := prog_1_method_36_code
def yX8_minutesUntilDone : MethodName := ⟨RX8, "minutesUntilDone", "(I)I"⟩
abbrev cX8_bestToClean : ByteArray := prog_1_method_37_code
def yX8_bestToClean : MethodName := ⟨RX8, "bestToClean", "()I"⟩
abbrev cX8_bestOffset : ByteArray := prog_1_method_38_code
def yX8_bestOffset : MethodName := ⟨RX8, "bestOffset", "(I)I"⟩
abbrev cX8_meanClarity : ByteArray := prog_1_method_39_code
def yX8_meanClarity : MethodName := ⟨RX8, "meanClarity", "()D"⟩
abbrev cX8_digest : ByteArray := prog_1_method_40_code
def yX8_digest : MethodName := ⟨RX8, "digest", "()J"⟩
abbrev cX8_digestOfMirror : ByteArray := prog_1_method_41_code
def yX8_digestOfMirror : MethodName := ⟨RX8, "digestOfMirror", "(JI)J"⟩
abbrev cX8_lightIfTurned : ByteArray := prog_1_method_42_code
def yX8_lightIfTurned : MethodName := ⟨RX8, "lightIfTurned", "(II)I"⟩
abbrev cX8_checkMirror : ByteArray := prog_1_method_43_code
def yX8_checkMirror : MethodName := ⟨RX8, "checkMirror", "(I)V"⟩
abbrev cX8_checkJob : ByteArray := prog_1_method_44_code
def yX8_checkJob : MethodName := ⟨RX8, "checkJob", "(I)V"⟩
abbrev cX8_checkMinutes : ByteArray := prog_1_method_45_code
def yX8_checkMinutes : MethodName := ⟨RX8, "checkMinutes", "(I)V"⟩
abbrev cX8_isOrder : ByteArray := prog_1_method_46_code
def yX8_isOrder : MethodName := ⟨RX8, "isOrder", "(I)Z"⟩
abbrev cX8_isOrderBySum : ByteArray := prog_1_method_47_code
def yX8_isOrderBySum : MethodName := ⟨RX8, "isOrderBySum", "(I)Z"⟩
abbrev cX8_hold : ByteArray := prog_1_method_48_code
def yX8_hold : MethodName := ⟨RX8, "hold", "(JII)I"⟩
def RX9 : String := "PeriscopeTrainLaw$Dice"
def TX9 : u_T := fun k => match k with
  | _ => ("PeriscopeTrainLaw$Dice", "state", "I", false)
def tyX9 : Nat → FieldType := fun k => match k with
  | _ => .int
theorem nmX9 : ∀ a, a < 1 → ∀ b, b < 1 → a ≠ b → (TX9 a).2.1 ≠ (TX9 b).2.1 := by decide +kernel
theorem tyX9_ok : ∀ k, k < 1 → parseFieldDescriptor (TX9 k).2.2.1 = some (tyX9 k) := by decide +kernel
abbrev cX9_init : ByteArray := prog_11_method_1_code
def yX9_init : MethodName := ⟨RX9, "<init>", "(I)V"⟩
abbrev cX9_next : ByteArray := prog_11_method_2_code
def yX9_next : MethodName := ⟨RX9, "next", "(I)I"⟩
def RX10 : String := "PeriscopeTrainLaw$Node"
def TX10 : u_T := fun k => match k with
  | 0 => ("PeriscopeTrainLaw$Node", "sort", "I", true)
  | 1 => ("PeriscopeTrainLaw$Node", "n", "I", true)
  | 2 => ("PeriscopeTrainLaw$Node", "a", "LPeriscopeTrainLaw$Node;", true)
  | _ => ("PeriscopeTrainLaw$Node", "b", "LPeriscopeTrainLaw$Node;", true)
def tyX10 : Nat → FieldType := fun k => match k with
  | 0 => .int
  | 1 => .int
  | 2 => .object "PeriscopeTrainLaw$Node"
  | _ => .object "PeriscopeTrainLaw$Node"
theorem nmX10 : ∀ a, a < 4 → ∀ b, b < 4 → a ≠ b → (TX10 a).2.1 ≠ (TX10 b).2.1 := by decide +kernel
theorem tyX10_ok : ∀ k, k < 4 → parseFieldDescriptor (TX10 k).2.2.1 = some (tyX10 k) := by decide +kernel
abbrev cX10_init : ByteArray := prog_12_method_1_code
def yX10_init : MethodName := ⟨RX10, "<init>", "(IILPeriscopeTrainLaw$Node;LPeriscopeTrainLaw$Node;)V"⟩
abbrev cX10_sum : ByteArray := prog_12_method_2_code
def yX10_sum : MethodName := ⟨RX10, "sum", "(LPeriscopeTrainLaw$Dice;II)LPeriscopeTrainLaw$Node;"⟩
abbrev cX10_test : ByteArray := prog_12_method_3_code
def yX10_test : MethodName := ⟨RX10, "test", "(LPeriscopeTrainLaw$Dice;II)LPeriscopeTrainLaw$Node;"⟩
abbrev cX10_text : ByteArray := prog_12_method_4_code
def yX10_text : MethodName := ⟨RX10, "text", "()Ljava/lang/String;"⟩
abbrev cX10_value : ByteArray := prog_12_method_5_code
def yX10_value : MethodName := ⟨RX10, "value", "(LPeriscopeTrainLaw$Train;)I"⟩
abbrev cX10_both : ByteArray := prog_12_method_6_code
def yX10_both : MethodName := ⟨RX10, "both", "(III)I"⟩
def RX11 : String := "PeriscopeTrainLaw$Order"
def TX11 : u_T := fun k => match k with
  | 0 => ("PeriscopeTrainLaw$Order", "does", "I", true)
  | 1 => ("PeriscopeTrainLaw$Order", "mirror", "I", true)
  | 2 => ("PeriscopeTrainLaw$Order", "sum", "LPeriscopeTrainLaw$Node;", true)
  | _ => ("PeriscopeTrainLaw$Order", "test", "LPeriscopeTrainLaw$Node;", true)
def tyX11 : Nat → FieldType := fun k => match k with
  | 0 => .int
  | 1 => .int
  | 2 => .object "PeriscopeTrainLaw$Node"
  | _ => .object "PeriscopeTrainLaw$Node"
theorem nmX11 : ∀ a, a < 4 → ∀ b, b < 4 → a ≠ b → (TX11 a).2.1 ≠ (TX11 b).2.1 := by decide +kernel
theorem tyX11_ok : ∀ k, k < 4 → parseFieldDescriptor (TX11 k).2.2.1 = some (tyX11 k) := by decide +kernel
abbrev cX11_init : ByteArray := prog_13_method_1_code
def yX11_init : MethodName := ⟨RX11, "<init>", "(LPeriscopeTrainLaw$Dice;I)V"⟩
abbrev cX11_text : ByteArray := prog_13_method_2_code
def yX11_text : MethodName := ⟨RX11, "text", "()Ljava/lang/String;"⟩
abbrev cX11_held : ByteArray := prog_13_method_3_code
def yX11_held : MethodName := ⟨RX11, "held", "(JII)I"⟩
abbrev cX11_carryOut : ByteArray := prog_13_method_4_code
def yX11_carryOut : MethodName := ⟨RX11, "carryOut", "(LPeriscopeTrainLaw$Train;)V"⟩
def RX12 : String := "PeriscopeTrainLaw$Train"
def TX12 : u_T := fun k => match k with
  | 0 => ("PeriscopeTrainLaw$Train", "width", "I", false)
  | 1 => ("PeriscopeTrainLaw$Train", "limit", "I", false)
  | 2 => ("PeriscopeTrainLaw$Train", "mirrors", "[[I", false)
  | 3 => ("PeriscopeTrainLaw$Train", "row", "[I", false)
  | 4 => ("PeriscopeTrainLaw$Train", "jobs", "[[I", false)
  | 5 => ("PeriscopeTrainLaw$Train", "toGo", "I", false)
  | 6 => ("PeriscopeTrainLaw$Train", "minutes", "I", false)
  | 7 => ("PeriscopeTrainLaw$Train", "done", "I", false)
  | _ => ("PeriscopeTrainLaw$Train", "orders", "[LPeriscopeTrainLaw$Order;", false)
def tyX12 : Nat → FieldType := fun k => match k with
  | 0 => .int
  | 1 => .int
  | 2 => .array (.array .int)
  | 3 => .array .int
  | 4 => .array (.array .int)
  | 5 => .int
  | 6 => .int
  | 7 => .int
  | _ => .array (.object "PeriscopeTrainLaw$Order")
theorem nmX12 : ∀ a, a < 9 → ∀ b, b < 9 → a ≠ b → (TX12 a).2.1 ≠ (TX12 b).2.1 := by decide +kernel
theorem tyX12_ok : ∀ k, k < 9 → parseFieldDescriptor (TX12 k).2.2.1 = some (tyX12 k) := by decide +kernel
abbrev cX12_init : ByteArray := prog_14_method_1_code
def yX12_init : MethodName := ⟨RX12, "<init>", "()V"⟩
abbrev cX12_add : ByteArray := prog_14_method_3_code
def yX12_add : MethodName := ⟨RX12, "add", "(II)V"⟩
abbrev cX12_tilt : ByteArray := prog_14_method_4_code
def yX12_tilt : MethodName := ⟨RX12, "tilt", "(I)I"⟩
abbrev cX12_isCovered : ByteArray := prog_14_method_5_code
def yX12_isCovered : MethodName := ⟨RX12, "isCovered", "(I)Z"⟩
abbrev cX12_light : ByteArray := prog_14_method_6_code
def yX12_light : MethodName := ⟨RX12, "light", "(I)I"⟩
abbrev cX12_end : ByteArray := prog_14_method_7_code
def yX12_end : MethodName := ⟨RX12, "end", "()I"⟩
abbrev cX12_isSeen : ByteArray := prog_14_method_8_code
def yX12_isSeen : MethodName := ⟨RX12, "isSeen", "()Z"⟩
abbrev cX12_place : ByteArray := prog_14_method_9_code
def yX12_place : MethodName := ⟨RX12, "place", "(I)I"⟩
abbrev cX12_waits : ByteArray := prog_14_method_10_code
def yX12_waits : MethodName := ⟨RX12, "waits", "(I)Z"⟩
abbrev cX12_order : ByteArray := prog_14_method_11_code
def yX12_order : MethodName := ⟨RX12, "order", "(II)Z"⟩
abbrev cX12_take : ByteArray := prog_14_method_12_code
def yX12_take : MethodName := ⟨RX12, "take", "(I)[I"⟩
abbrev cX12_move : ByteArray := prog_14_method_13_code
def yX12_move : MethodName := ⟨RX12, "move", "(II)V"⟩
abbrev cX12_pass : ByteArray := prog_14_method_14_code
def yX12_pass : MethodName := ⟨RX12, "pass", "()I"⟩
abbrev cX12_pass_ : ByteArray := prog_14_method_15_code
def yX12_pass_ : MethodName := ⟨RX12, "pass", "(I)I"⟩
abbrev cX12_isSame : ByteArray := prog_14_method_16_code
def yX12_isSame : MethodName := ⟨RX12, "isSame", "(LPeriscopeTrain;)Z"⟩
def RX13 : String := "PeriscopeTrainModel$State"
def TX13 : u_T := fun k => match k with
  | _ => ("", "", "", false)
def tyX13 : Nat → FieldType := fun k => match k with
  | _ => .int
theorem nmX13 : ∀ a, a < 0 → ∀ b, b < 0 → a ≠ b → (TX13 a).2.1 ≠ (TX13 b).2.1 := by decide +kernel
theorem tyX13_ok : ∀ k, k < 0 → parseFieldDescriptor (TX13 k).2.2.1 = some (tyX13 k) := by decide +kernel
def RX14 : String := "PeriscopeTrainModel$Told"
def TX14 : u_T := fun k => match k with
  | _ => ("", "", "", false)
def tyX14 : Nat → FieldType := fun k => match k with
  | _ => .int
theorem nmX14 : ∀ a, a < 0 → ∀ b, b < 0 → a ≠ b → (TX14 a).2.1 ≠ (TX14 b).2.1 := by decide +kernel
theorem tyX14_ok : ∀ k, k < 0 → parseFieldDescriptor (TX14 k).2.2.1 = some (tyX14 k) := by decide +kernel
def RX15 : String := "PeriscopeTrainModel"
def TX15 : u_T := fun k => match k with
  | _ => ("", "", "", false)
def tyX15 : Nat → FieldType := fun k => match k with
  | _ => .int
theorem nmX15 : ∀ a, a < 0 → ∀ b, b < 0 → a ≠ b → (TX15 a).2.1 ≠ (TX15 b).2.1 := by decide +kernel
theorem tyX15_ok : ∀ k, k < 0 → parseFieldDescriptor (TX15 k).2.2.1 = some (tyX15 k) := by decide +kernel
def RJ5 : String := "java/lang/AbstractStringBuilder"
def TJ5 : u_T := fun k => match k with
  | _ => ("", "", "", false)
def tyJ5 : Nat → FieldType := fun k => match k with
  | _ => .int
theorem nmJ5 : ∀ a, a < 0 → ∀ b, b < 0 → a ≠ b → (TJ5 a).2.1 ≠ (TJ5 b).2.1 := by decide +kernel
theorem tyJ5_ok : ∀ k, k < 0 → parseFieldDescriptor (TJ5 k).2.2.1 = some (tyJ5 k) := by decide +kernel
abbrev cJ5_init_d00df : ByteArray := prog_18_method_2_code
def yJ5_init_d00df : MethodName := ⟨RJ5, "<init>", "(I)V"⟩
abbrev cJ5_length_8abf5 : ByteArray := prog_18_method_6_code
def yJ5_length_8abf5 : MethodName := ⟨RJ5, "length", "()I"⟩
abbrev cJ5_ensureCapacityInternal_d00df : ByteArray := prog_18_method_9_code
def yJ5_ensureCapacityInternal_d00df : MethodName := ⟨RJ5, "ensureCapacityInternal", "(I)V"⟩
abbrev cJ5_newCapacity_0f7a4 : ByteArray := prog_18_method_10_code
def yJ5_newCapacity_0f7a4 : MethodName := ⟨RJ5, "newCapacity", "(I)I"⟩
abbrev cJ5_inflate_da8c8 : ByteArray := prog_18_method_11_code
def yJ5_inflate_da8c8 : MethodName := ⟨RJ5, "inflate", "()V"⟩
abbrev cJ5_append_cf1ce : ByteArray := prog_18_method_22_code
def yJ5_append_cf1ce : MethodName := ⟨RJ5, "append", "(Ljava/lang/String;)Ljava/lang/AbstractStringBuilder;"⟩
abbrev cJ5_appendNull_278bc : ByteArray := prog_18_method_26_code
def yJ5_appendNull_278bc : MethodName := ⟨RJ5, "appendNull", "()Ljava/lang/AbstractStringBuilder;"⟩
abbrev cJ5_append_c97b9 : ByteArray := prog_18_method_32_code
def yJ5_append_c97b9 : MethodName := ⟨RJ5, "append", "(I)Ljava/lang/AbstractStringBuilder;"⟩
abbrev cJ5_getValue_6d5f1 : ByteArray := prog_18_method_64_code
def yJ5_getValue_6d5f1 : MethodName := ⟨RJ5, "getValue", "()[B"⟩
abbrev cJ5_isLatin1_aae02 : ByteArray := prog_18_method_68_code
def yJ5_isLatin1_aae02 : MethodName := ⟨RJ5, "isLatin1", "()Z"⟩
abbrev cJ5_inflateIfNeededFor_a7421 : ByteArray := prog_18_method_71_code
def yJ5_inflateIfNeededFor_a7421 : MethodName := ⟨RJ5, "inflateIfNeededFor", "(Ljava/lang/String;)V"⟩
abbrev cJ5_putStringAt_47b60 : ByteArray := prog_18_method_73_code
def yJ5_putStringAt_47b60 : MethodName := ⟨RJ5, "putStringAt", "(ILjava/lang/String;)V"⟩
def RJ11 : String := "java/lang/Character"
def TJ11 : u_T := fun k => match k with
  | _ => ("", "", "", false)
def tyJ11 : Nat → FieldType := fun k => match k with
  | _ => .int
theorem nmJ11 : ∀ a, a < 0 → ∀ b, b < 0 → a ≠ b → (TJ11 a).2.1 ≠ (TJ11 b).2.1 := by decide +kernel
theorem tyJ11_ok : ∀ k, k < 0 → parseFieldDescriptor (TJ11 k).2.2.1 = some (tyJ11 k) := by decide +kernel
abbrev cJ11_isValidCodePoint_9a6ad : ByteArray := prog_19_method_11_code
def yJ11_isValidCodePoint_9a6ad : MethodName := ⟨RJ11, "isValidCodePoint", "(I)Z"⟩
abbrev cJ11_highSurrogate_5068e : ByteArray := prog_19_method_28_code
def yJ11_highSurrogate_5068e : MethodName := ⟨RJ11, "highSurrogate", "(I)C"⟩
abbrev cJ11_lowSurrogate_5068e : ByteArray := prog_19_method_29_code
def yJ11_lowSurrogate_5068e : MethodName := ⟨RJ11, "lowSurrogate", "(I)C"⟩
def RJx8e188 : String := "java/lang/Cloneable"
def RJ6 : String := "java/lang/Integer"
def TJ6 : u_T := fun k => match k with
  | _ => ("", "", "", false)
def tyJ6 : Nat → FieldType := fun k => match k with
  | _ => .int
theorem nmJ6 : ∀ a, a < 0 → ∀ b, b < 0 → a ≠ b → (TJ6 a).2.1 ≠ (TJ6 b).2.1 := by decide +kernel
theorem tyJ6_ok : ∀ k, k < 0 → parseFieldDescriptor (TJ6 k).2.2.1 = some (tyJ6 k) := by decide +kernel
abbrev cJ6_getChars_ba4f3 : ByteArray := prog_25_method_12_code
def yJ6_getChars_ba4f3 : MethodName := ⟨RJ6, "getChars", "(II[B)I"⟩
abbrev cJ6_stringSize_0f7a4 : ByteArray := prog_25_method_13_code
def yJ6_stringSize_0f7a4 : MethodName := ⟨RJ6, "stringSize", "(I)I"⟩
def RJ9 : String := "java/lang/Math"
def TJ9 : u_T := fun k => match k with
  | _ => ("", "", "", false)
def tyJ9 : Nat → FieldType := fun k => match k with
  | _ => .int
theorem nmJ9 : ∀ a, a < 0 → ∀ b, b < 0 → a ≠ b → (TJ9 a).2.1 ≠ (TJ9 b).2.1 := by decide +kernel
theorem tyJ9_ok : ∀ k, k < 0 → parseFieldDescriptor (TJ9 k).2.2.1 = some (tyJ9 k) := by decide +kernel
abbrev cJ9_abs_0f7a4 : ByteArray := prog_26_method_59_code
def yJ9_abs_0f7a4 : MethodName := ⟨RJ9, "abs", "(I)I"⟩
abbrev cJ9_max_7cf53 : ByteArray := prog_26_method_65_code
def yJ9_max_7cf53 : MethodName := ⟨RJ9, "max", "(II)I"⟩
abbrev cJ9_max_f86c9 : ByteArray := prog_26_method_66_code
def yJ9_max_f86c9 : MethodName := ⟨RJ9, "max", "(JJ)J"⟩
abbrev cJ9_min_7cf53 : ByteArray := prog_26_method_69_code
def yJ9_min_7cf53 : MethodName := ⟨RJ9, "min", "(II)I"⟩
abbrev cJ9_min_f86c9 : ByteArray := prog_26_method_70_code
def yJ9_min_f86c9 : MethodName := ⟨RJ9, "min", "(JJ)J"⟩
def RJ0 : String := "java/lang/String"
def TJ0 : u_T := fun k => match k with
  | 0 => ("java/lang/String", "value", "[B", true)
  | 1 => ("java/lang/String", "coder", "B", true)
  | 2 => ("java/lang/String", "hash", "I", false)
  | _ => ("java/lang/String", "hashIsZero", "Z", false)
def tyJ0 : Nat → FieldType := fun k => match k with
  | 0 => .array .byte
  | 1 => .byte
  | 2 => .int
  | _ => .boolean
theorem nmJ0 : ∀ a, a < 4 → ∀ b, b < 4 → a ≠ b → (TJ0 a).2.1 ≠ (TJ0 b).2.1 := by decide +kernel
theorem tyJ0_ok : ∀ k, k < 4 → parseFieldDescriptor (TJ0 k).2.2.1 = some (tyJ0 k) := by decide +kernel
abbrev cJ0_init_81219 : ByteArray := prog_28_method_53_code
def yJ0_init_81219 : MethodName := ⟨RJ0, "<init>", "(Ljava/lang/StringBuilder;)V"⟩
abbrev cJ0_length_8abf5 : ByteArray := prog_28_method_54_code
def yJ0_length_8abf5 : MethodName := ⟨RJ0, "length", "()I"⟩
abbrev cJ0_charAt_5068e : ByteArray := prog_28_method_56_code
def yJ0_charAt_5068e : MethodName := ⟨RJ0, "charAt", "(I)C"⟩
abbrev cJ0_indexOf_0f7a4 : ByteArray := prog_28_method_79_code
def yJ0_indexOf_0f7a4 : MethodName := ⟨RJ0, "indexOf", "(I)I"⟩
abbrev cJ0_indexOf_7cf53 : ByteArray := prog_28_method_80_code
def yJ0_indexOf_7cf53 : MethodName := ⟨RJ0, "indexOf", "(II)I"⟩
abbrev cJ0_getBytes_840e7 : ByteArray := prog_28_method_147_code
def yJ0_getBytes_840e7 : MethodName := ⟨RJ0, "getBytes", "([BIB)V"⟩
abbrev cJ0_init_db425 : ByteArray := prog_28_method_150_code
def yJ0_init_db425 : MethodName := ⟨RJ0, "<init>", "(Ljava/lang/AbstractStringBuilder;Ljava/lang/Void;)V"⟩
abbrev cJ0_coder_7d493 : ByteArray := prog_28_method_152_code
def yJ0_coder_7d493 : MethodName := ⟨RJ0, "coder", "()B"⟩
abbrev cJ0_isLatin1_aae02 : ByteArray := prog_28_method_154_code
def yJ0_isLatin1_aae02 : MethodName := ⟨RJ0, "isLatin1", "()Z"⟩
abbrev cJ0_checkIndex_df160 : ByteArray := prog_28_method_155_code
def yJ0_checkIndex_df160 : MethodName := ⟨RJ0, "checkIndex", "(II)V"⟩
abbrev cJ0_checkBoundsOffCount_cabcc : ByteArray := prog_28_method_157_code
def yJ0_checkBoundsOffCount_cabcc : MethodName := ⟨RJ0, "checkBoundsOffCount", "(III)I"⟩
abbrev cJ0_checkBoundsBeginEnd_23922 : ByteArray := prog_28_method_158_code
def yJ0_checkBoundsBeginEnd_23922 : MethodName := ⟨RJ0, "checkBoundsBeginEnd", "(III)V"⟩
def RJ4 : String := "java/lang/StringBuilder"
def TJ4 : u_T := fun k => match k with
  | 0 => ("java/lang/AbstractStringBuilder", "value", "[B", false)
  | 1 => ("java/lang/AbstractStringBuilder", "coder", "B", false)
  | 2 => ("java/lang/AbstractStringBuilder", "maybeLatin1", "Z", false)
  | _ => ("java/lang/AbstractStringBuilder", "count", "I", false)
def tyJ4 : Nat → FieldType := fun k => match k with
  | 0 => .array .byte
  | 1 => .byte
  | 2 => .boolean
  | _ => .int
theorem nmJ4 : ∀ a, a < 4 → ∀ b, b < 4 → a ≠ b → (TJ4 a).2.1 ≠ (TJ4 b).2.1 := by decide +kernel
theorem tyJ4_ok : ∀ k, k < 4 → parseFieldDescriptor (TJ4 k).2.2.1 = some (tyJ4 k) := by decide +kernel
abbrev cJ4_init_da8c8 : ByteArray := prog_29_method_1_code
def yJ4_init_da8c8 : MethodName := ⟨RJ4, "<init>", "()V"⟩
abbrev cJ4_append_15ec4 : ByteArray := prog_29_method_7_code
def yJ4_append_15ec4 : MethodName := ⟨RJ4, "append", "(Ljava/lang/String;)Ljava/lang/StringBuilder;"⟩
abbrev cJ4_append_bf812 : ByteArray := prog_29_method_15_code
def yJ4_append_bf812 : MethodName := ⟨RJ4, "append", "(I)Ljava/lang/StringBuilder;"⟩
abbrev cJ4_toString_0e30d : ByteArray := prog_29_method_42_code
def yJ4_toString_0e30d : MethodName := ⟨RJ4, "toString", "()Ljava/lang/String;"⟩
abbrev cJ4_length_8abf5 : ByteArray := prog_29_method_93_code
def yJ4_length_8abf5 : MethodName := ⟨RJ4, "length", "()I"⟩
def RJ1 : String := "java/lang/StringLatin1"
def TJ1 : u_T := fun k => match k with
  | _ => ("", "", "", false)
def tyJ1 : Nat → FieldType := fun k => match k with
  | _ => .int
theorem nmJ1 : ∀ a, a < 0 → ∀ b, b < 0 → a ≠ b → (TJ1 a).2.1 ≠ (TJ1 b).2.1 := by decide +kernel
theorem tyJ1_ok : ∀ k, k < 0 → parseFieldDescriptor (TJ1 k).2.2.1 = some (tyJ1 k) := by decide +kernel
abbrev cJ1_charAt_3b067 : ByteArray := prog_30_method_2_code
def yJ1_charAt_3b067 : MethodName := ⟨RJ1, "charAt", "([BI)C"⟩
abbrev cJ1_canEncode_9a6ad : ByteArray := prog_30_method_4_code
def yJ1_canEncode_9a6ad : MethodName := ⟨RJ1, "canEncode", "(I)Z"⟩
abbrev cJ1_indexOf_4cfef : ByteArray := prog_30_method_22_code
def yJ1_indexOf_4cfef : MethodName := ⟨RJ1, "indexOf", "([BIII)I"⟩
abbrev cJ1_indexOfChar_4cfef : ByteArray := prog_30_method_23_code
def yJ1_indexOfChar_4cfef : MethodName := ⟨RJ1, "indexOfChar", "([BIII)I"⟩
abbrev cJ1_inflate_0e8fd : ByteArray := prog_30_method_50_code
def yJ1_inflate_0e8fd : MethodName := ⟨RJ1, "inflate", "([BI[BII)V"⟩
def RJ2 : String := "java/lang/StringUTF16"
def TJ2 : u_T := fun k => match k with
  | _ => ("", "", "", false)
def tyJ2 : Nat → FieldType := fun k => match k with
  | _ => .int
theorem nmJ2 : ∀ a, a < 0 → ∀ b, b < 0 → a ≠ b → (TJ2 a).2.1 ≠ (TJ2 b).2.1 := by decide +kernel
theorem tyJ2_ok : ∀ k, k < 0 → parseFieldDescriptor (TJ2 k).2.2.1 = some (tyJ2 k) := by decide +kernel
abbrev cJ2_newBytesFor_77867 : ByteArray := prog_31_method_2_code
def yJ2_newBytesFor_77867 : MethodName := ⟨RJ2, "newBytesFor", "(I)[B"⟩
abbrev cJ2_newBytesLength_0f7a4 : ByteArray := prog_31_method_3_code
def yJ2_newBytesLength_0f7a4 : MethodName := ⟨RJ2, "newBytesLength", "(I)I"⟩
abbrev cJ2_putChar_b72d1 : ByteArray := prog_31_method_4_code
def yJ2_putChar_b72d1 : MethodName := ⟨RJ2, "putChar", "([BII)V"⟩
abbrev cJ2_getChar_3b067 : ByteArray := prog_31_method_5_code
def yJ2_getChar_3b067 : MethodName := ⟨RJ2, "getChar", "([BI)C"⟩
abbrev cJ2_length_9d52b : ByteArray := prog_31_method_6_code
def yJ2_length_9d52b : MethodName := ⟨RJ2, "length", "([B)I"⟩
abbrev cJ2_coderFromArrayLen_85cad : ByteArray := prog_31_method_15_code
def yJ2_coderFromArrayLen_85cad : MethodName := ⟨RJ2, "coderFromArrayLen", "([BI)B"⟩
abbrev cJ2_compress_39247 : ByteArray := prog_31_method_17_code
def yJ2_compress_39247 : MethodName := ⟨RJ2, "compress", "([BII)[B"⟩
abbrev cJ2_compress_5af95 : ByteArray := prog_31_method_22_code
def yJ2_compress_5af95 : MethodName := ⟨RJ2, "compress", "([BI[BII)I"⟩
abbrev cJ2_indexOf_4cfef : ByteArray := prog_31_method_40_code
def yJ2_indexOf_4cfef : MethodName := ⟨RJ2, "indexOf", "([BIII)I"⟩
abbrev cJ2_indexOfChar_4cfef : ByteArray := prog_31_method_47_code
def yJ2_indexOfChar_4cfef : MethodName := ⟨RJ2, "indexOfChar", "([BIII)I"⟩
abbrev cJ2_indexOfCharUnsafe_4cfef : ByteArray := prog_31_method_48_code
def yJ2_indexOfCharUnsafe_4cfef : MethodName := ⟨RJ2, "indexOfCharUnsafe", "([BIII)I"⟩
abbrev cJ2_indexOfSupplementary_4cfef : ByteArray := prog_31_method_49_code
def yJ2_indexOfSupplementary_4cfef : MethodName := ⟨RJ2, "indexOfSupplementary", "([BIII)I"⟩
abbrev cJ2_getChars_46870 : ByteArray := prog_31_method_77_code
def yJ2_getChars_46870 : MethodName := ⟨RJ2, "getChars", "(III[B)I"⟩
abbrev cJ2_putCharsAt_cd4e5 : ByteArray := prog_31_method_81_code
def yJ2_putCharsAt_cd4e5 : MethodName := ⟨RJ2, "putCharsAt", "([BICCCC)I"⟩
abbrev cJ2_charAt_3b067 : ByteArray := prog_31_method_83_code
def yJ2_charAt_3b067 : MethodName := ⟨RJ2, "charAt", "([BI)C"⟩
abbrev cJ2_inflate_0e8fd : ByteArray := prog_31_method_86_code
def yJ2_inflate_0e8fd : MethodName := ⟨RJ2, "inflate", "([BI[BII)V"⟩
abbrev cJ2_getChars_ba4f3 : ByteArray := prog_31_method_89_code
def yJ2_getChars_ba4f3 : MethodName := ⟨RJ2, "getChars", "(II[B)I"⟩
abbrev cJ2_checkIndex_2214a : ByteArray := prog_31_method_91_code
def yJ2_checkIndex_2214a : MethodName := ⟨RJ2, "checkIndex", "(I[B)V"⟩
abbrev cJ2_checkBoundsBeginEnd_d044e : ByteArray := prog_31_method_93_code
def yJ2_checkBoundsBeginEnd_d044e : MethodName := ⟨RJ2, "checkBoundsBeginEnd", "(II[B)V"⟩
abbrev cJ2_checkBoundsOffCount_d044e : ByteArray := prog_31_method_94_code
def yJ2_checkBoundsOffCount_d044e : MethodName := ⟨RJ2, "checkBoundsOffCount", "(II[B)V"⟩
def RJ10 : String := "java/lang/System"
def TJ10 : u_T := fun k => match k with
  | _ => ("", "", "", false)
def tyJ10 : Nat → FieldType := fun k => match k with
  | _ => .int
theorem nmJ10 : ∀ a, a < 0 → ∀ b, b < 0 → a ≠ b → (TJ10 a).2.1 ≠ (TJ10 b).2.1 := by decide +kernel
theorem tyJ10_ok : ∀ k, k < 0 → parseFieldDescriptor (TJ10 k).2.2.1 = some (tyJ10 k) := by decide +kernel
def RJ7 : String := "java/util/Arrays"
def TJ7 : u_T := fun k => match k with
  | _ => ("", "", "", false)
def tyJ7 : Nat → FieldType := fun k => match k with
  | _ => .int
theorem nmJ7 : ∀ a, a < 0 → ∀ b, b < 0 → a ≠ b → (TJ7 a).2.1 ≠ (TJ7 b).2.1 := by decide +kernel
theorem tyJ7_ok : ∀ k, k < 0 → parseFieldDescriptor (TJ7 k).2.2.1 = some (tyJ7 k) := by decide +kernel
abbrev cJ7_copyOf_9075b : ByteArray := prog_34_method_121_code
def yJ7_copyOf_9075b : MethodName := ⟨RJ7, "copyOf", "([BI)[B"⟩
abbrev cJ7_checkLength_df160 : ByteArray := prog_34_method_131_code
def yJ7_checkLength_df160 : MethodName := ⟨RJ7, "checkLength", "(II)V"⟩
abbrev cJ7_copyOfRange_39247 : ByteArray := prog_34_method_132_code
def yJ7_copyOfRange_39247 : MethodName := ⟨RJ7, "copyOfRange", "([BII)[B"⟩
abbrev cJ7_copyOfRangeByte_39247 : ByteArray := prog_34_method_133_code
def yJ7_copyOfRangeByte_39247 : MethodName := ⟨RJ7, "copyOfRangeByte", "([BII)[B"⟩
def RJ8 : String := "jdk/internal/util/ArraysSupport"
def TJ8 : u_T := fun k => match k with
  | _ => ("", "", "", false)
def tyJ8 : Nat → FieldType := fun k => match k with
  | _ => .int
theorem nmJ8 : ∀ a, a < 0 → ∀ b, b < 0 → a ≠ b → (TJ8 a).2.1 ≠ (TJ8 b).2.1 := by decide +kernel
theorem tyJ8_ok : ∀ k, k < 0 → parseFieldDescriptor (TJ8 k).2.2.1 = some (tyJ8 k) := by decide +kernel
abbrev cJ8_newLength_cabcc : ByteArray := prog_35_method_27_code
def yJ8_newLength_cabcc : MethodName := ⟨RJ8, "newLength", "(III)I"⟩
abbrev cJ8_hugeLength_7cf53 : ByteArray := prog_35_method_28_code
def yJ8_hugeLength_7cf53 : MethodName := ⟨RJ8, "hugeLength", "(II)I"⟩
def RJ3 : String := "jdk/internal/util/Preconditions"
def TJ3 : u_T := fun k => match k with
  | _ => ("", "", "", false)
def tyJ3 : Nat → FieldType := fun k => match k with
  | _ => .int
theorem nmJ3 : ∀ a, a < 0 → ∀ b, b < 0 → a ≠ b → (TJ3 a).2.1 ≠ (TJ3 b).2.1 := by decide +kernel
theorem tyJ3_ok : ∀ k, k < 0 → parseFieldDescriptor (TJ3 k).2.2.1 = some (tyJ3 k) := by decide +kernel
abbrev cJ3_checkIndex_8e157 : ByteArray := prog_36_method_11_code
def yJ3_checkIndex_8e157 : MethodName := ⟨RJ3, "checkIndex", "(IILjava/util/function/BiFunction;)I"⟩
abbrev cJ3_checkFromToIndex_8c36e : ByteArray := prog_36_method_12_code
def yJ3_checkFromToIndex_8c36e : MethodName := ⟨RJ3, "checkFromToIndex", "(IIILjava/util/function/BiFunction;)I"⟩
abbrev cJ3_checkFromIndexSize_8c36e : ByteArray := prog_36_method_13_code
def yJ3_checkFromIndexSize_8c36e : MethodName := ⟨RJ3, "checkFromIndexSize", "(IIILjava/util/function/BiFunction;)I"⟩
def RL : String := "PeriscopeTrainLaw"
abbrev cL_below : ByteArray := method_2_code
def yL_below : MethodName := ⟨RL, "below", "(II)I"⟩
abbrev cL_cell : ByteArray := method_3_code
def yL_cell : MethodName := ⟨RL, "cell", "([II)I"⟩
abbrev cL_taught : ByteArray := method_4_code
def yL_taught : MethodName := ⟨RL, "taught", "(LPeriscopeTrain;Ljava/lang/String;)I"⟩
abbrev cL_drawn : ByteArray := method_5_code
def yL_drawn : MethodName := ⟨RL, "drawn", "(LPeriscopeTrainLaw$Dice;Ljava/lang/StringBuilder;II)LPeriscopeTrainLaw$Train;"⟩
abbrev cL_act : ByteArray := method_6_code
def yL_act : MethodName := ⟨RL, "act", "(LPeriscopeTrain;LPeriscopeTrainLaw$Train;LPeriscopeTrainLaw$Dice;)Z"⟩
abbrev cL_law : ByteArray := code
def yL_law : MethodName := ⟨RL, "law", "([I)Z"⟩
abbrev vwCl : List vw_C := [(RJ0, TJ0, 4), (RJ4, TJ4, 4), (RX0, TX0, 3), (RX1, TX1, 5), (RX2, TX2, 9), (RX3, TX3, 5), (RX4, TX4, 14), (RX5, TX5, 2), (RX6, TX6, 6), (RX7, TX7, 6), (RX8, TX8, 9), (RX9, TX9, 1), (RX10, TX10, 4), (RX11, TX11, 4), (RX12, TX12, 9)]
end
section
/-! ===== BEGIN words of one list among another's, by their places ===== -/
theorem goodIn_r {big : List Cond} (ws : List Cond) (ps : List Nat) (hp : ws = ps.filterMap (fun i => big[i]?)) (h : ws.all goodWord = true) : GoodIn big ws := by
  intro w hw
  have h1 := List.all_eq_true.mp h w hw
  rw [hp] at hw
  obtain ⟨i, -, hi⟩ := List.mem_filterMap.mp hw
  have hm : w ∈ big := by first | exact List.mem_of_getElem? hi | exact List.getElem?_mem hi
  exact ⟨hm, good_of_word h1⟩
theorem goodIn_app {big a b : List Cond} (ha : GoodIn big a) (hb : GoodIn big b) : GoodIn big (a ++ b) := fun w h => (List.mem_append.mp h).elim (ha w) (hb w)
theorem goodIn_ca {big a b : List Cond} {c : Cond} (ha : GoodIn big (c :: a)) (hb : GoodIn big b) : GoodIn big (c :: (a ++ b)) := fun w h => (List.mem_cons.mp h).elim (fun e => ha w (List.mem_cons.mpr (Or.inl e))) (fun h => (List.mem_append.mp h).elim (fun h => ha w (List.mem_cons.mpr (Or.inr h))) (hb w))
theorem goodIn_sub {big ws : List Cond} (hm : ∀ w ∈ ws, w ∈ big) (h : ws.all goodWord = true) : GoodIn big ws := fun w hw => ⟨hm w hw, good_of_word (List.all_eq_true.mp h w hw)⟩
/-! ===== END ===== -/

/-! ===== BEGIN exceptions that leave a method, and their catching by the caller (launches without stack traces) ===== -/
section VXA
/-! The laws vx_back, vx_callV, vx_callS, vx_callSW, vx_throw0, vx_throwS follow proofs of the library, with one case more: JvmDerived/Free/Laws.lean (Back.of_free), Shelf42/LK1.lean (callV, callS), Shelf/KitTraced.lean (throwNew0V, throwNewS). -/
/-- where a method has thrown q: the class by its name, the cell, what was written, the world -/
def vx_T (XC : String → State → State → Prop) (st : State) (q : Addr) (t : State) (mc ms : Nat) (free : Addr → Prop) : Prop :=
  ∃ (E : String) (ce : Cell) (L : List Loc), XC E st t ∧ t.heap[q]? = some ce ∧ ce.vm = .none ∧ st.vm.findClass E = some ce.cls ∧ st.WarmedH t.vm ∧ st.sameButNew ({ t with vm := st.vm } : State) L mc ms ∧ ∀ z ∈ L, free z.base
def vx_Q (Qc : Array Value → State → Outcome → State → Prop) (XC : String → State → State → Prop) (mc ms : Nat) (free : Addr → Prop) : Array Value → State → Outcome → State → Prop := fun a st o t =>
  (Qc a st o t ∧ ∃ L, FrameEnd st o t L mc ms ∧ ∀ q ∈ L, free q.base) ∨ ∃ q, o = .threw q ∧ vx_T XC st q t mc ms free
/-- a callee that returns or throws -/
def vx_Met (l : Launch) (y : MethodName) (ws : List Cond) (rm : Room) (Pc : Array Value → State → Prop) (Qc : Array Value → State → Outcome → State → Prop) (XC : String → State → State → Prop) (mc ms : Nat) (free : Addr → Prop) : Prop :=
  MetFree l y (headSpec ws rm) Pc (fun _ _ _ _ _ => True) (vx_Q Qc XC mc ms free)
def vx_Post (XC : String → State → State → Prop) (mc ms : Nat) (free : Addr → Prop) : Pt → Array Value → Addr → Pt → Prop := fun A a q B =>
  ∃ (g : JFrame) (mk : MethodId) (t : State) (L : List Loc) (E : String) (ce : Cell), B.U.heap = t.heap ∧ B.U.vm = t.vm ∧ XC E (A.U.calling g mk a) t ∧ t.heap[q]? = some ce ∧ ce.vm = .none ∧ A.U.vm.findClass E = some ce.cls ∧ B.locs = A.locs ++ L ∧ (∀ z ∈ L, free z.base) ∧ B.cells = A.cells + mc ∧ B.slots = A.slots + ms
def vx_Back (l : Launch) (R : Room) (p : Program) (e : Env) (below : List Frame) (s : State) (sargs : Array Value) (y : MethodName) (len W9 : Nat)
    (Pre : Pt → Array Value → Prop) (Post : Pt → Array Value → Option Value → Pt → Prop) (PostX : Pt → Array Value → Addr → Pt → Prop) : Prop :=
  ∀ (m : MethodId) (meth : Method) (c : Code) (A : Pt) (g : JFrame) (ig : Instr) (mk : MethodId) (a : Array Value),
    Stand p l e R s m sargs below meth c A.U A.locs A.cells A.slots → g.method = m → g.locals.size = c.maxLocals → decode c.code g.pc = .ok (ig, len) →
    2 * g.monitorRoom + (g.stack.map fun v => v.category).sum ≤ W9 → A.U.methodNamed? y = some mk → Pre A a →
    (∃ (v : Option Value) (B : Pt), Stand p l e R s m sargs below meth c B.U B.locs B.cells B.slots ∧ Post A a v B ∧
      Steps p.tables e below (doInvoke e (A.U.setTop g) [] mk a).1 (B.U.setTop { g with pc := g.pc + len, stack := v.toList ++ g.stack })) ∨
    (∃ (q : Addr) (B : Pt), Stand p l e R s m sargs below meth c B.U B.locs B.cells B.slots ∧ PostX A a q B ∧
      Steps p.tables e below (doInvoke e (A.U.setTop g) [] mk a).1 ((B.U.setTop g).pushFrame (.throwing q)))
section Payer
variable {l : Launch} {R : Room} {p : Program} {e : Env} {below : List Frame} {s : State} {sargs : Array Value} {y : MethodName} {len W9 : Nat}
theorem vx_back {ws : List Cond} {rm : Room} {Pc : Array Value → State → Prop} {Qc : Array Value → State → Outcome → State → Prop} {XC : String → State → State → Prop} {mc ms : Nat} {free : Addr → Prop} {bytes : ByteArray} {maxL : Nat} {ret : Option FieldType}
    (hM : vx_Met l y ws rm Pc Qc XC mc ms free) (hblind : FrameBlind Pc) (hrc : rm.cells = mc) (hrs : rm.slots = ms)
    (hframes : rm.frames + 1 ≤ R.frames) (hlocals : W9 + (maxL + 11) + rm.locals ≤ R.locals)
    (hws : ∀ w ∈ ws, ∀ a' U, s.WarmedH U.vm → w.before a' U = true) (hcode : Cond.code y bytes maxL ret ∈ ws) (hinit : ∀ a' U, s.WarmedH U.vm → (Cond.initialized y.cls).before a' U = true) :
    vx_Back l R p e below s sargs y len W9 (PreOf R mc ms Pc) (PostOf Qc mc ms free) (vx_Post XC mc ms free) := by
  intro m meth c A g ig mk a X hg hsize hdg hW hn hp
  have h1 : (headSpec ws rm).pre.before a A.U = true := atoms_intro fun w hw => hws w hw _ _ X.warmed
  have h2 : (Cond.code y bytes maxL ret).before a A.U = true := hws _ hcode _ _ X.warmed
  have h3 : (Cond.initialized y.cls).before a A.U = true := hinit _ _ X.warmed
  have h4 : A.cells + (headSpec ws rm).room.cells ≤ R.cells := by rw [show (headSpec ws rm).room.cells = mc from hrc]; exact hp.1
  have h5 : A.slots + (headSpec ws rm).room.slots ≤ R.slots := by rw [show (headSpec ws rm).room.slots = ms from hrs]; exact hp.2.1
  have hPc : Pc a (A.U.calling g mk a) := hblind _ _ _ _ hp.2.2
  obtain ⟨U, Ls, c0, s0⟩ := A
  dsimp only [Pt.U, Pt.locs, Pt.cells, Pt.slots] at h1 h2 h3 h4 h5 X hn hPc ⊢
  obtain ⟨methY, cY, hmY, hcY, -, hlY, -, -, -, -⟩ := Cond.code_spec hn h2
  obtain ⟨kY, hkY, -⟩ := className_of_methodNamed hn
  have hinitY : kY.init = .initialized := Cond.initialized_spec (findClass_of_methodNamed hn) hkY h3
  have h : At U g.method c below := by rw [hg]; exact X.here
  have hlocals9 : W9 + (maxL + 11) + (headSpec ws rm).room.locals ≤ R.locals := hlocals
  have happ : (headSpec ws rm).appliesLoose y e.platform (U.calling g mk a) = true :=
    Spec.appliesLoose_calling (g := g) h hdg hn hkY hinitY
      (X.room_calling (g := g) (R' := (headSpec ws rm).room) hsize hmY hcY hframes (by rw [hlY]; omega) h4 h5) h1
  obtain ⟨mid, hmid⟩ := h.above
  have hfr : (U.setTop g).frames = (.java g :: mid) ++ below := by rw [State.frames_setTop' g h.top, hmid]; rfl
  obtain ⟨o, s₂, hsteps, -, hend, hq⟩ := Steps.callFree hM p X.admits X.cas X.clock (acts := []) hfr happ hPc trivial
  have hq' : vx_Q Qc XC mc ms free a (U.calling g mk a) o s₂ := hq
  rw [State.frames_setTop' g h.top] at hend
  obtain ⟨g₀, hg0⟩ := Option.isSome_iff_exists.mp h.top
  obtain ⟨r, hr⟩ := State.topJava?_eq_some.mp hg0
  have hr' : (({ U with heap := s₂.heap, slotsUsed := s₂.slotsUsed } : State).setVm s₂.vm).frames = .java g₀ :: r := hr
  rcases hq' with ⟨hqc, L, hfe, hL⟩ | ⟨q, rfl, E, ce, L, hx, hce, hcv, hcl, hW₂, hsm, hL⟩
  · obtain ⟨⟨v, rfl⟩, hW₂, e2, q2, q3, q4, q5, q6⟩ := id hfe
    have e3 : s₂ = ({ (U.calling g mk a).setFrames s₂.frames with heap := s₂.heap, slotsUsed := s₂.slotsUsed } : State).setVm s₂.vm := by
      have : s₂ = ({ s₂ with vm := (U.calling g mk a).vm } : State).setVm s₂.vm := rfl
      rw [e2] at this
      exact this
    obtain ⟨c₂, i₂, len₂, hc₂, hd₂, hf₂⟩ := hend
    have hW' : U.WarmedH s₂.vm := hW₂
    have hcc : c₂ = c := by
      have h1 : s₂.code? g.method = U.code? g.method := by
        rw [State.code?_eq, State.code?_eq, hW'.alike.method?]
      exact Option.some.inj (hc₂.symm.trans (h1.trans h.code))
    subst hcc
    have hlen : len₂ = len := by rw [hdg] at hd₂; cases hd₂; rfl
    subst hlen
    have hs₂ : s₂ = (({ U with heap := s₂.heap, slotsUsed := s₂.slotsUsed } : State).setVm s₂.vm).setTop { g with pc := g.pc + len₂, stack := v.toList ++ g.stack } := by
      refine e3.trans ?_
      rw [hf₂, State.calling_eq h.top, State.setFrames_setFrames, State.setTop_of_frames _ hr', hr]
      rfl
    have hsame : U.sameButNew ({ U with heap := s₂.heap, slotsUsed := s₂.slotsUsed } : State) L mc ms := by
      refine ⟨?_, q2, q3, q4, q5, q6⟩
      obtain ⟨t, ht, -⟩ := State.frames_cons hr
      show ({ U with heap := s₂.heap, slotsUsed := s₂.slotsUsed } : State) = { U.setFrames U.frames with heap := s₂.heap, slotsUsed := s₂.slotsUsed }
      rw [State.setFrames_self ht]
    subst hg
    refine Or.inl ⟨v, ⟨(({ U with heap := s₂.heap, slotsUsed := s₂.slotsUsed } : State).setVm s₂.vm), Ls ++ L, c0 + mc, s0 + ms⟩,
      ⟨X.admits, X.cas, X.clock, X.frames, X.room, X.hears, X.method, X.code, (X.here.setHeapUsed s₂.heap s₂.slotsUsed).setVm hW'.alike, X.tail, State.WarmedH.trans X.warmed hW', X.limits, X.bytes, X.same.trans (hsame.setVm s.vm)⟩,
      ⟨g, mk, s₂, L, rfl, rfl, hqc, rfl, hL, rfl, rfl⟩, ?_⟩
    show Steps p.tables e below _ ((({ U with heap := s₂.heap, slotsUsed := s₂.slotsUsed } : State).setVm s₂.vm).setTop { g with pc := g.pc + len₂, stack := v.toList ++ g.stack })
    rw [← hs₂]
    exact hsteps
  · obtain ⟨e2, q2, q3, q4, q5, q6⟩ := id hsm
    have e3 : s₂ = ({ (U.calling g mk a).setFrames s₂.frames with heap := s₂.heap, slotsUsed := s₂.slotsUsed } : State).setVm s₂.vm := by
      have : s₂ = ({ s₂ with vm := (U.calling g mk a).vm } : State).setVm s₂.vm := rfl
      rw [e2] at this
      exact this
    have hf₂ : s₂.frames = .throwing q :: .java g :: U.frames.tail := hend
    have hW' : U.WarmedH s₂.vm := hW₂
    have hs₂ : s₂ = ((({ U with heap := s₂.heap, slotsUsed := s₂.slotsUsed } : State).setVm s₂.vm).setTop g).pushFrame (.throwing q) := by
      refine e3.trans ?_
      rw [hf₂, State.calling_eq h.top, State.setFrames_setFrames, State.pushFrame, State.frames_setTop _ hr', State.setTop_of_frames _ hr', State.setFrames_setFrames, hr]
      rfl
    have hsame : U.sameButNew ({ U with heap := s₂.heap, slotsUsed := s₂.slotsUsed } : State) L mc ms := by
      refine ⟨?_, q2, q3, q4, q5, q6⟩
      obtain ⟨t, ht, -⟩ := State.frames_cons hr
      show ({ U with heap := s₂.heap, slotsUsed := s₂.slotsUsed } : State) = { U.setFrames U.frames with heap := s₂.heap, slotsUsed := s₂.slotsUsed }
      rw [State.setFrames_self ht]
    subst hg
    refine Or.inr ⟨q, ⟨(({ U with heap := s₂.heap, slotsUsed := s₂.slotsUsed } : State).setVm s₂.vm), Ls ++ L, c0 + mc, s0 + ms⟩,
      ⟨X.admits, X.cas, X.clock, X.frames, X.room, X.hears, X.method, X.code, (X.here.setHeapUsed s₂.heap s₂.slotsUsed).setVm hW'.alike, X.tail, State.WarmedH.trans X.warmed hW', X.limits, X.bytes, X.same.trans (hsame.setVm s.vm)⟩,
      ⟨g, mk, s₂, L, E, ce, rfl, rfl, hx, hce, hcv, hcl, rfl, hL, rfl, rfl⟩, ?_⟩
    show Steps p.tables e below _ (((({ U with heap := s₂.heap, slotsUsed := s₂.slotsUsed } : State).setVm s₂.vm).setTop g).pushFrame (.throwing q))
    rw [← hs₂]
    exact hsteps
end Payer
section Calls
variable {p : Program} {l : Launch} {e : Env} {R : Room} {s : State} {m : MethodId} {args : Array Value} {below : List Frame} {meth : Method} {c : Code} {T : State} {locs : List Loc} {cells slots : Nat}
theorem vx_callV (X : Stand p l e R s m args below meth c T locs cells slots) (hexec : p.tables.exec = Jvm.exec) {own C : String} {index : Nat} {y : MethodName} {bytes : ByteArray} {maxL : Nat} {ret : Option FieldType}
    (hown : s.vm.findClass own = some m.cls) (hlink : (Cond.methodLink own index y).before args s = true) (hinst : (Cond.instanceMethod y).before args s = true) (hsel : (Cond.selects C y y).before args s = true)
    (hcode : (Cond.code y bytes maxL ret).before args s = true) (hy : y.cls ≠ "java/lang/invoke/MethodHandle" ∧ y.cls ≠ "java/lang/invoke/VarHandle")
    {W9 : Nat} {Pre : Pt → Array Value → Prop} {Post : Pt → Array Value → Option Value → Pt → Prop} {PostX : Pt → Array Value → Addr → Pt → Prop} (hK : vx_Back l R p e below s args y 3 W9 Pre Post PostX)
    {b : Addr} {cellB : Cell} (hcell : T.heap[b]? = some cellB) (hobj : cellB.vm.isStatics = false) (hcls : s.vm.findClass C = some cellB.cls)
    {g : JFrame} (hg : g.method = m) (hsize : g.locals.size = c.maxLocals) {argsL rest : List Value} (hlen : ∀ sig, parseMethodDescriptor y.desc = some sig → argsL.length = sig.parameters.length)
    (hstack : g.stack = argsL.reverse ++ .ref b :: rest) (hW : 2 * g.monitorRoom + (rest.map fun v => v.category).sum ≤ W9) (hdg : decode c.code g.pc = .ok (.invokevirtual index, 3))
    (hpre : ∀ vm₁, s.WarmedH vm₁ → Pre ⟨T.setVm vm₁, locs, cells, slots⟩ (Value.ref b :: argsL).toArray) :
    (∃ (v : Option Value) (vm₁ : Vm) (B : Pt), s.WarmedH vm₁ ∧ Stand p l e R s m args below meth c B.U B.locs B.cells B.slots ∧ Post ⟨T.setVm vm₁, locs, cells, slots⟩ (Value.ref b :: argsL).toArray v B ∧
      ∀ target, Steps p.tables e below (B.U.setTop { g with pc := g.pc + 3, stack := v.toList ++ rest }) target → Steps p.tables e below (T.setTop g) target) ∨
    (∃ (q : Addr) (vm₁ : Vm) (B : Pt), s.WarmedH vm₁ ∧ Stand p l e R s m args below meth c B.U B.locs B.cells B.slots ∧ PostX ⟨T.setVm vm₁, locs, cells, slots⟩ (Value.ref b :: argsL).toArray q B ∧
      Steps p.tables e below (T.setTop g) ((B.U.setTop { g with stack := rest }).pushFrame (.throwing q))) := by
  obtain ⟨mk, methM, hnamed, hmethM, hstM, habM⟩ := Cond.instanceMethod_spec hinst
  obtain ⟨methM', cM, hmethM', -, -, -, -, -, -, hsigM⟩ := Cond.code_spec hnamed hcode
  cases hmethM.symm.trans hmethM'
  obtain ⟨c2, r2, m2, q1, q2, q3, q4, kP, hkP, hkPi⟩ := Cond.selects_spec hsel
  cases hcls.symm.trans q1
  cases (State.methodFound?_of_named hnamed hy).symm.trans q2
  cases hnamed.symm.trans q3
  have hselP : selectMethod e.platform s.vm cellB.cls mk = .method mk := by rw [Launch.admits_selectMethod X.admits]; exact q4
  obtain ⟨vm₁, X₁, hstep₁⟩ := X.invokevirtual hexec hown hlink hnamed hmethM hstM hkP hkPi hy (a := b) (cell := cellB) hcell
    (fun z h => by rw [h] at hobj; cases hobj) hselP hmethM habM hkP hkPi (g := g) hg (argsL := argsL) (rest := rest) (hlen _ hsigM) hstack hdg
  rcases hK m meth c ⟨T.setVm vm₁, locs, cells, slots⟩ { g with stack := rest } (.invokevirtual index) mk (Value.ref b :: argsL).toArray X₁ hg hsize hdg hW (X₁.named hnamed) (hpre vm₁ X₁.warmed) with ⟨v, B, X', hpost, hsteps⟩ | ⟨q, B, X', hpost, hsteps⟩
  · exact Or.inl ⟨v, vm₁, B, X₁.warmed, X', hpost, fun target h => hstep₁ _ fun acts => by rw [doInvoke_state]; exact hsteps.trans h⟩
  · exact Or.inr ⟨q, vm₁, B, X₁.warmed, X', hpost, hstep₁ _ fun acts => by rw [doInvoke_state]; exact hsteps⟩
theorem vx_callS (X : Stand p l e R s m args below meth c T locs cells slots) (hexec : p.tables.exec = Jvm.exec) {own : String} {index : Nat} {y : MethodName} {bytes : ByteArray} {maxL : Nat} {ret : Option FieldType}
    (hown : s.vm.findClass own = some m.cls) (hlink : (Cond.methodLink own index y).before args s = true) (hstat : (Cond.static y).before args s = true) (hinit : (Cond.initialized y.cls).before args s = true)
    (hcode : (Cond.code y bytes maxL ret).before args s = true) (hy : y.cls ≠ "java/lang/invoke/MethodHandle" ∧ y.cls ≠ "java/lang/invoke/VarHandle")
    {W9 : Nat} {Pre : Pt → Array Value → Prop} {Post : Pt → Array Value → Option Value → Pt → Prop} {PostX : Pt → Array Value → Addr → Pt → Prop} (hK : vx_Back l R p e below s args y 3 W9 Pre Post PostX)
    {g : JFrame} (hg : g.method = m) (hsize : g.locals.size = c.maxLocals) {argsL rest : List Value} (hlen : ∀ sig, parseMethodDescriptor y.desc = some sig → argsL.length = sig.parameters.length)
    (hstack : g.stack = argsL.reverse ++ rest) (hW : 2 * g.monitorRoom + (rest.map fun v => v.category).sum ≤ W9) (hdg : decode c.code g.pc = .ok (.invokestatic index, 3))
    (hpre : ∀ vm₁, s.WarmedH vm₁ → Pre ⟨T.setVm vm₁, locs, cells, slots⟩ argsL.toArray) :
    (∃ (v : Option Value) (vm₁ : Vm) (B : Pt), s.WarmedH vm₁ ∧ Stand p l e R s m args below meth c B.U B.locs B.cells B.slots ∧ Post ⟨T.setVm vm₁, locs, cells, slots⟩ argsL.toArray v B ∧
      ∀ target, Steps p.tables e below (B.U.setTop { g with pc := g.pc + 3, stack := v.toList ++ rest }) target → Steps p.tables e below (T.setTop g) target) ∨
    (∃ (q : Addr) (vm₁ : Vm) (B : Pt), s.WarmedH vm₁ ∧ Stand p l e R s m args below meth c B.U B.locs B.cells B.slots ∧ PostX ⟨T.setVm vm₁, locs, cells, slots⟩ argsL.toArray q B ∧
      Steps p.tables e below (T.setTop g) ((B.U.setTop { g with stack := rest }).pushFrame (.throwing q))) := by
  obtain ⟨mk, hnamed⟩ := Cond.code_named hcode
  obtain ⟨methM, cM, hmethM, -, -, -, -, -, -, hsigM⟩ := Cond.code_spec hnamed hcode
  have hstatic : methM.isStatic = true := Cond.static_spec hnamed hmethM hstat
  obtain ⟨kP, hkP, -⟩ := className_of_methodNamed hnamed
  have hinitP : kP.init = .initialized := Cond.initialized_spec (findClass_of_methodNamed hnamed) hkP hinit
  obtain ⟨vm₁, X₁, hstep₁⟩ := X.invokestatic hexec hown hlink hnamed hmethM hstatic hkP hinitP hy (g := g) hg (argsL := argsL) (rest := rest) (hlen _ hsigM) hstack hdg
  rcases hK m meth c ⟨T.setVm vm₁, locs, cells, slots⟩ { g with stack := rest } (.invokestatic index) mk argsL.toArray X₁ hg hsize hdg hW (X₁.named hnamed) (hpre vm₁ X₁.warmed) with ⟨v, B, X', hpost, hsteps⟩ | ⟨q, B, X', hpost, hsteps⟩
  · exact Or.inl ⟨v, vm₁, B, X₁.warmed, X', hpost, fun target h => hstep₁ _ fun acts => by rw [doInvoke_state]; exact hsteps.trans h⟩
  · exact Or.inr ⟨q, vm₁, B, X₁.warmed, X', hpost, hstep₁ _ fun acts => by rw [doInvoke_state]; exact hsteps⟩
end Calls
theorem vx_cls {s : State} {T : State} {vm₁ : Vm} {E : String} {k : ClassId} (hW : s.WarmedH vm₁) (h : (T.setVm vm₁).vm.findClass E = some k) : s.vm.findClass E = some k := by
  have h1 : vm₁.findClass E = some k := h
  rw [hW.alike.findClass] at h1
  exact h1
/-- the method's frame g, with q thrown over it -/
def vx_W (p : Program) (l : Launch) (e : Env) (R : Room) (s : State) (m : MethodId) (args : Array Value) (below : List Frame) (meth : Method) (c : Code) (H : Heap) (locs : List Loc) (cells slots : Nat) (Q : State → Prop) (g : JFrame) (q : Addr) : Prop :=
  ∀ T : State, T.heap = H → Stand p l e R s m args below meth c T locs cells slots → ∃ t, Steps p.tables e below ((T.setTop g).pushFrame (.throwing q)) t ∧ Q t
def vx_Run (p : Program) (l : Launch) (e : Env) (R : Room) (s : State) (m : MethodId) (args : Array Value) (below : List Frame) (meth : Method) (c : Code) (H : Heap) (locs : List Loc) (cells slots mc ms : Nat) (g : JFrame) (rest : List Value) (Qa : State → Outcome → State → Prop) (XC : String → State → State → Prop) (free : Addr → Prop) : Prop :=
  ∀ T : State, T.heap = H → Stand p l e R s m args below meth c T locs cells slots →
    (∃ (v : Option Value) (st₀ t T' : State) (L : List Loc), st₀.heap = H ∧ Stand p l e R s m args below meth c T' (locs ++ L) (cells + mc) (slots + ms) ∧ (∀ q ∈ L, free q.base) ∧ T'.heap = t.heap ∧ T'.vm = t.vm ∧ Qa st₀ (.returned v) t ∧
      Goes p e below T g T' { g with pc := g.pc + 3, stack := v.toList ++ rest }) ∨
    (∃ (q : Addr) (st₀ t T' : State) (L : List Loc) (E : String) (ce : Cell), st₀.heap = H ∧ Stand p l e R s m args below meth c T' (locs ++ L) (cells + mc) (slots + ms) ∧ (∀ z ∈ L, free z.base) ∧ T'.heap = t.heap ∧ T'.vm = t.vm ∧ XC E st₀ t ∧ t.heap[q]? = some ce ∧ ce.vm = .none ∧ s.vm.findClass E = some ce.cls ∧
      Steps p.tables e below (T.setTop g) ((T'.setTop { g with stack := rest }).pushFrame (.throwing q)))
def vx_X {S : Type} (px : S → Prop) (B : String → S → State → Prop) (A : Nat → Prop) : String → State → State → Prop := fun E st t => ∃ u : S, px u ∧ B E u t ∧ va_F A st t
section Runs
variable {p : Program} {l : Launch} {e : Env} {R : Room} {s : State} {m : MethodId} {args : Array Value} {below : List Frame} {meth : Method} {c : Code} {H : Heap} {locs : List Loc} {cells slots : Nat}
variable {y : MethodName} {bytes cc : ByteArray} {maxL nL mc ms n index : Nat} {ret : Option FieldType} {ws : List Cond} {rm : Room} {Pc : Array Value → State → Prop} {Qc : Array Value → State → Outcome → State → Prop} {XC : String → State → State → Prop} {free : Addr → Prop} {Ts : List Cond} {own C : String} {b : Addr} {As rest : List Value} {g : JFrame}
theorem vx_callBack (cb : CallB R s args own index y bytes maxL ret ws rm mc ms n) (hM : vx_Met l y ws rm Pc Qc XC mc ms free) (hbl : FrameBlind Pc) : vx_Back l R p e below s args y 3 8 (PreOf R mc ms Pc) (PostOf Qc mc ms free) (vx_Post XC mc ms free) := by
  obtain ⟨hrc, hrs, hfr, hlo, hws, hcw, -, hini, -⟩ := cb
  exact vx_back (bytes := bytes) (maxL := maxL) (ret := ret) hM hbl hrc hrs hfr hlo hws hcw (fun a' U hW => word_at hW (Or.inl (by first | rfl | simp [Cond.onTables, Cond.keeps, Cond.steady])) hini)
theorem vx_runV (S : CallFix p m c cc nL s args Ts own) (hM : vx_Met l y ws rm Pc Qc XC mc ms free) (cw : CallW R s args own C index y bytes maxL ret ws rm mc ms n) (hp : PreV s H C b Pc As)
    (hg : g.method = m) (hn : As.length = n) (hsize : g.locals.size = nL) (hstack : g.stack = As.reverse ++ .ref b :: rest) (hW : 2 * g.monitorRoom + (rest.map fun v => v.category).sum ≤ 8) (hdg : decode cc g.pc = .ok (.invokevirtual index, 3)) (hf : cells + mc ≤ R.cells ∧ slots + ms ≤ R.slots) :
    vx_Run p l e R s m args below meth c H locs cells slots mc ms g rest (Qc (Value.ref b :: As).toArray) XC free := by
  have hK : vx_Back l R p e below s args y 3 8 (PreOf R mc ms Pc) (PostOf Qc mc ms free) (vx_Post XC mc ms free) := vx_callBack cw.1 hM hp.1
  obtain ⟨⟨-, -, -, -, -, -, hcode, -, hy, hlen, hl⟩, hin, hse⟩ := cw
  obtain ⟨hx, hb, hml, ho, -⟩ := S
  obtain ⟨-, ⟨cellB, hcB, hoB, hclB⟩, hPc⟩ := hp
  intro T hT X
  rcases vx_callV X hx (C := C) (bytes := bytes) (maxL := maxL) (ret := ret) ho hl hin hse hcode hy hK (by rw [hT]; exact hcB) hoB hclB hg (hsize.trans hml.symm) (argsL := As) (rest := rest) (fun sig h => hn.trans (hlen sig h)) hstack hW (by rw [hb]; exact hdg)
    (fun vm₁ hW₁ => ⟨hf.1, hf.2, hPc (T.setVm vm₁) hT hW₁⟩) with ⟨v, vm₁, ⟨U', l2, c2, s2⟩, hW₁, X', ⟨g', mk, t, L, e1, e2, hq, h1, hL, h2, h3⟩, st⟩ | ⟨q, vm₁, ⟨U', l2, c2, s2⟩, hW₁, X', ⟨g', mk, t, L, E, ce, e1, e2, hq, hce, hcv, hcl, h1, hL, h2, h3⟩, st⟩
  · dsimp only [Pt.U, Pt.locs, Pt.cells, Pt.slots] at X' e1 e2 h1 h2 h3 st
    subst h1; subst h2; subst h3
    exact Or.inl ⟨v, (T.setVm vm₁).calling g' mk (Value.ref b :: As).toArray, t, U', L, hT, X', hL, e1, e2, hq, st⟩
  · dsimp only [Pt.U, Pt.locs, Pt.cells, Pt.slots] at X' e1 e2 h1 h2 h3 st hcl
    subst h1; subst h2; subst h3
    exact Or.inr ⟨q, (T.setVm vm₁).calling g' mk (Value.ref b :: As).toArray, t, U', L, E, ce, hT, X', hL, e1, e2, hq, hce, hcv, vx_cls hW₁ hcl, st⟩
theorem vx_runS (S : CallFix p m c cc nL s args Ts own) (hM : vx_Met l y ws rm Pc Qc XC mc ms free) (cw : CallB R s args own index y bytes maxL ret ws rm mc ms n ∧ (Cond.static y).before args s = true) (hp : PreS s H Pc As)
    (hg : g.method = m) (hn : As.length = n) (hsize : g.locals.size = nL) (hstack : g.stack = As.reverse ++ rest) (hW : 2 * g.monitorRoom + (rest.map fun v => v.category).sum ≤ 8) (hdg : decode cc g.pc = .ok (.invokestatic index, 3)) (hf : cells + mc ≤ R.cells ∧ slots + ms ≤ R.slots) :
    vx_Run p l e R s m args below meth c H locs cells slots mc ms g rest (Qc As.toArray) XC free := by
  have hK : vx_Back l R p e below s args y 3 8 (PreOf R mc ms Pc) (PostOf Qc mc ms free) (vx_Post XC mc ms free) := vx_callBack cw.1 hM hp.1
  obtain ⟨⟨-, -, -, -, -, -, hcode, hini, hy, hlen, hl⟩, hstt⟩ := cw
  obtain ⟨hx, hb, hml, ho, -⟩ := S
  intro T hT X
  rcases vx_callS X hx (bytes := bytes) (maxL := maxL) (ret := ret) ho hl hstt hini hcode hy hK hg (hsize.trans hml.symm) (argsL := As) (rest := rest) (fun sig h => hn.trans (hlen sig h)) hstack hW (by rw [hb]; exact hdg)
    (fun vm₁ hW₁ => ⟨hf.1, hf.2, hp.2 (T.setVm vm₁) hT hW₁⟩) with ⟨v, vm₁, ⟨U', l2, c2, s2⟩, hW₁, X', ⟨g', mk, t, L, e1, e2, hq, h1, hL, h2, h3⟩, st⟩ | ⟨q, vm₁, ⟨U', l2, c2, s2⟩, hW₁, X', ⟨g', mk, t, L, E, ce, e1, e2, hq, hce, hcv, hcl, h1, hL, h2, h3⟩, st⟩
  · dsimp only [Pt.U, Pt.locs, Pt.cells, Pt.slots] at X' e1 e2 h1 h2 h3 st
    subst h1; subst h2; subst h3
    exact Or.inl ⟨v, (T.setVm vm₁).calling g' mk As.toArray, t, U', L, hT, X', hL, e1, e2, hq, st⟩
  · dsimp only [Pt.U, Pt.locs, Pt.cells, Pt.slots] at X' e1 e2 h1 h2 h3 st hcl
    subst h1; subst h2; subst h3
    exact Or.inr ⟨q, (T.setVm vm₁).calling g' mk As.toArray, t, U', L, E, ce, hT, X', hL, e1, e2, hq, hce, hcv, vx_cls hW₁ hcl, st⟩
end Runs
section Rows
variable {p : Program} {l : Launch} {e : Env} {R : Room} {s : State} {m : MethodId} {args : Array Value} {below : List Frame} {meth : Method} {c : Code} {H : Heap} {locs : List Loc} {cells slots : Nat} {Q : State → Prop}
variable {mc ms : Nat} {free : Addr → Prop} {A0 A1 : Nat → Prop} {H0 : Heap} {a : Array Value} {pc : Nat} {ls : Array Slot} {st0 rest : List Value}
theorem vx_keep {st₀ t T' : State} {L : List Loc} (h0 : st₀.heap = H) (e1 : T'.heap = t.heap) (hS : va_S A0 H0 H locs) (hA : ∀ q, q < H.size → A1 q → A0 q) (hf : ∀ q, free q → A0 q) (hL : ∀ q ∈ L, free q.base) (hF : va_F A1 st₀ t) :
    H.size ≤ T'.heap.size ∧ (∀ q : Nat, q < H.size → ¬ A1 q → T'.heap[q]? = H[q]?) ∧ va_S A0 H0 T'.heap (locs ++ L) := by
  obtain ⟨hz, hk⟩ := hF
  rw [h0] at hz hk
  exact ⟨by rw [e1]; exact hz, fun q h1 h2 => by rw [e1]; exact hk q h1 h2,
    ⟨Nat.le_trans hS.1 (by rw [e1]; exact hz), fun q h1 h2 => by rw [e1, hk q (Nat.lt_of_lt_of_le h1 hS.1) (fun z => h2 (hA q (Nat.lt_of_lt_of_le h1 hS.1) z))]; exact hS.2.1 q h1 h2, fun q hq => by
      rcases List.mem_append.mp hq with h | h
      · exact hS.2.2 q h
      · exact hf _ (hL q h)⟩⟩
theorem vx_calli {S SX : Type} {post : Int32 → S → Prop} {px : SX → Prop} {B : S → State → Prop} {BX : String → SX → State → Prop} {AX : Nat → Prop} (hr : vx_Run p l e R s m args below meth c H locs cells slots mc ms (F0 m pc ls st0) rest (va_Qi post B A1 a) (vx_X px BX AX) free) (hS : va_S A0 H0 H locs) (hA : ∀ q, q < H.size → A1 q → A0 q) (hf : ∀ q, free q → A0 q) (hAX : ∀ q, q < H.size → AX q → A0 q)
    (kx : ∀ (E : String) (ce : Cell) (q9 : Addr) (u : SX) (t : State) (H1 : Heap) (locs1 : List Loc), t.heap = H1 → s.vm.Alike t.vm → px u → BX E u t → H.size ≤ H1.size → (∀ q : Nat, q < H.size → ¬ AX q → H1[q]? = H[q]?) → va_S A0 H0 H1 locs1 → H1[q9]? = some ce → ce.vm = .none → s.vm.findClass E = some ce.cls → vx_W p l e R s m args below meth c H1 locs1 (cells + mc) (slots + ms) Q (F0 m pc ls rest) q9)
    (kk : ∀ (r : Int32) (u : S) (t : State) (H1 : Heap) (locs1 : List Loc), t.heap = H1 → s.vm.Alike t.vm → post r u → B u t → H.size ≤ H1.size → (∀ q : Nat, q < H.size → ¬ A1 q → H1[q]? = H[q]?) → va_S A0 H0 H1 locs1 → W p l e R s m args below meth c H1 locs1 (cells + mc) (slots + ms) Q (F0 m (pc + 3) ls (.int r :: rest))) : W p l e R s m args below meth c H locs cells slots Q (F0 m pc ls st0) := by
  intro T hT X
  rcases hr T hT X with ⟨v, st₀, t, T', L, h0, X', hL, e1, e2, ⟨⟨r, u, hv, hp, hb⟩, hF⟩, st⟩ | ⟨q, st₀, t, T', L, E, ce, h0, X', hL, e1, e2, ⟨u, hp, hb, hF⟩, hce, hcv, hcl, st⟩
  · cases hv
    obtain ⟨k1, k2, k3⟩ := vx_keep h0 e1 hS hA hf hL hF
    obtain ⟨t2, a1, b1⟩ := kk r u t T'.heap (locs ++ L) e1.symm (by rw [← e2]; exact X'.warmed.alike) hp hb k1 k2 k3 T' rfl X'
    exact ⟨t2, st t2 a1, b1⟩
  · obtain ⟨k1, k2, k3⟩ := vx_keep h0 e1 hS hAX hf hL hF
    obtain ⟨t2, a1, b1⟩ := kx E ce q u t T'.heap (locs ++ L) e1.symm (by rw [← e2]; exact X'.warmed.alike) hp hb k1 k2 k3 (by rw [e1]; exact hce) hcv hcl T' rfl X'
    exact ⟨t2, st.trans a1, b1⟩
theorem vx_calll {S SX : Type} {post : Int64 → S → Prop} {px : SX → Prop} {B : S → State → Prop} {BX : String → SX → State → Prop} {AX : Nat → Prop} (hr : vx_Run p l e R s m args below meth c H locs cells slots mc ms (F0 m pc ls st0) rest (va_Ql post B A1 a) (vx_X px BX AX) free) (hS : va_S A0 H0 H locs) (hA : ∀ q, q < H.size → A1 q → A0 q) (hf : ∀ q, free q → A0 q) (hAX : ∀ q, q < H.size → AX q → A0 q)
    (kx : ∀ (E : String) (ce : Cell) (q9 : Addr) (u : SX) (t : State) (H1 : Heap) (locs1 : List Loc), t.heap = H1 → s.vm.Alike t.vm → px u → BX E u t → H.size ≤ H1.size → (∀ q : Nat, q < H.size → ¬ AX q → H1[q]? = H[q]?) → va_S A0 H0 H1 locs1 → H1[q9]? = some ce → ce.vm = .none → s.vm.findClass E = some ce.cls → vx_W p l e R s m args below meth c H1 locs1 (cells + mc) (slots + ms) Q (F0 m pc ls rest) q9)
    (kk : ∀ (r : Int64) (u : S) (t : State) (H1 : Heap) (locs1 : List Loc), t.heap = H1 → s.vm.Alike t.vm → post r u → B u t → H.size ≤ H1.size → (∀ q : Nat, q < H.size → ¬ A1 q → H1[q]? = H[q]?) → va_S A0 H0 H1 locs1 → W p l e R s m args below meth c H1 locs1 (cells + mc) (slots + ms) Q (F0 m (pc + 3) ls (.long r :: rest))) : W p l e R s m args below meth c H locs cells slots Q (F0 m pc ls st0) := by
  intro T hT X
  rcases hr T hT X with ⟨v, st₀, t, T', L, h0, X', hL, e1, e2, ⟨⟨r, u, hv, hp, hb⟩, hF⟩, st⟩ | ⟨q, st₀, t, T', L, E, ce, h0, X', hL, e1, e2, ⟨u, hp, hb, hF⟩, hce, hcv, hcl, st⟩
  · cases hv
    obtain ⟨k1, k2, k3⟩ := vx_keep h0 e1 hS hA hf hL hF
    obtain ⟨t2, a1, b1⟩ := kk r u t T'.heap (locs ++ L) e1.symm (by rw [← e2]; exact X'.warmed.alike) hp hb k1 k2 k3 T' rfl X'
    exact ⟨t2, st t2 a1, b1⟩
  · obtain ⟨k1, k2, k3⟩ := vx_keep h0 e1 hS hAX hf hL hF
    obtain ⟨t2, a1, b1⟩ := kx E ce q u t T'.heap (locs ++ L) e1.symm (by rw [← e2]; exact X'.warmed.alike) hp hb k1 k2 k3 (by rw [e1]; exact hce) hcv hcl T' rfl X'
    exact ⟨t2, st.trans a1, b1⟩
theorem vx_callf {S SX : Type} {post : UInt32 → S → Prop} {px : SX → Prop} {B : S → State → Prop} {BX : String → SX → State → Prop} {AX : Nat → Prop} (hr : vx_Run p l e R s m args below meth c H locs cells slots mc ms (F0 m pc ls st0) rest (va_Qf post B A1 a) (vx_X px BX AX) free) (hS : va_S A0 H0 H locs) (hA : ∀ q, q < H.size → A1 q → A0 q) (hf : ∀ q, free q → A0 q) (hAX : ∀ q, q < H.size → AX q → A0 q)
    (kx : ∀ (E : String) (ce : Cell) (q9 : Addr) (u : SX) (t : State) (H1 : Heap) (locs1 : List Loc), t.heap = H1 → s.vm.Alike t.vm → px u → BX E u t → H.size ≤ H1.size → (∀ q : Nat, q < H.size → ¬ AX q → H1[q]? = H[q]?) → va_S A0 H0 H1 locs1 → H1[q9]? = some ce → ce.vm = .none → s.vm.findClass E = some ce.cls → vx_W p l e R s m args below meth c H1 locs1 (cells + mc) (slots + ms) Q (F0 m pc ls rest) q9)
    (kk : ∀ (r : UInt32) (u : S) (t : State) (H1 : Heap) (locs1 : List Loc), t.heap = H1 → s.vm.Alike t.vm → post r u → B u t → H.size ≤ H1.size → (∀ q : Nat, q < H.size → ¬ A1 q → H1[q]? = H[q]?) → va_S A0 H0 H1 locs1 → W p l e R s m args below meth c H1 locs1 (cells + mc) (slots + ms) Q (F0 m (pc + 3) ls (.float r :: rest))) : W p l e R s m args below meth c H locs cells slots Q (F0 m pc ls st0) := by
  intro T hT X
  rcases hr T hT X with ⟨v, st₀, t, T', L, h0, X', hL, e1, e2, ⟨⟨r, u, hv, hp, hb⟩, hF⟩, st⟩ | ⟨q, st₀, t, T', L, E, ce, h0, X', hL, e1, e2, ⟨u, hp, hb, hF⟩, hce, hcv, hcl, st⟩
  · cases hv
    obtain ⟨k1, k2, k3⟩ := vx_keep h0 e1 hS hA hf hL hF
    obtain ⟨t2, a1, b1⟩ := kk r u t T'.heap (locs ++ L) e1.symm (by rw [← e2]; exact X'.warmed.alike) hp hb k1 k2 k3 T' rfl X'
    exact ⟨t2, st t2 a1, b1⟩
  · obtain ⟨k1, k2, k3⟩ := vx_keep h0 e1 hS hAX hf hL hF
    obtain ⟨t2, a1, b1⟩ := kx E ce q u t T'.heap (locs ++ L) e1.symm (by rw [← e2]; exact X'.warmed.alike) hp hb k1 k2 k3 (by rw [e1]; exact hce) hcv hcl T' rfl X'
    exact ⟨t2, st.trans a1, b1⟩
theorem vx_calld {S SX : Type} {post : UInt64 → S → Prop} {px : SX → Prop} {B : S → State → Prop} {BX : String → SX → State → Prop} {AX : Nat → Prop} (hr : vx_Run p l e R s m args below meth c H locs cells slots mc ms (F0 m pc ls st0) rest (va_Qd post B A1 a) (vx_X px BX AX) free) (hS : va_S A0 H0 H locs) (hA : ∀ q, q < H.size → A1 q → A0 q) (hf : ∀ q, free q → A0 q) (hAX : ∀ q, q < H.size → AX q → A0 q)
    (kx : ∀ (E : String) (ce : Cell) (q9 : Addr) (u : SX) (t : State) (H1 : Heap) (locs1 : List Loc), t.heap = H1 → s.vm.Alike t.vm → px u → BX E u t → H.size ≤ H1.size → (∀ q : Nat, q < H.size → ¬ AX q → H1[q]? = H[q]?) → va_S A0 H0 H1 locs1 → H1[q9]? = some ce → ce.vm = .none → s.vm.findClass E = some ce.cls → vx_W p l e R s m args below meth c H1 locs1 (cells + mc) (slots + ms) Q (F0 m pc ls rest) q9)
    (kk : ∀ (r : UInt64) (u : S) (t : State) (H1 : Heap) (locs1 : List Loc), t.heap = H1 → s.vm.Alike t.vm → post r u → B u t → H.size ≤ H1.size → (∀ q : Nat, q < H.size → ¬ A1 q → H1[q]? = H[q]?) → va_S A0 H0 H1 locs1 → W p l e R s m args below meth c H1 locs1 (cells + mc) (slots + ms) Q (F0 m (pc + 3) ls (.double r :: rest))) : W p l e R s m args below meth c H locs cells slots Q (F0 m pc ls st0) := by
  intro T hT X
  rcases hr T hT X with ⟨v, st₀, t, T', L, h0, X', hL, e1, e2, ⟨⟨r, u, hv, hp, hb⟩, hF⟩, st⟩ | ⟨q, st₀, t, T', L, E, ce, h0, X', hL, e1, e2, ⟨u, hp, hb, hF⟩, hce, hcv, hcl, st⟩
  · cases hv
    obtain ⟨k1, k2, k3⟩ := vx_keep h0 e1 hS hA hf hL hF
    obtain ⟨t2, a1, b1⟩ := kk r u t T'.heap (locs ++ L) e1.symm (by rw [← e2]; exact X'.warmed.alike) hp hb k1 k2 k3 T' rfl X'
    exact ⟨t2, st t2 a1, b1⟩
  · obtain ⟨k1, k2, k3⟩ := vx_keep h0 e1 hS hAX hf hL hF
    obtain ⟨t2, a1, b1⟩ := kx E ce q u t T'.heap (locs ++ L) e1.symm (by rw [← e2]; exact X'.warmed.alike) hp hb k1 k2 k3 (by rw [e1]; exact hce) hcv hcl T' rfl X'
    exact ⟨t2, st.trans a1, b1⟩
theorem vx_callv {S SX : Type} {post : S → Prop} {px : SX → Prop} {B : S → State → Prop} {BX : String → SX → State → Prop} {AX : Nat → Prop} (hr : vx_Run p l e R s m args below meth c H locs cells slots mc ms (F0 m pc ls st0) rest (va_Qv post B A1 a) (vx_X px BX AX) free) (hS : va_S A0 H0 H locs) (hA : ∀ q, q < H.size → A1 q → A0 q) (hf : ∀ q, free q → A0 q) (hAX : ∀ q, q < H.size → AX q → A0 q)
    (kx : ∀ (E : String) (ce : Cell) (q9 : Addr) (u : SX) (t : State) (H1 : Heap) (locs1 : List Loc), t.heap = H1 → s.vm.Alike t.vm → px u → BX E u t → H.size ≤ H1.size → (∀ q : Nat, q < H.size → ¬ AX q → H1[q]? = H[q]?) → va_S A0 H0 H1 locs1 → H1[q9]? = some ce → ce.vm = .none → s.vm.findClass E = some ce.cls → vx_W p l e R s m args below meth c H1 locs1 (cells + mc) (slots + ms) Q (F0 m pc ls rest) q9)
    (kk : ∀ (u : S) (t : State) (H1 : Heap) (locs1 : List Loc), t.heap = H1 → s.vm.Alike t.vm → post u → B u t → H.size ≤ H1.size → (∀ q : Nat, q < H.size → ¬ A1 q → H1[q]? = H[q]?) → va_S A0 H0 H1 locs1 → W p l e R s m args below meth c H1 locs1 (cells + mc) (slots + ms) Q (F0 m (pc + 3) ls (rest))) : W p l e R s m args below meth c H locs cells slots Q (F0 m pc ls st0) := by
  intro T hT X
  rcases hr T hT X with ⟨v, st₀, t, T', L, h0, X', hL, e1, e2, ⟨⟨u, hv, hp, hb⟩, hF⟩, st⟩ | ⟨q, st₀, t, T', L, E, ce, h0, X', hL, e1, e2, ⟨u, hp, hb, hF⟩, hce, hcv, hcl, st⟩
  · cases hv
    obtain ⟨k1, k2, k3⟩ := vx_keep h0 e1 hS hA hf hL hF
    obtain ⟨t2, a1, b1⟩ := kk u t T'.heap (locs ++ L) e1.symm (by rw [← e2]; exact X'.warmed.alike) hp hb k1 k2 k3 T' rfl X'
    exact ⟨t2, st t2 a1, b1⟩
  · obtain ⟨k1, k2, k3⟩ := vx_keep h0 e1 hS hAX hf hL hF
    obtain ⟨t2, a1, b1⟩ := kx E ce q u t T'.heap (locs ++ L) e1.symm (by rw [← e2]; exact X'.warmed.alike) hp hb k1 k2 k3 (by rw [e1]; exact hce) hcv hcl T' rfl X'
    exact ⟨t2, st.trans a1, b1⟩
/-- caught by the row x of this method's table; the rows ahead don't take it -/
theorem vx_catch {own name : String} {E : String} {ce : Cell} {q : Addr} (hown : s.vm.findClass own = some m.cls) (pre : List ExceptionTableEntry) (x : ExceptionTableEntry) (suf : List ExceptionTableEntry) (hsplit : c.exceptionTable.toList = pre ++ x :: suf)
    (hpass : ∀ z ∈ pre, covers z pc = false ∨ (z.catchType ≠ 0 ∧ ∃ nm : String, (Cond.classLink own z.catchType nm).before args s = true ∧ va_Nc E nm s)) (hx : covers x pc = true) (h0 : x.catchType ≠ 0)
    (hlink : (Cond.classLink own x.catchType name).before args s = true) (hcast : (Cond.castable E name).before args s = true) (hcell : H[q]? = some ce) (hv : ce.vm = .none) (hcl : s.vm.findClass E = some ce.cls)
    (kk : W p l e R s m args below meth c H locs cells slots Q (F0 m x.handlerPc ls [.ref q])) : vx_W p l e R s m args below meth c H locs cells slots Q (F0 m pc ls rest) q := by
  intro T hT X
  have hpl : e.platform.magicAccessors = ({} : Platform).magicAccessors := by rw [X.admits.platform]
  obtain ⟨c3, c4, hc3, hc4, hasg⟩ := Cond.castable_spec hcast
  cases Option.some.inj (hc3.symm.trans hcl)
  obtain ⟨c5, hc5, hcl5⟩ := Cond.classLink_spec hown hlink e.platform hpl
  cases Option.some.inj (hc4.symm.trans hc5)
  obtain ⟨vm', X', st⟩ := X.thenCaughtThrough q (g := F0 m pc ls rest) rfl (Steps.refl _) (by rw [hT]; exact hcell) (by rw [hv]; rfl) (by obtain ⟨k9, h9, -⟩ := Vm.findClass_spec hcl; exact ⟨k9, h9⟩) pre x suf hsplit
    (fun z hz => by
      rcases hpass z hz with h | ⟨hz0, nm, hl1, hn1⟩
      · exact Or.inl h
      · obtain ⟨c6, hc6, hcl6⟩ := Cond.classLink_spec hown hl1 e.platform hpl
        obtain ⟨a8, b8, h1, h2, h3⟩ := hn1
        cases Option.some.inj (h1.symm.trans hcl)
        cases Option.some.inj (h2.symm.trans hc6)
        exact Or.inr ⟨hz0, _, hcl6, h3⟩) hx (Or.inr ⟨h0, c4, hcl5, hasg⟩)
  obtain ⟨t, a1, b1⟩ := kk (T.setVm vm') hT X'
  exact ⟨t, st.trans a1, b1⟩
end Rows
section Ends
variable {p : Program} {l : Launch} {e : Env} {R : Room} {s : State} {m : MethodId} {args : Array Value} {below : List Frame} {meth : Method} {c : Code} {H : Heap} {locs : List Loc} {cells slots : Nat} {Q : State → Prop}
variable {mc ms : Nat} {free : Addr → Prop} {A0 A1 : Nat → Prop} {H0 : Heap} {a : Array Value} {ls : Array Slot} {st0 rest : List Value}
variable {Qc : Array Value → State → Outcome → State → Prop} {XC : String → State → State → Prop}
/-- what a body that may throw owes at its end -/
def vx_MQ (below : List Frame) (Qc : Array Value → State → Outcome → State → Prop) (XC : String → State → State → Prop) (a : Array Value) (s : State) (mc ms : Nat) (free : Addr → Prop) : State → Prop := fun t =>
  ∃ o, t.status = .running ∧ Ended t below o ∧ vx_Q Qc XC mc ms free a s o t
theorem vx_ret {g : JFrame} {mc ms : Nat} (k : W p l e R s m args below meth c H locs cells slots (MQ below Qc args s mc ms free) g) : W p l e R s m args below meth c H locs cells slots (vx_MQ below Qc XC args s mc ms free) g := by
  intro T hT X
  obtain ⟨t, a1, o, b1, b2, b3, b4⟩ := k T hT X
  exact ⟨t, a1, o, b1, b2, Or.inl ⟨b3, b4⟩⟩
/-- not caught here: it goes on to the caller -/
theorem vx_widen {g : JFrame} {q : Addr} {k n : Nat} (h1 : cells ≤ k) (h2 : slots ≤ n) (kk : vx_W p l e R s m args below meth c H locs k n Q g q) : vx_W p l e R s m args below meth c H locs cells slots Q g q := fun T hT X => kk T hT (stand_widen X h1 h2)
theorem vx_out {pc : Nat} {E : String} {ce : Cell} {q : Addr} {mc ms : Nat} (hout : ∀ x ∈ c.exceptionTable.toList, covers x pc = false) (hlocks : meth.locks = false) (hcell : H[q]? = some ce) (hv : ce.vm = .none) (hcl : s.vm.findClass E = some ce.cls)
    (hx : ∀ t : State, t.heap = H → s.vm.Alike t.vm → XC E s t) (hf : ∀ z ∈ locs, free z.base) (hc : cells ≤ mc) (hs : slots ≤ ms) :
    vx_W p l e R s m args below meth c H locs cells slots (vx_MQ below Qc XC args s mc ms free) (F0 m pc ls rest) q := by
  intro T hT X
  obtain ⟨st1, hrun, hend, hW, hsm⟩ := X.leaveThrown q (g := F0 m pc ls rest) rfl rfl rfl hout hlocks
  have hcell9 : (T.setFrames (.throwing q :: below)).heap[q]? = some ce := by
    show T.heap[q]? = some ce
    rw [hT]; exact hcell
  exact ⟨_, st1, .threw q, hrun, hend, Or.inr ⟨q, rfl, E, ce, locs, hx _ hT hW.alike, hcell9, hv, hcl, hW, hsm.mono hc hs, hf⟩⟩
theorem vx_frame {U : State} {k n : Nat} (h : s.sameButNew ({ U with vm := s.vm } : State) locs k n) : s.heap.size ≤ U.heap.size ∧ ∀ q : Nat, q < s.heap.size → (∀ z ∈ locs, z.base ≠ q) → U.heap[q]? = s.heap[q]? := by
  obtain ⟨-, h2, -, -, -, h6⟩ := h
  refine ⟨h2, fun q hq hz => ?_⟩
  obtain ⟨c9, e1, e2, e3, e4⟩ := h6 q _ (Array.getElem?_eq_getElem hq)
  have hs : c9.slots = (s.heap[q]).slots := Array.ext_getElem? fun i => e4 i fun hm => hz _ hm rfl
  have h9 : c9 = s.heap[q] := by
    rw [hs] at e2
    exact e2
  have e5 : U.heap[q]? = some c9 := e1
  rw [e5, h9, Array.getElem?_eq_getElem hq]
/-- the words of a throw but the four that speak of the heap -/
def vx_no (w : Cond) : Bool := decide (w ≠ .isRef (.static Bundle.tN "UNASSIGNED_STACK" Bundle.steD)) && decide (w ≠ .isRef (.static Bundle.tN "SUPPRESSED_SENTINEL" Bundle.listD)) && decide (w ≠ .laysStatic Bundle.tN "UNASSIGNED_STACK" Bundle.steD) && decide (w ≠ .laysStatic Bundle.tN "SUPPRESSED_SENTINEL" Bundle.listD)
def vx_at0 (own : String) (ic : Nat) (X : String) (names : List String) : List Cond := (Bundle.ownAtoms0 own ic X names).filter vx_no
def vx_atS (own : String) (ic : Nat) (X : String) (names : List String) : List Cond := (Bundle.ownAtoms own ic X names).filter vx_no
/-- a word that the tables alone decide, or a good one -/
def vx_ot (w : Cond) : Bool := w.onTables || goodWord w
theorem vx_ot_at {args a' : Array Value} {s U : State} {w : Cond} (hW : s.WarmedH U.vm) (hvm : s.vm = U.vm) (hg : vx_ot w = true) (h : w.before args s = true) : w.before a' U = true := by
  simp only [vx_ot, Bool.or_eq_true] at hg
  rcases hg with hg | hg
  · exact va_tabs hg hvm h
  · exact word_at hW (good_of_word hg) h
/-- a list's words: the good ones out of the method's own list, the others by premises of their own -/
theorem vx_hat {args : Array Value} {s : State} {L B : List Cond} (h1 : ∀ w ∈ L.filter goodWord, w.before args s = true) (h2 : ∀ w ∈ L.filter (fun w => !goodWord w), w ∈ B) (h3 : ∀ w ∈ B, w.before args s = true) : ∀ w ∈ L, w.before args s = true := by
  intro w hw
  by_cases g : goodWord w = true
  · exact h1 w (List.mem_filter.mpr ⟨hw, g⟩)
  · refine h3 w (h2 w (List.mem_filter.mpr ⟨hw, ?_⟩))
    show (!goodWord w) = true
    cases hgw : goodWord w
    · rfl
    · exact absurd hgw g
theorem vx_c {args : Array Value} {s : State} {w : Cond} {B : List Cond} (h : w.before args s = true) (t : ∀ w ∈ B, w.before args s = true) : ∀ w' ∈ w :: B, w'.before args s = true := fun w' h' => (List.mem_cons.mp h').elim (fun e => by rw [e]; exact h) (t w')
theorem vx_n {args : Array Value} {s : State} : ∀ w ∈ ([] : List Cond), w.before args s = true := fun _ h => nomatch h
theorem vx_own {args : Array Value} {s : State} {L : List Cond} (h1 : ∀ w ∈ L.filter vx_no, w.before args s = true)
    (hU : (Cond.isRef (.static Bundle.tN "UNASSIGNED_STACK" Bundle.steD)).before args s = true) (hN : (Cond.isRef (.static Bundle.tN "SUPPRESSED_SENTINEL" Bundle.listD)).before args s = true)
    (lU : (Cond.laysStatic Bundle.tN "UNASSIGNED_STACK" Bundle.steD).before args s = true) (lN : (Cond.laysStatic Bundle.tN "SUPPRESSED_SENTINEL" Bundle.listD).before args s = true) : ∀ w ∈ L, w.before args s = true := by
  intro w hw
  by_cases e1 : w = .isRef (.static Bundle.tN "UNASSIGNED_STACK" Bundle.steD)
  · rw [e1]; exact hU
  · by_cases e2 : w = .isRef (.static Bundle.tN "SUPPRESSED_SENTINEL" Bundle.listD)
    · rw [e2]; exact hN
    · by_cases e3 : w = .laysStatic Bundle.tN "UNASSIGNED_STACK" Bundle.steD
      · rw [e3]; exact lU
      · by_cases e4 : w = .laysStatic Bundle.tN "SUPPRESSED_SENTINEL" Bundle.listD
        · rw [e4]; exact lN
        · exact h1 w (List.mem_filter.mpr ⟨hw, by unfold vx_no; rw [decide_eq_true e1, decide_eq_true e2, decide_eq_true e3, decide_eq_true e4]; rfl⟩)
/-- where a static field lies, its class's statics cell in H -/
def vx_L (C n d : String) (A : Nat → Prop) (U : State) (H : Heap) : Prop := ∃ (c : ClassId) (k : Class) (i : Nat) (f : Field) (a : Nat) (cell : Cell), U.vm.findClass C = some c ∧ U.fieldFound? C n d = some (c, k, i, f) ∧ f.isStatic = true ∧ k.statics = some a ∧ H[a]? = some cell ∧ cell.vm.isStatics = true ∧ cell.cls = c ∧ f.slot < cell.slots.size ∧ k.staticTypes[f.slot]? = some f.type ∧ ¬ A a
theorem vx_L.moved {C n d : String} {A : Nat → Prop} {u U : State} {H : Heap} (hvm : u.vm.Alike U.vm) (h : vx_L C n d A u H) : vx_L C n d A U H := by
  obtain ⟨c, k, i, f, a, cell, h1, h2, h3, h4, h5, h6, h7, h8, h9, h10⟩ := h
  obtain ⟨k', hi', he⟩ := State.fieldFound?_setVm hvm h2
  exact ⟨c, k', i, f, a, cell, by rw [hvm.findClass]; exact h1, hi', h3, by rw [he]; exact h4, h5, h6, h7, h8, by rw [he]; exact h9, h10⟩
theorem vx_L.kept {C n d : String} {A : Nat → Prop} {U : State} {H H1 : Heap} (h : vx_L C n d A U H) (hq : ∀ a : Nat, a < H.size → ¬ A a → H1[a]? = H[a]?) : vx_L C n d A U H1 := by
  obtain ⟨c, k, i, f, a, cell, h1, h2, h3, h4, h5, h6, h7, h8, h9, h10⟩ := h
  exact ⟨c, k, i, f, a, cell, h1, h2, h3, h4, by rw [hq a (Array.getElem?_eq_some_iff.mp h5).1 h10]; exact h5, h6, h7, h8, h9, h10⟩
theorem vx_L.narrow {C n d : String} {A B : Nat → Prop} {U : State} {H : Heap} (h : vx_L C n d A U H) (hAB : ∀ q, B q → A q) : vx_L C n d B U H := by
  obtain ⟨c, k, i, f, a, cell, h1, h2, h3, h4, h5, h6, h7, h8, h9, h10⟩ := h
  exact ⟨c, k, i, f, a, cell, h1, h2, h3, h4, h5, h6, h7, h8, h9, fun z => h10 (hAB _ z)⟩
theorem vx_L.word {C n d : String} {A : Nat → Prop} {s : State} {args : Array Value} (h : vx_L C n d A s s.heap) : (Cond.laysStatic C n d).before args s = true := by
  obtain ⟨c, k, i, f, a, cell, h1, h2, h3, h4, h5, h6, h7, h8, h9, -⟩ := h
  show (Cond.laysStatic C n d).holds args s none s [] = true
  exact Cond.laysStatic_of h1 h2 h3 h4 h5 h6 h7 h8 h9
/-- .. and what it holds: null or some reference -/
def vx_Zq (C n d : String) (A : Nat → Prop) (U : State) (H : Heap) : Prop := va_Zq C n d A U H ∧ vx_L C n d A U H
theorem vx_Zq.moved {C n d : String} {A : Nat → Prop} {u U : State} {H : Heap} (hvm : u.vm.Alike U.vm) (h : vx_Zq C n d A u H) : vx_Zq C n d A U H := ⟨va_Zq.moved hvm h.1, vx_L.moved hvm h.2⟩
theorem vx_Zq.kept {C n d : String} {A : Nat → Prop} {U : State} {H H1 : Heap} (h : vx_Zq C n d A U H) (hq : ∀ a : Nat, a < H.size → ¬ A a → H1[a]? = H[a]?) : vx_Zq C n d A U H1 := ⟨va_Zq.kept h.1 hq, vx_L.kept h.2 hq⟩
theorem vx_Zq.narrow {C n d : String} {A B : Nat → Prop} {U : State} {H : Heap} (h : vx_Zq C n d A U H) (hAB : ∀ q, B q → A q) : vx_Zq C n d B U H := ⟨va_Zq.narrow h.1 hAB, vx_L.narrow h.2 hAB⟩
theorem vx_Zqof {args : Array Value} {s : State} {C n d : String} {A : Nat → Prop} (hl : (Cond.laysStatic C n d).before args s = true) (hini : (Cond.initialized C).before args s = true) (h : (Cond.isRef (.static C n d)).before args s = true) (hA : ∀ a : Nat, a < s.heap.size → ¬ A a) : vx_Zq C n d A s s.heap := by
  refine ⟨va_Zqof hl hini h hA, ?_⟩
  obtain ⟨c, k, i, f, a, cell, h1, h2, h3, h4, h5, h6, h7, h8, h9⟩ := Cond.laysStatic_spec hl
  exact ⟨c, k, i, f, a, cell, h1, h2, h3, h4, h5, h6, h7, h8, h9, hA a (Array.getElem?_eq_some_iff.mp h5).1⟩
theorem vx_isRef {C n d : String} {v : Value} {A : Nat → Prop} {s : State} {args : Array Value} (h : va_Z C n d v A s s.heap) (hv : v.isRef = true) : (Cond.isRef (.static C n d)).before args s = true := by
  obtain ⟨cf, kf, fi, f, a, cell, h1, h2, h3, h4, h5, h6, h7, -⟩ := h
  have he : (Term.static C n d).eval args s none [] s = some v := by
    simp [Term.eval, State.fieldNamed?, h1, h2, h4, h5, h6, h7]
  simp only [Cond.before, Cond.holds, Cond.value, he]
  cases v <;> simp_all [Value.isRef]
theorem vx_isRefq {C n d : String} {A : Nat → Prop} {s : State} {args : Array Value} (h : va_Zq C n d A s s.heap) : (Cond.isRef (.static C n d)).before args s = true := by
  rcases h with h | ⟨t, h⟩
  · exact vx_isRef h rfl
  · exact vx_isRef h rfl
/-- the same frame, seen from here: as if the method were called anew in this heap -/
theorem vx_rebase {T : State} (X : Stand p l e R s m args below meth c T locs cells slots) {R' : Room} (hf : R'.frames ≤ R.frames) (hl : R'.locals ≤ R.locals) (hc : cells + R'.cells ≤ R.cells) (hs : slots + R'.slots ≤ R.slots) :
    Stand p l e R' ((T.setVm s.vm).setFrames (.invoking m args :: below)) m args below meth c T [] 0 0 := by
  have htop : (T.setVm s.vm).topJava?.isSome := X.here.top
  have hF : ((T.setVm s.vm).setFrames (.invoking m args :: below)).frames = .invoking m args :: below := State.frames_setFrames _ (State.cur_lt_of_top htop)
  obtain ⟨g₀, hg0⟩ := Option.isSome_iff_exists.mp htop
  obtain ⟨r, hr⟩ := State.topJava?_eq_some.mp hg0
  have hl9 : e.platform.stackLimits (T.setVm s.vm).me = e.platform.stackLimits s.me := X.limits
  have hb9 : (T.setVm s.vm).me.stackBytes = s.me.stackBytes := X.bytes
  refine ⟨X.admits, X.cas, X.clock, hF, ?_, X.hears, X.method, X.code, X.here, X.tail, X.warmed, ?_, ?_, ?_⟩
  · have h := X.room
    have hU : ((T.setVm s.vm).setFrames (.invoking m args :: below)).localsInUse = s.localsInUse := by
      rw [State.localsInUse_invoking hF (meth := meth) (c := c) X.method X.code, State.localsInUse_invoking X.frames X.method X.code]
    simp only [State.hasRoom, Bool.and_eq_true, decide_eq_true_eq] at h ⊢
    obtain ⟨⟨⟨⟨h1, h2, h3, h4, h5, h6⟩, h7⟩, h8⟩, h9⟩ := h
    rw [X.frames, List.length_cons] at h2 h3
    have q1 := X.heapSize
    have q2 := X.used
    simp only [hF, hU, List.length_cons, State.stackLimits_setFrames, State.stackBytes_setFrames, hl9, hb9]
    refine ⟨⟨⟨⟨by omega, by omega, by omega, by omega, by omega, h6⟩, ?_⟩, ?_⟩, X.book⟩
    · show T.heap.size + R'.cells ≤ e.platform.maxCells
      omega
    · show T.slotsUsed + R'.slots ≤ e.platform.maxSlots
      omega
  · rw [State.stackLimits_setFrames]; rfl
  · rw [State.stackBytes_setFrames]; rfl
  · refine ⟨?_, Nat.le_refl _, Nat.le_refl _, ?_, ?_, fun a c9 h9 => ⟨c9, h9, rfl, rfl, fun _ _ => rfl⟩⟩
    · obtain ⟨t, ht, -⟩ := State.frames_cons hr
      show T.setVm s.vm = { ((T.setVm s.vm).setFrames (.invoking m args :: below)).setFrames (T.setVm s.vm).frames with heap := T.heap, slotsUsed := T.slotsUsed }
      rw [State.setFrames_setFrames, State.setFrames_self ht]
      rfl
    · show T.slotsUsed = T.slotsUsed + ((T.heap.toList.drop T.heap.size).map (·.slots.size)).sum
      rw [List.drop_eq_nil_of_le (Nat.le_of_eq Array.length_toList)]
      rfl
    · show ((T.heap.toList.drop T.heap.size).map (·.slots.size)).sum ≤ 0
      rw [List.drop_eq_nil_of_le (Nat.le_of_eq Array.length_toList)]
      exact Nat.le_refl _
/-- 'throw new E()': new; dup; invokespecial; athrow -/
theorem vx_throw0 {cc : ByteArray} {pc : Nat} (hexec : p.tables.exec = Jvm.exec) (hb : c.code = cc) (hl : l.stackTraces = false) {own cls : String} {names : List String} {ik ic mc ms : Nat} {A : Nat → Prop}
    (hown : s.vm.findClass own = some m.cls) (hcls : Bundle.fit cls = true) (hnames : ∀ n ∈ names, Bundle.fit n = true)
    (hk : (Cond.classLink own ik cls).before args s = true) (hini : (Cond.initialized cls).before args s = true) (hat : ∀ w ∈ vx_at0 own ic cls names, w.before args s = true)
    (hgood : ∀ w ∈ Cond.classLink own ik cls :: Cond.initialized cls :: vx_at0 own ic cls names, vx_ot w = true)
    (hU : vx_Zq Bundle.tN "UNASSIGNED_STACK" Bundle.steD A s s.heap) (hN : vx_Zq Bundle.tN "SUPPRESSED_SENTINEL" Bundle.listD A s s.heap) (hS : va_S A s.heap H locs) (hsize : ls.size = c.maxLocals)
    (d0 : decode cc pc = .ok (.new ik, 3)) (d3 : decode cc (pc + 3) = .ok (.dup, 1)) (d4 : decode cc (pc + 4) = .ok (.invokespecial ic, 3)) (d7 : decode cc (pc + 7) = .ok (.athrow, 1))
    (hout : ∀ x ∈ c.exceptionTable.toList, covers x (pc + 7) = false)
    (hRframes : names.length + 3 < R.frames) (hRlocals : (rest.map fun v => v.category).sum + (13 * (names.length + 1) + 42) ≤ R.locals) (hRcells : cells + 1 ≤ R.cells) (hRslots : slots + 6 ≤ R.slots) (hlocks : meth.locks = false)
    (hx : ∀ t : State, s.vm.Alike t.vm → H.size ≤ t.heap.size → (∀ q : Nat, q < H.size → t.heap[q]? = H[q]?) → XC cls s t)
    (hf : ∀ z ∈ locs, free z.base) (hc : cells + 1 ≤ mc) (hs : slots + 6 ≤ ms) :
    W p l e R s m args below meth c H locs cells slots (vx_MQ below Qc XC args s mc ms free) (F0 m pc ls rest) := by
  intro T hT X
  have htr : e.platform.stackTraces = false := (show e.platform.stackTraces = l.stackTraces by rw [X.admits.platform]).trans hl
  have Y := vx_rebase X (R' := { frames := R.frames, locals := R.locals, cells := 1, slots := 6 }) (Nat.le_refl _) (Nat.le_refl _) hRcells hRslots
  obtain ⟨s', hA⟩ : ∃ z, z = (T.setVm s.vm).setFrames (.invoking m args :: below) := ⟨_, rfl⟩
  rw [← hA] at Y
  have hvm : s'.vm = s.vm := by rw [hA]; rfl
  have hhp : s'.heap = H := by rw [hA]; exact hT
  have hW0 : s.WarmedH s'.vm := by rw [hvm]; exact State.WarmedH.refl s
  have hat' : ∀ w ∈ vx_at0 own ic cls names, w.before args s' = true := fun w hw => vx_ot_at hW0 hvm.symm (hgood w (List.mem_cons_of_mem _ (List.mem_cons_of_mem _ hw))) (hat w hw)
  have hk' : (Cond.classLink own ik cls).before args s' = true := vx_ot_at hW0 hvm.symm (hgood _ List.mem_cons_self) hk
  have hini' : (Cond.initialized cls).before args s' = true := vx_ot_at hW0 hvm.symm (hgood _ (List.mem_cons_of_mem _ List.mem_cons_self)) hini
  have hU' : vx_Zq Bundle.tN "UNASSIGNED_STACK" Bundle.steD A s' s'.heap := by rw [hhp]; exact vx_Zq.moved hW0.alike (hU.kept hS.2.1)
  have hN' : vx_Zq Bundle.tN "SUPPRESSED_SENTINEL" Bundle.listD A s' s'.heap := by rw [hhp]; exact vx_Zq.moved hW0.alike (hN.kept hS.2.1)
  have h : ∀ w ∈ Bundle.ownAtoms0 own ic cls names, w.before args s' = true := vx_own hat' (vx_isRefq hU'.1) (vx_isRefq hN'.1) hU'.2.word hN'.2.word
  have hown' : s'.vm.findClass own = some m.cls := by rw [hvm]; exact hown
  have hins : (Cond.instantiable cls 6).before args s' = true := h _ (by simp [Bundle.ownAtoms0])
  obtain ⟨vm₁, cX, kX, hfX, hkX, -, -, X₁, st1⟩ := Y.newCold hexec (own := own) (C := cls) (index := ik) (n := 6) hown' hk' hins hini'
    (g := F0 m pc ls rest) rfl (by rw [hb]; exact d0) (Nat.le_refl _) (Nat.le_refl _)
  generalize hT1 : (T.setVm vm₁).pushCell { cls := cX, slots := kX.instanceTypes.map defaultValue, vm := .none } = T1 at X₁ st1
  have hcat : (Value.ref T.heap.size).category = 1 := rfl
  have hcellA : T1.heap[T.heap.size]? = some (freshCell cX kX) := by rw [← hT1]; exact State.heap_pushCell_size _ _
  have d3' : decode c.code (pc + 3) = .ok (.dup, 1) := by rw [hb]; exact d3
  obtain ⟨U, hsteps, hrun, hend, hW, hsame, ce, hce, hO⟩ := X₁.ctorThrow0 hexec htr (own := own) (cls := cls) (names := names) (ic := ic) hown' hcls hnames h (fun x hx => nomatch hx) hfX hkX hcellA (by rw [hhp, hT]; exact Nat.le_refl _)
    (g := { method := m, pc := pc + 4, locals := ls, stack := .ref T.heap.size :: .ref T.heap.size :: rest, locked := none }) rfl hsize rfl rfl (rest := rest) rfl
    (by rw [hb]; exact d4) (by rw [hb]; exact d7) hout hRframes (by simp only [List.map_cons, List.sum_cons, hcat]; omega) hlocks
  obtain ⟨f1, f2⟩ := vx_frame hsame
  rw [hhp] at f1 f2
  have hWs : s.WarmedH U.vm := State.WarmedH.trans hW0 hW
  have hcl : s.vm.findClass cls = some ce.cls := by
    have h9 := hO.cls
    rw [hvm] at h9
    exact h9
  have hall : s.sameButNew ({ U with vm := s.vm } : State) locs mc ms := by
    subst hA
    obtain ⟨e1, e2⟩ := hsame
    rw [State.setFrames_setFrames] at e1
    have h2 : (T.setVm s.vm).sameButNew ({ U with vm := s.vm } : State) [] (0 + 1) (0 + 6) := ⟨e1, e2⟩
    have h3 := X.same.trans h2
    rw [List.append_nil] at h3
    exact h3.mono hc hs
  refine ⟨U, ?_, .threw T.heap.size, hrun, hend, Or.inr ⟨T.heap.size, rfl, cls, ce, locs, hx U hWs.alike f1 (fun q hq => f2 q hq (fun z hz => nomatch hz)), hce, hO.vm, hcl, hWs, hall, hf⟩⟩
  refine st1 _ ?_
  show Steps p.tables e below (T1.setTop { method := m, pc := pc + 3, locals := ls, stack := .ref T.heap.size :: rest, locked := none }) _
  jvm_step X₁.here [X₁.here.top, hexec, d3', Value.category]
  exact hsteps
/-- 'throw new E("text")': new; dup; ldc; invokespecial; athrow -/
theorem vx_throwS {cc : ByteArray} {pc : Nat} (hexec : p.tables.exec = Jvm.exec) (hb : c.code = cc) (hl : l.stackTraces = false) {own cls text : String} {names : List String} {ik is ic mc ms sa : Nat} {A : Nat → Prop}
    (hown : s.vm.findClass own = some m.cls) (hcls : Bundle.fit cls = true) (hnames : ∀ n ∈ names, Bundle.fit n = true)
    (hk : (Cond.classLink own ik cls).before args s = true) (hini : (Cond.initialized cls).before args s = true) (hstr : vk_R own is text sa s) (hat : ∀ w ∈ vx_atS own ic cls names, w.before args s = true)
    (hgood : ∀ w ∈ Cond.classLink own ik cls :: Cond.initialized cls :: vx_atS own ic cls names, vx_ot w = true)
    (hU : vx_Zq Bundle.tN "UNASSIGNED_STACK" Bundle.steD A s s.heap) (hN : vx_Zq Bundle.tN "SUPPRESSED_SENTINEL" Bundle.listD A s s.heap) (hS : va_S A s.heap H locs) (hsize : ls.size = c.maxLocals)
    (d0 : decode cc pc = .ok (.new ik, 3)) (d3 : decode cc (pc + 3) = .ok (.dup, 1)) (d4 : decode cc (pc + 4) = .ok (.ldc is, 2)) (d6 : decode cc (pc + 6) = .ok (.invokespecial ic, 3)) (d9 : decode cc (pc + 9) = .ok (.athrow, 1))
    (hout : ∀ x ∈ c.exceptionTable.toList, covers x (pc + 9) = false)
    (hRframes : names.length + 3 < R.frames) (hRlocals : (rest.map fun v => v.category).sum + (13 * (names.length + 1) + 43) ≤ R.locals) (hRcells : cells + 1 ≤ R.cells) (hRslots : slots + 6 ≤ R.slots) (hlocks : meth.locks = false)
    (hx : ∀ t : State, s.vm.Alike t.vm → H.size ≤ t.heap.size → (∀ q : Nat, q < H.size → t.heap[q]? = H[q]?) → XC cls s t)
    (hf : ∀ z ∈ locs, free z.base) (hc : cells + 1 ≤ mc) (hs : slots + 6 ≤ ms) :
    W p l e R s m args below meth c H locs cells slots (vx_MQ below Qc XC args s mc ms free) (F0 m pc ls rest) := by
  intro T hT X
  have htr : e.platform.stackTraces = false := (show e.platform.stackTraces = l.stackTraces by rw [X.admits.platform]).trans hl
  have Y := vx_rebase X (R' := { frames := R.frames, locals := R.locals, cells := 1, slots := 6 }) (Nat.le_refl _) (Nat.le_refl _) hRcells hRslots
  obtain ⟨s', hA⟩ : ∃ z, z = (T.setVm s.vm).setFrames (.invoking m args :: below) := ⟨_, rfl⟩
  rw [← hA] at Y
  have hvm : s'.vm = s.vm := by rw [hA]; rfl
  have hhp : s'.heap = H := by rw [hA]; exact hT
  have hW0 : s.WarmedH s'.vm := by rw [hvm]; exact State.WarmedH.refl s
  have hat' : ∀ w ∈ vx_atS own ic cls names, w.before args s' = true := fun w hw => vx_ot_at hW0 hvm.symm (hgood w (List.mem_cons_of_mem _ (List.mem_cons_of_mem _ hw))) (hat w hw)
  have hk' : (Cond.classLink own ik cls).before args s' = true := vx_ot_at hW0 hvm.symm (hgood _ List.mem_cons_self) hk
  have hini' : (Cond.initialized cls).before args s' = true := vx_ot_at hW0 hvm.symm (hgood _ (List.mem_cons_of_mem _ List.mem_cons_self)) hini
  have hU' : vx_Zq Bundle.tN "UNASSIGNED_STACK" Bundle.steD A s' s'.heap := by rw [hhp]; exact vx_Zq.moved hW0.alike (hU.kept hS.2.1)
  have hN' : vx_Zq Bundle.tN "SUPPRESSED_SENTINEL" Bundle.listD A s' s'.heap := by rw [hhp]; exact vx_Zq.moved hW0.alike (hN.kept hS.2.1)
  have h : ∀ w ∈ Bundle.ownAtoms own ic cls names, w.before args s' = true := vx_own hat' (vx_isRefq hU'.1) (vx_isRefq hN'.1) hU'.2.word hN'.2.word
  have hown' : s'.vm.findClass own = some m.cls := by rw [hvm]; exact hown
  have hins : (Cond.instantiable cls 6).before args s' = true := h _ (by simp [Bundle.ownAtoms])
  obtain ⟨vm₁, cX, kX, hfX, hkX, -, -, X₁, st1⟩ := Y.newCold hexec (own := own) (C := cls) (index := ik) (n := 6) hown' hk' hins hini'
    (g := F0 m pc ls rest) rfl (by rw [hb]; exact d0) (Nat.le_refl _) (Nat.le_refl _)
  generalize hT1 : (T.setVm vm₁).pushCell { cls := cX, slots := kX.instanceTypes.map defaultValue, vm := .none } = T1 at X₁ st1
  have hcat : (Value.ref T.heap.size).category = 1 := rfl
  have hcellA : T1.heap[T.heap.size]? = some (freshCell cX kX) := by rw [← hT1]; exact State.heap_pushCell_size _ _
  have d3' : decode c.code (pc + 3) = .ok (.dup, 1) := by rw [hb]; exact d3
  have d4' : decode c.code (pc + 4) = .ok (.ldc is, 2) := by rw [hb]; exact d4
  have hstr' : vk_R own is text sa s' := vk_R.warm hW0 hstr
  obtain ⟨U, hsteps, hrun, hend, hW, hsame, ce, hce, hO⟩ := X₁.ctorThrowS hexec htr (own := own) (cls := cls) (names := names) (ic := ic) hown' hcls hnames h (fun x hx => nomatch hx) hfX hkX hcellA (by rw [hhp, hT]; exact Nat.le_refl _) (msg := .ref sa) rfl
    (g := { method := m, pc := pc + 6, locals := ls, stack := .ref sa :: .ref T.heap.size :: .ref T.heap.size :: rest, locked := none }) rfl hsize rfl rfl (rest := rest) rfl
    (by rw [hb]; exact d6) (by rw [hb]; exact d9) hout hRframes (by simp only [List.map_cons, List.sum_cons, hcat]; omega) hlocks
  obtain ⟨f1, f2⟩ := vx_frame hsame
  rw [hhp] at f1 f2
  have hWs : s.WarmedH U.vm := State.WarmedH.trans hW0 hW
  have hcl : s.vm.findClass cls = some ce.cls := by
    have h9 := hO.cls
    rw [hvm] at h9
    exact h9
  have hall : s.sameButNew ({ U with vm := s.vm } : State) locs mc ms := by
    subst hA
    obtain ⟨e1, e2⟩ := hsame
    rw [State.setFrames_setFrames] at e1
    have h2 : (T.setVm s.vm).sameButNew ({ U with vm := s.vm } : State) [] (0 + 1) (0 + 6) := ⟨e1, e2⟩
    have h3 := X.same.trans h2
    rw [List.append_nil] at h3
    exact h3.mono hc hs
  refine ⟨U, ?_, .threw T.heap.size, hrun, hend, Or.inr ⟨T.heap.size, rfl, cls, ce, locs, hx U hWs.alike f1 (fun q hq => f2 q hq (fun z hz => nomatch hz)), hce, hO.vm, hcl, hWs, hall, hf⟩⟩
  refine st1 _ ?_
  show Steps p.tables e below (T1.setTop { method := m, pc := pc + 3, locals := ls, stack := .ref T.heap.size :: rest, locked := none }) _
  jvm_step X₁.here [X₁.here.top, hexec, d3', Value.category]
  exact X₁.ldcString hexec (own := own) (text := text) (index := is) (a := sa) hown' hstr'.1 hstr'.2
    (g := { method := m, pc := pc + 4, locals := ls, stack := .ref T.heap.size :: .ref T.heap.size :: rest, locked := none }) rfl d4' _ hsteps
/-- 'throw new E("text")', the text by a wide index -/
theorem vx_throwSW {cc : ByteArray} {pc : Nat} (hexec : p.tables.exec = Jvm.exec) (hb : c.code = cc) (hl : l.stackTraces = false) {own cls text : String} {names : List String} {ik is ic mc ms sa : Nat} {A : Nat → Prop}
    (hown : s.vm.findClass own = some m.cls) (hcls : Bundle.fit cls = true) (hnames : ∀ n ∈ names, Bundle.fit n = true)
    (hk : (Cond.classLink own ik cls).before args s = true) (hini : (Cond.initialized cls).before args s = true) (hstr : vk_R own is text sa s) (hat : ∀ w ∈ vx_atS own ic cls names, w.before args s = true)
    (hgood : ∀ w ∈ Cond.classLink own ik cls :: Cond.initialized cls :: vx_atS own ic cls names, vx_ot w = true)
    (hU : vx_Zq Bundle.tN "UNASSIGNED_STACK" Bundle.steD A s s.heap) (hN : vx_Zq Bundle.tN "SUPPRESSED_SENTINEL" Bundle.listD A s s.heap) (hS : va_S A s.heap H locs) (hsize : ls.size = c.maxLocals)
    (d0 : decode cc pc = .ok (.new ik, 3)) (d3 : decode cc (pc + 3) = .ok (.dup, 1)) (d4 : decode cc (pc + 4) = .ok (.ldc_w is, 3)) (d7 : decode cc (pc + 7) = .ok (.invokespecial ic, 3)) (d10 : decode cc (pc + 10) = .ok (.athrow, 1))
    (hout : ∀ x ∈ c.exceptionTable.toList, covers x (pc + 10) = false)
    (hRframes : names.length + 3 < R.frames) (hRlocals : (rest.map fun v => v.category).sum + (13 * (names.length + 1) + 43) ≤ R.locals) (hRcells : cells + 1 ≤ R.cells) (hRslots : slots + 6 ≤ R.slots) (hlocks : meth.locks = false)
    (hx : ∀ t : State, s.vm.Alike t.vm → H.size ≤ t.heap.size → (∀ q : Nat, q < H.size → t.heap[q]? = H[q]?) → XC cls s t)
    (hf : ∀ z ∈ locs, free z.base) (hc : cells + 1 ≤ mc) (hs : slots + 6 ≤ ms) :
    W p l e R s m args below meth c H locs cells slots (vx_MQ below Qc XC args s mc ms free) (F0 m pc ls rest) := by
  intro T hT X
  have htr : e.platform.stackTraces = false := (show e.platform.stackTraces = l.stackTraces by rw [X.admits.platform]).trans hl
  have Y := vx_rebase X (R' := { frames := R.frames, locals := R.locals, cells := 1, slots := 6 }) (Nat.le_refl _) (Nat.le_refl _) hRcells hRslots
  obtain ⟨s', hA⟩ : ∃ z, z = (T.setVm s.vm).setFrames (.invoking m args :: below) := ⟨_, rfl⟩
  rw [← hA] at Y
  have hvm : s'.vm = s.vm := by rw [hA]; rfl
  have hhp : s'.heap = H := by rw [hA]; exact hT
  have hW0 : s.WarmedH s'.vm := by rw [hvm]; exact State.WarmedH.refl s
  have hat' : ∀ w ∈ vx_atS own ic cls names, w.before args s' = true := fun w hw => vx_ot_at hW0 hvm.symm (hgood w (List.mem_cons_of_mem _ (List.mem_cons_of_mem _ hw))) (hat w hw)
  have hk' : (Cond.classLink own ik cls).before args s' = true := vx_ot_at hW0 hvm.symm (hgood _ List.mem_cons_self) hk
  have hini' : (Cond.initialized cls).before args s' = true := vx_ot_at hW0 hvm.symm (hgood _ (List.mem_cons_of_mem _ List.mem_cons_self)) hini
  have hU' : vx_Zq Bundle.tN "UNASSIGNED_STACK" Bundle.steD A s' s'.heap := by rw [hhp]; exact vx_Zq.moved hW0.alike (hU.kept hS.2.1)
  have hN' : vx_Zq Bundle.tN "SUPPRESSED_SENTINEL" Bundle.listD A s' s'.heap := by rw [hhp]; exact vx_Zq.moved hW0.alike (hN.kept hS.2.1)
  have h : ∀ w ∈ Bundle.ownAtoms own ic cls names, w.before args s' = true := vx_own hat' (vx_isRefq hU'.1) (vx_isRefq hN'.1) hU'.2.word hN'.2.word
  have hown' : s'.vm.findClass own = some m.cls := by rw [hvm]; exact hown
  have hins : (Cond.instantiable cls 6).before args s' = true := h _ (by simp [Bundle.ownAtoms])
  obtain ⟨vm₁, cX, kX, hfX, hkX, -, -, X₁, st1⟩ := Y.newCold hexec (own := own) (C := cls) (index := ik) (n := 6) hown' hk' hins hini'
    (g := F0 m pc ls rest) rfl (by rw [hb]; exact d0) (Nat.le_refl _) (Nat.le_refl _)
  generalize hT1 : (T.setVm vm₁).pushCell { cls := cX, slots := kX.instanceTypes.map defaultValue, vm := .none } = T1 at X₁ st1
  have hcat : (Value.ref T.heap.size).category = 1 := rfl
  have hcellA : T1.heap[T.heap.size]? = some (freshCell cX kX) := by rw [← hT1]; exact State.heap_pushCell_size _ _
  have d3' : decode c.code (pc + 3) = .ok (.dup, 1) := by rw [hb]; exact d3
  have d4' : decode c.code (pc + 4) = .ok (.ldc_w is, 3) := by rw [hb]; exact d4
  have hstr' : vk_R own is text sa s' := vk_R.warm hW0 hstr
  obtain ⟨U, hsteps, hrun, hend, hW, hsame, ce, hce, hO⟩ := X₁.ctorThrowS hexec htr (own := own) (cls := cls) (names := names) (ic := ic) hown' hcls hnames h (fun x hx => nomatch hx) hfX hkX hcellA (by rw [hhp, hT]; exact Nat.le_refl _) (msg := .ref sa) rfl
    (g := { method := m, pc := pc + 7, locals := ls, stack := .ref sa :: .ref T.heap.size :: .ref T.heap.size :: rest, locked := none }) rfl hsize rfl rfl (rest := rest) rfl
    (by rw [hb]; exact d7) (by rw [hb]; exact d10) hout hRframes (by simp only [List.map_cons, List.sum_cons, hcat]; omega) hlocks
  obtain ⟨f1, f2⟩ := vx_frame hsame
  rw [hhp] at f1 f2
  have hWs : s.WarmedH U.vm := State.WarmedH.trans hW0 hW
  have hcl : s.vm.findClass cls = some ce.cls := by
    have h9 := hO.cls
    rw [hvm] at h9
    exact h9
  have hall : s.sameButNew ({ U with vm := s.vm } : State) locs mc ms := by
    subst hA
    obtain ⟨e1, e2⟩ := hsame
    rw [State.setFrames_setFrames] at e1
    have h2 : (T.setVm s.vm).sameButNew ({ U with vm := s.vm } : State) [] (0 + 1) (0 + 6) := ⟨e1, e2⟩
    have h3 := X.same.trans h2
    rw [List.append_nil] at h3
    exact h3.mono hc hs
  refine ⟨U, ?_, .threw T.heap.size, hrun, hend, Or.inr ⟨T.heap.size, rfl, cls, ce, locs, hx U hWs.alike f1 (fun q hq => f2 q hq (fun z hz => nomatch hz)), hce, hO.vm, hcl, hWs, hall, hf⟩⟩
  refine st1 _ ?_
  show Steps p.tables e below (T1.setTop { method := m, pc := pc + 3, locals := ls, stack := .ref T.heap.size :: rest, locked := none }) _
  jvm_step X₁.here [X₁.here.top, hexec, d3', Value.category]
  exact X₁.ldcStringW hexec (own := own) (text := text) (index := is) (a := sa) hown' hstr'.1 hstr'.2
    (g := { method := m, pc := pc + 4, locals := ls, stack := .ref T.heap.size :: .ref T.heap.size :: rest, locked := none }) rfl d4' _ hsteps
end Ends
section Bodies
variable {l : Launch}
theorem vx_ofW {y : MethodName} {ws ws' : List Cond} {rm : Room} {Pc : Array Value → State → Prop} {Qc : Array Value → State → Outcome → State → Prop} {XC : String → State → State → Prop} {mc ms : Nat} {free : Addr → Prop} {cc : ByteArray} {maxL : Nat} {ret : Option FieldType}
    (hy : plainName y.cls = true) (hw : ws = Cond.code y cc maxL ret :: ws')
    (body : ∀ p e s m args below meth c s₁, BodyLoose p l y (headSpec ws rm) cc maxL ret e s m args below meth c s₁ → c.maxLocals = maxL → (∀ x ∈ c.exceptionTable.toList, False) → Pc args s →
      W p l e (headSpec ws rm).room s m args below meth c s.heap [] 0 0 (vx_MQ below Qc XC args s mc ms free) (entryFrame m args maxL)) : vx_Met l y ws rm Pc Qc XC mc ms free := by
  refine MetFree.of_bodyS (code := cc) (maxLocals := maxL) (ret := ret) hy ?_ ?_
  · intro args s m h hn
    obtain ⟨meth, c, h1, h2, h3, h4, h5, h6, -, -⟩ := Cond.code_spec hn (atoms_spec (ws := ws) h _ (by rw [hw]; exact List.mem_cons_self))
    exact ⟨meth, c, h1, h2, h3, h4, h5, h6⟩
  · intro p e s m args below meth c s₁ B hml hP _
    have hh0 : s₁.heap = s.heap := by rw [B.state]; rfl
    have ht : ∀ x ∈ c.exceptionTable.toList, False := by
      obtain ⟨meth9, c9, h1, h2, -, -, -, -, h7, -⟩ := Cond.code_spec B.named (atoms_spec (ws := ws) B.pre _ (by rw [hw]; exact List.mem_cons_self))
      cases Option.some.inj (h1.symm.trans B.method)
      cases Option.some.inj (h2.symm.trans (Stand.of_body B).code)
      intro x hx
      rw [Array.isEmpty_iff.mp h7] at hx
      cases hx
    obtain ⟨t, a1, o, b1, b2, b3⟩ := body p e s m args below meth c s₁ B hml ht hP s₁ hh0 (Stand.of_body B)
    exact ⟨t, o, a1, b1, b2, b3⟩
/-- the table of a body with handlers -/
theorem vx_table {p : Program} {x y : MethodName} {S : Spec} {cc bytes : ByteArray} {maxL maxL' : Nat} {ret ret' : Option FieldType} {e : Env} {s s₁ : State} {m : MethodId} {args : Array Value} {below : List Frame} {meth : Method} {c : Code} {hh : List (Nat × Nat × Nat × Nat)}
    (B : BodyLoose p l y S cc maxL ret e s m args below meth c s₁) (h : (Cond.codeWith y bytes maxL' ret' hh).before args s = true) : c.exceptionTable.toList = tableOf hh := by
  obtain ⟨m9, meth9, c9, hn9, h1, h2, -, -, h6, -⟩ := Cond.codeWith_spec h
  cases Option.some.inj (hn9.symm.trans B.named)
  cases Option.some.inj (h1.symm.trans B.method)
  cases Option.some.inj (h2.symm.trans (Stand.of_body B).code)
  rw [← h6, table_eq]
end Bodies
end VXA
/-! ===== END ===== -/
/-! ===== BEGIN a static call of a method with an exception table ===== -/
section VXS
variable {p : Program} {l : Launch} {e : Env} {R : Room} {s : State} {m : MethodId} {args : Array Value} {below : List Frame} {meth : Method} {c : Code} {T : State} {H : Heap} {locs : List Loc} {cells slots : Nat}
abbrev vx_CSW (R : Room) (s : State) (args : Array Value) (own : String) (index : Nat) (y : MethodName) (bytes : ByteArray) (maxL : Nat) (ret : Option FieldType) (hh : List (Nat × Nat × Nat × Nat)) (ws : List Cond) (rm : Room) (mc ms n : Nat) : Prop :=
  (rm.cells = mc ∧ rm.slots = ms ∧ rm.frames + 1 ≤ R.frames ∧ 8 + (maxL + 11) + rm.locals ≤ R.locals ∧ (∀ w ∈ ws, ∀ (a' : Array Value) (U : State), s.WarmedH U.vm → w.before a' U = true) ∧ Cond.codeWith y bytes maxL ret hh ∈ ws) ∧
  (Cond.codeWith y bytes maxL ret hh).before args s = true ∧ (Cond.initialized y.cls).before args s = true ∧ (y.cls ≠ "java/lang/invoke/MethodHandle" ∧ y.cls ≠ "java/lang/invoke/VarHandle") ∧
  (∀ sig, parseMethodDescriptor y.desc = some sig → n = sig.parameters.length) ∧ (Cond.methodLink own index y).before args s = true ∧ (Cond.static y).before args s = true
theorem vx_cwSW {own : String} {index maxL mc ms : Nat} {y : MethodName} {bytes : ByteArray} {ret : Option FieldType} {hh : List (Nat × Nat × Nat × Nat)} {Ts ws ws' : List Cond} {rm : Room} (n : Nat) (ht : ∀ w ∈ Ts, w.before args s = true) (hT : GoodIn Ts (va_wsS own index y ws)) (hw : ws = Cond.codeWith y bytes maxL ret hh :: ws') (hrc : rm.cells = mc) (hrs : rm.slots = ms)
    (hd : y.cls ≠ "java/lang/invoke/MethodHandle" ∧ y.cls ≠ "java/lang/invoke/VarHandle" ∧ (parseMethodDescriptor y.desc).map (fun d => d.parameters.length) = some n) (hR : rm.frames + 1 ≤ R.frames ∧ 8 + (maxL + 11) + rm.locals ≤ R.locals) :
    vx_CSW R s args own index y bytes maxL ret hh ws rm mc ms n := by
  have ok : ∀ w ∈ va_wsS own index y ws, w.before args s = true := fun w h => ht w (hT w h).1
  have hG : GoodIn Ts ws := fun w h => hT w (by unfold va_wsS; exact List.mem_append_right _ h)
  have hc : Cond.codeWith y bytes maxL ret hh ∈ ws := by rw [hw]; exact List.mem_cons_self
  refine ⟨⟨hrc, hrs, hR.1, hR.2, pay_in ht hG, hc⟩, ht _ (hG _ hc).1, ok _ (by simp [va_wsS]), ⟨hd.1, hd.2.1⟩, fun sig h => ?_, ok _ (by simp [va_wsS]), ok _ (by simp [va_wsS])⟩
  have h2 := hd.2.2
  rw [h] at h2
  exact (Option.some.inj h2).symm
theorem vx_callSW (X : Stand p l e R s m args below meth c T locs cells slots) (hexec : p.tables.exec = Jvm.exec) {own : String} {index : Nat} {y : MethodName} {bytes : ByteArray} {maxL : Nat} {ret : Option FieldType} {hh : List (Nat × Nat × Nat × Nat)}
    (hown : s.vm.findClass own = some m.cls) (hlink : (Cond.methodLink own index y).before args s = true) (hstat : (Cond.static y).before args s = true) (hinit : (Cond.initialized y.cls).before args s = true)
    (hcode : (Cond.codeWith y bytes maxL ret hh).before args s = true) (hy : y.cls ≠ "java/lang/invoke/MethodHandle" ∧ y.cls ≠ "java/lang/invoke/VarHandle")
    {W9 : Nat} {Pre : Pt → Array Value → Prop} {Post : Pt → Array Value → Option Value → Pt → Prop} (hK : Back l R p e below s args y 3 W9 Pre Post)
    {g : JFrame} (hg : g.method = m) (hsize : g.locals.size = c.maxLocals) {argsL rest : List Value} (hlen : ∀ sig, parseMethodDescriptor y.desc = some sig → argsL.length = sig.parameters.length)
    (hstack : g.stack = argsL.reverse ++ rest) (hW : 2 * g.monitorRoom + (rest.map fun v => v.category).sum ≤ W9) (hdg : decode c.code g.pc = .ok (.invokestatic index, 3))
    (hpre : ∀ vm₁, s.WarmedH vm₁ → Pre ⟨T.setVm vm₁, locs, cells, slots⟩ argsL.toArray) :
    ∃ (v : Option Value) (vm₁ : Vm) (B : Pt), s.WarmedH vm₁ ∧ Stand p l e R s m args below meth c B.U B.locs B.cells B.slots ∧ Post ⟨T.setVm vm₁, locs, cells, slots⟩ argsL.toArray v B ∧
      ∀ target, Steps p.tables e below (B.U.setTop { g with pc := g.pc + 3, stack := v.toList ++ rest }) target → Steps p.tables e below (T.setTop g) target := by
  obtain ⟨mk, methM, cM, hnamed, hmethM, -, -, -, -, -, -, hsigM⟩ := Cond.codeWith_spec hcode
  have hstatic : methM.isStatic = true := Cond.static_spec hnamed hmethM hstat
  obtain ⟨kP, hkP, -⟩ := className_of_methodNamed hnamed
  have hinitP : kP.init = .initialized := Cond.initialized_spec (findClass_of_methodNamed hnamed) hkP hinit
  obtain ⟨vm₁, X₁, hstep₁⟩ := X.invokestatic hexec hown hlink hnamed hmethM hstatic hkP hinitP hy (g := g) hg (argsL := argsL) (rest := rest) (hlen _ hsigM) hstack hdg
  obtain ⟨v, B, X', hpost, hsteps⟩ := hK m meth c ⟨T.setVm vm₁, locs, cells, slots⟩ { g with stack := rest } (.invokestatic index) mk argsL.toArray X₁ hg hsize hdg hW (X₁.named hnamed) (hpre vm₁ X₁.warmed)
  exact ⟨v, vm₁, B, X₁.warmed, X', hpost, fun target h => hstep₁ _ fun acts => by rw [doInvoke_state]; exact hsteps.trans h⟩
theorem vx_runSW {y : MethodName} {bytes cc : ByteArray} {maxL nL mc ms n index : Nat} {ret : Option FieldType} {hh : List (Nat × Nat × Nat × Nat)} {ws : List Cond} {rm : Room} {Pc : Array Value → State → Prop} {Qc : Array Value → State → Outcome → State → Prop} {free : Addr → Prop} {Ts : List Cond} {own : String} {As rest : List Value} {g : JFrame}
    (S : CallFix p m c cc nL s args Ts own) (hM : Met l y ws rm Pc Qc mc ms free) (cw : vx_CSW R s args own index y bytes maxL ret hh ws rm mc ms n) (hp : PreS s H Pc As)
    (hg : g.method = m) (hn : As.length = n) (hsize : g.locals.size = nL) (hstack : g.stack = As.reverse ++ rest) (hW : 2 * g.monitorRoom + (rest.map fun v => v.category).sum ≤ 8) (hdg : decode cc g.pc = .ok (.invokestatic index, 3)) (hf : cells + mc ≤ R.cells ∧ slots + ms ≤ R.slots) :
    va_Run p l e R s m args below meth c H locs cells slots mc ms g rest (Qc As.toArray) (free) := by
  obtain ⟨⟨hrc, hrs, hfr, hlo, hws, hcw⟩, hcode, hini, hy, hlen, hl, hstt⟩ := cw
  have hK : Back l R p e below s args y 3 8 (PreOf R mc ms Pc) (PostOf Qc mc ms free) := va_backW (hh := hh) (bytes := bytes) (maxL := maxL) (ret := ret) hM hp.1 hrc hrs hfr hlo hws hcw (fun a' U hW => word_at hW (Or.inl (by first | rfl | simp [Cond.onTables, Cond.keeps, Cond.steady])) hini)
  obtain ⟨hx, hb, hml, ho, -⟩ := S
  intro T hT X
  obtain ⟨v, vm₁, ⟨U', l2, c2, s2⟩, hW₁, X', ⟨g', mk, t, L, e1, e2, hq, h1, hL, h2, h3⟩, st⟩ := vx_callSW X hx (hh := hh) (bytes := bytes) (maxL := maxL) (ret := ret) ho hl hstt hini hcode hy hK hg (hsize.trans hml.symm) (argsL := As) (rest := rest) (fun sig h => hn.trans (hlen sig h)) hstack hW (by rw [hb]; exact hdg)
    (fun vm₁ hW₁ => ⟨hf.1, hf.2, hp.2 (T.setVm vm₁) hT hW₁⟩)
  dsimp only [Pt.U, Pt.locs, Pt.cells, Pt.slots] at X' e1 e2 h1 h2 h3 st
  subst h1; subst h2; subst h3
  exact ⟨v, (T.setVm vm₁).calling g' mk As.toArray, t, U', L, hT, X', hL, e1, e2, hq, st⟩
/-- not caught here, past rows that name other classes: it goes on to the caller -/
theorem vx_outP {p : Program} {l : Launch} {e : Env} {R : Room} {s : State} {m : MethodId} {args : Array Value} {below : List Frame} {meth : Method} {c : Code} {H : Heap} {locs : List Loc} {cells slots : Nat} {free : Addr → Prop} {ls : Array Slot} {rest : List Value} {Qc : Array Value → State → Outcome → State → Prop} {XC : String → State → State → Prop}
    {pc : Nat} {own E : String} {ce : Cell} {q : Addr} {mc ms : Nat} (hown : s.vm.findClass own = some m.cls) (hlocks : meth.locks = false)
    (hpass : ∀ z ∈ c.exceptionTable.toList, covers z pc = false ∨ (z.catchType ≠ 0 ∧ ∃ nm : String, (Cond.classLink own z.catchType nm).before args s = true ∧ va_Nc E nm s)) (hcell : H[q]? = some ce) (hv : ce.vm = .none) (hcl : s.vm.findClass E = some ce.cls)
    (hx : ∀ t : State, t.heap = H → s.vm.Alike t.vm → XC E s t) (hf : ∀ z ∈ locs, free z.base) (hc : cells ≤ mc) (hs : slots ≤ ms) :
    vx_W p l e R s m args below meth c H locs cells slots (vx_MQ below Qc XC args s mc ms free) (F0 m pc ls rest) q := by
  intro T hT X
  have hpl : e.platform.magicAccessors = ({} : Platform).magicAccessors := by rw [X.admits.platform]
  obtain ⟨vm', hW', X', st⟩ := X.outThrough hlocks q (g := F0 m pc ls rest) rfl rfl rfl (cell := ce) (by rw [hT]; exact hcell) (by rw [hv]; rfl)
    (by obtain ⟨k9, h9, -⟩ := Vm.findClass_spec hcl; exact ⟨k9, h9⟩) (fun z hz => by
      rcases hpass z hz with h | ⟨hz0, nm, hl1, hn1⟩
      · exact Or.inl h
      · obtain ⟨c6, hc6, hcl6⟩ := Cond.classLink_spec hown hl1 e.platform hpl
        obtain ⟨a8, b8, h1, h2, h3⟩ := hn1
        cases Option.some.inj (h1.symm.trans hcl)
        cases Option.some.inj (h2.symm.trans hc6)
        exact Or.inr ⟨hz0, _, hcl6, h3⟩)
  obtain ⟨g₀, hfr⟩ := X'.frames_eq
  have hcell9 : ((T.setVm vm').setFrames (.throwing q :: below)).heap[q]? = some ce := by
    show T.heap[q]? = some ce
    rw [hT]; exact hcell
  have hend : Ended ((T.setVm vm').setFrames (.throwing q :: below)) below (.threw q) := State.frames_setFrames _ (State.cur_lt_of_frames hfr)
  refine ⟨(T.setVm vm').setFrames (.throwing q :: below), ?_, .threw q, X'.here.running, hend, Or.inr ⟨q, rfl, E, ce, locs, hx _ hT (X'.ends _).1.alike, hcell9, hv, hcl, (X'.ends _).1, (X'.ends _).2.mono hc hs, hf⟩⟩
  rw [X.pushThrowing_eq]
  exact st
/-- a thing of a world lies in the heap -/
theorem vx_lt {D : va_G} {cl : List vw_C} {ws : va_W} {H1 : Heap} (h : va_P D cl ws H1) {k : Nat} {q : Nat × va_E} (hk : ws[k]? = some q) : q.1 < H1.size := (h k q hk).lt
end VXS
/-! ===== END ===== -/
/-! ===== BEGIN methods with a table of their own: called by a name, returning or throwing ===== -/
section VXH
/-! vx_backW, vx_callVX, vx_callSX, vx_callVW, vx_runVW, vx_runVX, vx_runSX, vx_ofWH follow the same proofs as their sisters above (Free/Laws.lean, Shelf42/LK1.lean); vx_outP calls Shelf42/NT130.lean (outThrough). -/
section
variable {l : Launch} {R : Room} {p : Program} {e : Env} {below : List Frame} {s : State} {sargs : Array Value} {y : MethodName} {len W9 : Nat}
theorem vx_backW {ws : List Cond} {rm : Room} {Pc : Array Value → State → Prop} {Qc : Array Value → State → Outcome → State → Prop} {XC : String → State → State → Prop} {mc ms : Nat} {free : Addr → Prop} {bytes : ByteArray} {maxL : Nat} {ret : Option FieldType} {hh : List (Nat × Nat × Nat × Nat)}
    (hM : vx_Met l y ws rm Pc Qc XC mc ms free) (hblind : FrameBlind Pc) (hrc : rm.cells = mc) (hrs : rm.slots = ms)
    (hframes : rm.frames + 1 ≤ R.frames) (hlocals : W9 + (maxL + 11) + rm.locals ≤ R.locals)
    (hws : ∀ w ∈ ws, ∀ a' U, s.WarmedH U.vm → w.before a' U = true) (hcode : Cond.codeWith y bytes maxL ret hh ∈ ws) (hinit : ∀ a' U, s.WarmedH U.vm → (Cond.initialized y.cls).before a' U = true) :
    vx_Back l R p e below s sargs y len W9 (PreOf R mc ms Pc) (PostOf Qc mc ms free) (vx_Post XC mc ms free) := by
  intro m meth c A g ig mk a X hg hsize hdg hW hn hp
  have h1 : (headSpec ws rm).pre.before a A.U = true := atoms_intro fun w hw => hws w hw _ _ X.warmed
  have h2 : (Cond.codeWith y bytes maxL ret hh).before a A.U = true := hws _ hcode _ _ X.warmed
  have h3 : (Cond.initialized y.cls).before a A.U = true := hinit _ _ X.warmed
  have h4 : A.cells + (headSpec ws rm).room.cells ≤ R.cells := by rw [show (headSpec ws rm).room.cells = mc from hrc]; exact hp.1
  have h5 : A.slots + (headSpec ws rm).room.slots ≤ R.slots := by rw [show (headSpec ws rm).room.slots = ms from hrs]; exact hp.2.1
  have hPc : Pc a (A.U.calling g mk a) := hblind _ _ _ _ hp.2.2
  obtain ⟨U, Ls, c0, s0⟩ := A
  dsimp only [Pt.U, Pt.locs, Pt.cells, Pt.slots] at h1 h2 h3 h4 h5 X hn hPc ⊢
  obtain ⟨m9, methY, cY, hn9, hmY, hcY, -, hlY, -⟩ := Cond.codeWith_spec h2
  cases Option.some.inj (hn9.symm.trans hn)
  obtain ⟨kY, hkY, -⟩ := className_of_methodNamed hn
  have hinitY : kY.init = .initialized := Cond.initialized_spec (findClass_of_methodNamed hn) hkY h3
  have h : At U g.method c below := by rw [hg]; exact X.here
  have hlocals9 : W9 + (maxL + 11) + (headSpec ws rm).room.locals ≤ R.locals := hlocals
  have happ : (headSpec ws rm).appliesLoose y e.platform (U.calling g mk a) = true :=
    Spec.appliesLoose_calling (g := g) h hdg hn hkY hinitY
      (X.room_calling (g := g) (R' := (headSpec ws rm).room) hsize hmY hcY hframes (by rw [hlY]; omega) h4 h5) h1
  obtain ⟨mid, hmid⟩ := h.above
  have hfr : (U.setTop g).frames = (.java g :: mid) ++ below := by rw [State.frames_setTop' g h.top, hmid]; rfl
  obtain ⟨o, s₂, hsteps, -, hend, hq⟩ := Steps.callFree hM p X.admits X.cas X.clock (acts := []) hfr happ hPc trivial
  have hq' : vx_Q Qc XC mc ms free a (U.calling g mk a) o s₂ := hq
  rw [State.frames_setTop' g h.top] at hend
  obtain ⟨g₀, hg0⟩ := Option.isSome_iff_exists.mp h.top
  obtain ⟨r, hr⟩ := State.topJava?_eq_some.mp hg0
  have hr' : (({ U with heap := s₂.heap, slotsUsed := s₂.slotsUsed } : State).setVm s₂.vm).frames = .java g₀ :: r := hr
  rcases hq' with ⟨hqc, L, hfe, hL⟩ | ⟨q, rfl, E, ce, L, hx, hce, hcv, hcl, hW₂, hsm, hL⟩
  · obtain ⟨⟨v, rfl⟩, hW₂, e2, q2, q3, q4, q5, q6⟩ := id hfe
    have e3 : s₂ = ({ (U.calling g mk a).setFrames s₂.frames with heap := s₂.heap, slotsUsed := s₂.slotsUsed } : State).setVm s₂.vm := by
      have : s₂ = ({ s₂ with vm := (U.calling g mk a).vm } : State).setVm s₂.vm := rfl
      rw [e2] at this
      exact this
    obtain ⟨c₂, i₂, len₂, hc₂, hd₂, hf₂⟩ := hend
    have hW' : U.WarmedH s₂.vm := hW₂
    have hcc : c₂ = c := by
      have h1 : s₂.code? g.method = U.code? g.method := by
        rw [State.code?_eq, State.code?_eq, hW'.alike.method?]
      exact Option.some.inj (hc₂.symm.trans (h1.trans h.code))
    subst hcc
    have hlen : len₂ = len := by rw [hdg] at hd₂; cases hd₂; rfl
    subst hlen
    have hs₂ : s₂ = (({ U with heap := s₂.heap, slotsUsed := s₂.slotsUsed } : State).setVm s₂.vm).setTop { g with pc := g.pc + len₂, stack := v.toList ++ g.stack } := by
      refine e3.trans ?_
      rw [hf₂, State.calling_eq h.top, State.setFrames_setFrames, State.setTop_of_frames _ hr', hr]
      rfl
    have hsame : U.sameButNew ({ U with heap := s₂.heap, slotsUsed := s₂.slotsUsed } : State) L mc ms := by
      refine ⟨?_, q2, q3, q4, q5, q6⟩
      obtain ⟨t, ht, -⟩ := State.frames_cons hr
      show ({ U with heap := s₂.heap, slotsUsed := s₂.slotsUsed } : State) = { U.setFrames U.frames with heap := s₂.heap, slotsUsed := s₂.slotsUsed }
      rw [State.setFrames_self ht]
    subst hg
    refine Or.inl ⟨v, ⟨(({ U with heap := s₂.heap, slotsUsed := s₂.slotsUsed } : State).setVm s₂.vm), Ls ++ L, c0 + mc, s0 + ms⟩,
      ⟨X.admits, X.cas, X.clock, X.frames, X.room, X.hears, X.method, X.code, (X.here.setHeapUsed s₂.heap s₂.slotsUsed).setVm hW'.alike, X.tail, State.WarmedH.trans X.warmed hW', X.limits, X.bytes, X.same.trans (hsame.setVm s.vm)⟩,
      ⟨g, mk, s₂, L, rfl, rfl, hqc, rfl, hL, rfl, rfl⟩, ?_⟩
    show Steps p.tables e below _ ((({ U with heap := s₂.heap, slotsUsed := s₂.slotsUsed } : State).setVm s₂.vm).setTop { g with pc := g.pc + len₂, stack := v.toList ++ g.stack })
    rw [← hs₂]
    exact hsteps
  · obtain ⟨e2, q2, q3, q4, q5, q6⟩ := id hsm
    have e3 : s₂ = ({ (U.calling g mk a).setFrames s₂.frames with heap := s₂.heap, slotsUsed := s₂.slotsUsed } : State).setVm s₂.vm := by
      have : s₂ = ({ s₂ with vm := (U.calling g mk a).vm } : State).setVm s₂.vm := rfl
      rw [e2] at this
      exact this
    have hf₂ : s₂.frames = .throwing q :: .java g :: U.frames.tail := hend
    have hW' : U.WarmedH s₂.vm := hW₂
    have hs₂ : s₂ = ((({ U with heap := s₂.heap, slotsUsed := s₂.slotsUsed } : State).setVm s₂.vm).setTop g).pushFrame (.throwing q) := by
      refine e3.trans ?_
      rw [hf₂, State.calling_eq h.top, State.setFrames_setFrames, State.pushFrame, State.frames_setTop _ hr', State.setTop_of_frames _ hr', State.setFrames_setFrames, hr]
      rfl
    have hsame : U.sameButNew ({ U with heap := s₂.heap, slotsUsed := s₂.slotsUsed } : State) L mc ms := by
      refine ⟨?_, q2, q3, q4, q5, q6⟩
      obtain ⟨t, ht, -⟩ := State.frames_cons hr
      show ({ U with heap := s₂.heap, slotsUsed := s₂.slotsUsed } : State) = { U.setFrames U.frames with heap := s₂.heap, slotsUsed := s₂.slotsUsed }
      rw [State.setFrames_self ht]
    subst hg
    refine Or.inr ⟨q, ⟨(({ U with heap := s₂.heap, slotsUsed := s₂.slotsUsed } : State).setVm s₂.vm), Ls ++ L, c0 + mc, s0 + ms⟩,
      ⟨X.admits, X.cas, X.clock, X.frames, X.room, X.hears, X.method, X.code, (X.here.setHeapUsed s₂.heap s₂.slotsUsed).setVm hW'.alike, X.tail, State.WarmedH.trans X.warmed hW', X.limits, X.bytes, X.same.trans (hsame.setVm s.vm)⟩,
      ⟨g, mk, s₂, L, E, ce, rfl, rfl, hx, hce, hcv, hcl, rfl, hL, rfl, rfl⟩, ?_⟩
    show Steps p.tables e below _ (((({ U with heap := s₂.heap, slotsUsed := s₂.slotsUsed } : State).setVm s₂.vm).setTop g).pushFrame (.throwing q))
    rw [← hs₂]
    exact hsteps
end
variable {p : Program} {l : Launch} {e : Env} {R : Room} {s : State} {m : MethodId} {args : Array Value} {below : List Frame} {meth : Method} {c : Code} {T : State} {H : Heap} {locs : List Loc} {cells slots : Nat}
theorem vx_callVX (X : Stand p l e R s m args below meth c T locs cells slots) (hexec : p.tables.exec = Jvm.exec) {own C : String} {index : Nat} {y : MethodName} {bytes : ByteArray} {maxL : Nat} {ret : Option FieldType} {hh : List (Nat × Nat × Nat × Nat)}
    (hown : s.vm.findClass own = some m.cls) (hlink : (Cond.methodLink own index y).before args s = true) (hinst : (Cond.instanceMethod y).before args s = true) (hsel : (Cond.selects C y y).before args s = true)
    (hcode : (Cond.codeWith y bytes maxL ret hh).before args s = true) (hy : y.cls ≠ "java/lang/invoke/MethodHandle" ∧ y.cls ≠ "java/lang/invoke/VarHandle")
    {W9 : Nat} {Pre : Pt → Array Value → Prop} {Post : Pt → Array Value → Option Value → Pt → Prop} {PostX : Pt → Array Value → Addr → Pt → Prop} (hK : vx_Back l R p e below s args y 3 W9 Pre Post PostX)
    {b : Addr} {cellB : Cell} (hcell : T.heap[b]? = some cellB) (hobj : cellB.vm.isStatics = false) (hcls : s.vm.findClass C = some cellB.cls)
    {g : JFrame} (hg : g.method = m) (hsize : g.locals.size = c.maxLocals) {argsL rest : List Value} (hlen : ∀ sig, parseMethodDescriptor y.desc = some sig → argsL.length = sig.parameters.length)
    (hstack : g.stack = argsL.reverse ++ .ref b :: rest) (hW : 2 * g.monitorRoom + (rest.map fun v => v.category).sum ≤ W9) (hdg : decode c.code g.pc = .ok (.invokevirtual index, 3))
    (hpre : ∀ vm₁, s.WarmedH vm₁ → Pre ⟨T.setVm vm₁, locs, cells, slots⟩ (Value.ref b :: argsL).toArray) :
    (∃ (v : Option Value) (vm₁ : Vm) (B : Pt), s.WarmedH vm₁ ∧ Stand p l e R s m args below meth c B.U B.locs B.cells B.slots ∧ Post ⟨T.setVm vm₁, locs, cells, slots⟩ (Value.ref b :: argsL).toArray v B ∧
      ∀ target, Steps p.tables e below (B.U.setTop { g with pc := g.pc + 3, stack := v.toList ++ rest }) target → Steps p.tables e below (T.setTop g) target) ∨
    (∃ (q : Addr) (vm₁ : Vm) (B : Pt), s.WarmedH vm₁ ∧ Stand p l e R s m args below meth c B.U B.locs B.cells B.slots ∧ PostX ⟨T.setVm vm₁, locs, cells, slots⟩ (Value.ref b :: argsL).toArray q B ∧
      Steps p.tables e below (T.setTop g) ((B.U.setTop { g with stack := rest }).pushFrame (.throwing q))) := by
  obtain ⟨mk, methM, hnamed, hmethM, hstM, habM⟩ := Cond.instanceMethod_spec hinst
  obtain ⟨m8, methM', cM, hn8, hmethM', -, -, -, -, -, -, hsigM⟩ := Cond.codeWith_spec hcode
  cases Option.some.inj (hn8.symm.trans hnamed)
  cases hmethM.symm.trans hmethM'
  obtain ⟨c2, r2, m2, q1, q2, q3, q4, kP, hkP, hkPi⟩ := Cond.selects_spec hsel
  cases hcls.symm.trans q1
  cases (State.methodFound?_of_named hnamed hy).symm.trans q2
  cases hnamed.symm.trans q3
  have hselP : selectMethod e.platform s.vm cellB.cls mk = .method mk := by rw [Launch.admits_selectMethod X.admits]; exact q4
  obtain ⟨vm₁, X₁, hstep₁⟩ := X.invokevirtual hexec hown hlink hnamed hmethM hstM hkP hkPi hy (a := b) (cell := cellB) hcell
    (fun z h => by rw [h] at hobj; cases hobj) hselP hmethM habM hkP hkPi (g := g) hg (argsL := argsL) (rest := rest) (hlen _ hsigM) hstack hdg
  rcases hK m meth c ⟨T.setVm vm₁, locs, cells, slots⟩ { g with stack := rest } (.invokevirtual index) mk (Value.ref b :: argsL).toArray X₁ hg hsize hdg hW (X₁.named hnamed) (hpre vm₁ X₁.warmed) with ⟨v, B, X', hpost, hsteps⟩ | ⟨q, B, X', hpost, hsteps⟩
  · exact Or.inl ⟨v, vm₁, B, X₁.warmed, X', hpost, fun target h => hstep₁ _ fun acts => by rw [doInvoke_state]; exact hsteps.trans h⟩
  · exact Or.inr ⟨q, vm₁, B, X₁.warmed, X', hpost, hstep₁ _ fun acts => by rw [doInvoke_state]; exact hsteps⟩
theorem vx_callSX (X : Stand p l e R s m args below meth c T locs cells slots) (hexec : p.tables.exec = Jvm.exec) {own : String} {index : Nat} {y : MethodName} {bytes : ByteArray} {maxL : Nat} {ret : Option FieldType} {hh : List (Nat × Nat × Nat × Nat)}
    (hown : s.vm.findClass own = some m.cls) (hlink : (Cond.methodLink own index y).before args s = true) (hstat : (Cond.static y).before args s = true) (hinit : (Cond.initialized y.cls).before args s = true)
    (hcode : (Cond.codeWith y bytes maxL ret hh).before args s = true) (hy : y.cls ≠ "java/lang/invoke/MethodHandle" ∧ y.cls ≠ "java/lang/invoke/VarHandle")
    {W9 : Nat} {Pre : Pt → Array Value → Prop} {Post : Pt → Array Value → Option Value → Pt → Prop} {PostX : Pt → Array Value → Addr → Pt → Prop} (hK : vx_Back l R p e below s args y 3 W9 Pre Post PostX)
    {g : JFrame} (hg : g.method = m) (hsize : g.locals.size = c.maxLocals) {argsL rest : List Value} (hlen : ∀ sig, parseMethodDescriptor y.desc = some sig → argsL.length = sig.parameters.length)
    (hstack : g.stack = argsL.reverse ++ rest) (hW : 2 * g.monitorRoom + (rest.map fun v => v.category).sum ≤ W9) (hdg : decode c.code g.pc = .ok (.invokestatic index, 3))
    (hpre : ∀ vm₁, s.WarmedH vm₁ → Pre ⟨T.setVm vm₁, locs, cells, slots⟩ argsL.toArray) :
    (∃ (v : Option Value) (vm₁ : Vm) (B : Pt), s.WarmedH vm₁ ∧ Stand p l e R s m args below meth c B.U B.locs B.cells B.slots ∧ Post ⟨T.setVm vm₁, locs, cells, slots⟩ argsL.toArray v B ∧
      ∀ target, Steps p.tables e below (B.U.setTop { g with pc := g.pc + 3, stack := v.toList ++ rest }) target → Steps p.tables e below (T.setTop g) target) ∨
    (∃ (q : Addr) (vm₁ : Vm) (B : Pt), s.WarmedH vm₁ ∧ Stand p l e R s m args below meth c B.U B.locs B.cells B.slots ∧ PostX ⟨T.setVm vm₁, locs, cells, slots⟩ argsL.toArray q B ∧
      Steps p.tables e below (T.setTop g) ((B.U.setTop { g with stack := rest }).pushFrame (.throwing q))) := by
  obtain ⟨mk, methM, cM, hnamed, hmethM, -, -, -, -, -, -, hsigM⟩ := Cond.codeWith_spec hcode
  have hstatic : methM.isStatic = true := Cond.static_spec hnamed hmethM hstat
  obtain ⟨kP, hkP, -⟩ := className_of_methodNamed hnamed
  have hinitP : kP.init = .initialized := Cond.initialized_spec (findClass_of_methodNamed hnamed) hkP hinit
  obtain ⟨vm₁, X₁, hstep₁⟩ := X.invokestatic hexec hown hlink hnamed hmethM hstatic hkP hinitP hy (g := g) hg (argsL := argsL) (rest := rest) (hlen _ hsigM) hstack hdg
  rcases hK m meth c ⟨T.setVm vm₁, locs, cells, slots⟩ { g with stack := rest } (.invokestatic index) mk argsL.toArray X₁ hg hsize hdg hW (X₁.named hnamed) (hpre vm₁ X₁.warmed) with ⟨v, B, X', hpost, hsteps⟩ | ⟨q, B, X', hpost, hsteps⟩
  · exact Or.inl ⟨v, vm₁, B, X₁.warmed, X', hpost, fun target h => hstep₁ _ fun acts => by rw [doInvoke_state]; exact hsteps.trans h⟩
  · exact Or.inr ⟨q, vm₁, B, X₁.warmed, X', hpost, hstep₁ _ fun acts => by rw [doInvoke_state]; exact hsteps⟩
theorem vx_callVW (X : Stand p l e R s m args below meth c T locs cells slots) (hexec : p.tables.exec = Jvm.exec) {own C : String} {index : Nat} {y : MethodName} {bytes : ByteArray} {maxL : Nat} {ret : Option FieldType} {hh : List (Nat × Nat × Nat × Nat)}
    (hown : s.vm.findClass own = some m.cls) (hlink : (Cond.methodLink own index y).before args s = true) (hinst : (Cond.instanceMethod y).before args s = true) (hsel : (Cond.selects C y y).before args s = true)
    (hcode : (Cond.codeWith y bytes maxL ret hh).before args s = true) (hy : y.cls ≠ "java/lang/invoke/MethodHandle" ∧ y.cls ≠ "java/lang/invoke/VarHandle")
    {W9 : Nat} {Pre : Pt → Array Value → Prop} {Post : Pt → Array Value → Option Value → Pt → Prop} (hK : Back l R p e below s args y 3 W9 Pre Post)
    {b : Addr} {cellB : Cell} (hcell : T.heap[b]? = some cellB) (hobj : cellB.vm.isStatics = false) (hcls : s.vm.findClass C = some cellB.cls)
    {g : JFrame} (hg : g.method = m) (hsize : g.locals.size = c.maxLocals) {argsL rest : List Value} (hlen : ∀ sig, parseMethodDescriptor y.desc = some sig → argsL.length = sig.parameters.length)
    (hstack : g.stack = argsL.reverse ++ .ref b :: rest) (hW : 2 * g.monitorRoom + (rest.map fun v => v.category).sum ≤ W9) (hdg : decode c.code g.pc = .ok (.invokevirtual index, 3))
    (hpre : ∀ vm₁, s.WarmedH vm₁ → Pre ⟨T.setVm vm₁, locs, cells, slots⟩ (Value.ref b :: argsL).toArray) :
    ∃ (v : Option Value) (vm₁ : Vm) (B : Pt), s.WarmedH vm₁ ∧ Stand p l e R s m args below meth c B.U B.locs B.cells B.slots ∧ Post ⟨T.setVm vm₁, locs, cells, slots⟩ (Value.ref b :: argsL).toArray v B ∧
      ∀ target, Steps p.tables e below (B.U.setTop { g with pc := g.pc + 3, stack := v.toList ++ rest }) target → Steps p.tables e below (T.setTop g) target := by
  obtain ⟨mk, methM, hnamed, hmethM, hstM, habM⟩ := Cond.instanceMethod_spec hinst
  obtain ⟨m8, methM', cM, hn8, hmethM', -, -, -, -, -, -, hsigM⟩ := Cond.codeWith_spec hcode
  cases Option.some.inj (hn8.symm.trans hnamed)
  cases hmethM.symm.trans hmethM'
  obtain ⟨c2, r2, m2, q1, q2, q3, q4, kP, hkP, hkPi⟩ := Cond.selects_spec hsel
  cases hcls.symm.trans q1
  cases (State.methodFound?_of_named hnamed hy).symm.trans q2
  cases hnamed.symm.trans q3
  have hselP : selectMethod e.platform s.vm cellB.cls mk = .method mk := by rw [Launch.admits_selectMethod X.admits]; exact q4
  obtain ⟨vm₁, X₁, hstep₁⟩ := X.invokevirtual hexec hown hlink hnamed hmethM hstM hkP hkPi hy (a := b) (cell := cellB) hcell
    (fun z h => by rw [h] at hobj; cases hobj) hselP hmethM habM hkP hkPi (g := g) hg (argsL := argsL) (rest := rest) (hlen _ hsigM) hstack hdg
  obtain ⟨v, B, X', hpost, hsteps⟩ := hK m meth c ⟨T.setVm vm₁, locs, cells, slots⟩ { g with stack := rest } (.invokevirtual index) mk (Value.ref b :: argsL).toArray X₁ hg hsize hdg hW (X₁.named hnamed) (hpre vm₁ X₁.warmed)
  exact ⟨v, vm₁, B, X₁.warmed, X', hpost, fun target h => hstep₁ _ fun acts => by rw [doInvoke_state]; exact hsteps.trans h⟩
abbrev vx_CVW (R : Room) (s : State) (args : Array Value) (own C : String) (index : Nat) (y : MethodName) (bytes : ByteArray) (maxL : Nat) (ret : Option FieldType) (hh : List (Nat × Nat × Nat × Nat)) (ws : List Cond) (rm : Room) (mc ms n : Nat) : Prop :=
  (rm.cells = mc ∧ rm.slots = ms ∧ rm.frames + 1 ≤ R.frames ∧ 8 + (maxL + 11) + rm.locals ≤ R.locals ∧ (∀ w ∈ ws, ∀ (a' : Array Value) (U : State), s.WarmedH U.vm → w.before a' U = true) ∧ Cond.codeWith y bytes maxL ret hh ∈ ws) ∧
  (Cond.codeWith y bytes maxL ret hh).before args s = true ∧ (Cond.initialized y.cls).before args s = true ∧ (y.cls ≠ "java/lang/invoke/MethodHandle" ∧ y.cls ≠ "java/lang/invoke/VarHandle") ∧
  (∀ sig, parseMethodDescriptor y.desc = some sig → n = sig.parameters.length) ∧ (Cond.methodLink own index y).before args s = true ∧ (Cond.instanceMethod y).before args s = true ∧ (Cond.selects C y y).before args s = true
theorem vx_cwVW {own C : String} {index maxL mc ms : Nat} {y : MethodName} {bytes : ByteArray} {ret : Option FieldType} {hh : List (Nat × Nat × Nat × Nat)} {Ts ws ws' : List Cond} {rm : Room} (n : Nat) (ht : ∀ w ∈ Ts, w.before args s = true) (hT : GoodIn Ts (wsV own index C y ws)) (hw : ws = Cond.codeWith y bytes maxL ret hh :: ws') (hrc : rm.cells = mc) (hrs : rm.slots = ms)
    (hd : y.cls = C ∧ y.cls ≠ "java/lang/invoke/MethodHandle" ∧ y.cls ≠ "java/lang/invoke/VarHandle" ∧ (parseMethodDescriptor y.desc).map (fun d => d.parameters.length) = some n) (hR : rm.frames + 1 ≤ R.frames ∧ 8 + (maxL + 11) + rm.locals ≤ R.locals) :
    vx_CVW R s args own C index y bytes maxL ret hh ws rm mc ms n := by
  obtain ⟨hC, hd⟩ := hd
  subst hC
  have ok : ∀ w ∈ wsV own index y.cls y ws, w.before args s = true := fun w h => ht w (hT w h).1
  have hG : GoodIn Ts ws := fun w h => hT w (by unfold wsV; exact List.mem_append_right _ h)
  have hc : Cond.codeWith y bytes maxL ret hh ∈ ws := by rw [hw]; exact List.mem_cons_self
  refine ⟨⟨hrc, hrs, hR.1, hR.2, pay_in ht hG, hc⟩, ht _ (hG _ hc).1, ok _ (by simp [wsV]), ⟨hd.1, hd.2.1⟩, fun sig h => ?_, ok _ (by simp [wsV]), ok _ (by simp [wsV]), ok _ (by simp [wsV])⟩
  have h2 := hd.2.2
  rw [h] at h2
  exact (Option.some.inj h2).symm
theorem vx_runVW {y : MethodName} {bytes cc : ByteArray} {maxL nL mc ms n index : Nat} {ret : Option FieldType} {hh : List (Nat × Nat × Nat × Nat)} {ws : List Cond} {rm : Room} {Pc : Array Value → State → Prop} {Qc : Array Value → State → Outcome → State → Prop} {free : Addr → Prop} {Ts : List Cond} {own C : String} {b : Addr} {As rest : List Value} {g : JFrame}
    (S : CallFix p m c cc nL s args Ts own) (hM : Met l y ws rm Pc Qc mc ms free) (cw : vx_CVW R s args own C index y bytes maxL ret hh ws rm mc ms n) (hp : PreV s H C b Pc As)
    (hg : g.method = m) (hn : As.length = n) (hsize : g.locals.size = nL) (hstack : g.stack = As.reverse ++ .ref b :: rest) (hW : 2 * g.monitorRoom + (rest.map fun v => v.category).sum ≤ 8) (hdg : decode cc g.pc = .ok (.invokevirtual index, 3)) (hf : cells + mc ≤ R.cells ∧ slots + ms ≤ R.slots) :
    va_Run p l e R s m args below meth c H locs cells slots mc ms g rest (Qc (Value.ref b :: As).toArray) free := by
  obtain ⟨⟨hrc, hrs, hfr, hlo, hws, hcw⟩, hcode, hini, hy, hlen, hl, hin, hse⟩ := cw
  have hK : Back l R p e below s args y 3 8 (PreOf R mc ms Pc) (PostOf Qc mc ms free) := va_backW (hh := hh) (bytes := bytes) (maxL := maxL) (ret := ret) hM hp.1 hrc hrs hfr hlo hws hcw (fun a' U hW => word_at hW (Or.inl (by first | rfl | simp [Cond.onTables, Cond.keeps, Cond.steady])) hini)
  obtain ⟨hx, hb, hml, ho, -⟩ := S
  obtain ⟨-, ⟨cellB, hcB, hoB, hclB⟩, hPc⟩ := hp
  intro T hT X
  obtain ⟨v, vm₁, ⟨U', l2, c2, s2⟩, hW₁, X', ⟨g', mk, t, L, e1, e2, hq, h1, hL, h2, h3⟩, st⟩ := vx_callVW X hx (C := C) (hh := hh) (bytes := bytes) (maxL := maxL) (ret := ret) ho hl hin hse hcode hy hK (by rw [hT]; exact hcB) hoB hclB hg (hsize.trans hml.symm) (argsL := As) (rest := rest) (fun sig h => hn.trans (hlen sig h)) hstack hW (by rw [hb]; exact hdg)
    (fun vm₁ hW₁ => ⟨hf.1, hf.2, hPc (T.setVm vm₁) hT hW₁⟩)
  dsimp only [Pt.U, Pt.locs, Pt.cells, Pt.slots] at X' e1 e2 h1 h2 h3 st
  subst h1; subst h2; subst h3
  exact ⟨v, (T.setVm vm₁).calling g' mk (Value.ref b :: As).toArray, t, U', L, hT, X', hL, e1, e2, hq, st⟩
section
variable {y : MethodName} {bytes cc : ByteArray} {maxL nL mc ms n index : Nat} {ret : Option FieldType} {ws : List Cond} {rm : Room} {Pc : Array Value → State → Prop} {Qc : Array Value → State → Outcome → State → Prop} {XC : String → State → State → Prop} {free : Addr → Prop} {Ts : List Cond} {own C : String} {b : Addr} {As rest : List Value} {g : JFrame}
theorem vx_runVX {hh : List (Nat × Nat × Nat × Nat)} (S : CallFix p m c cc nL s args Ts own) (hM : vx_Met l y ws rm Pc Qc XC mc ms free) (cw : vx_CVW R s args own C index y bytes maxL ret hh ws rm mc ms n) (hp : PreV s H C b Pc As)
    (hg : g.method = m) (hn : As.length = n) (hsize : g.locals.size = nL) (hstack : g.stack = As.reverse ++ .ref b :: rest) (hW : 2 * g.monitorRoom + (rest.map fun v => v.category).sum ≤ 8) (hdg : decode cc g.pc = .ok (.invokevirtual index, 3)) (hf : cells + mc ≤ R.cells ∧ slots + ms ≤ R.slots) :
    vx_Run p l e R s m args below meth c H locs cells slots mc ms g rest (Qc (Value.ref b :: As).toArray) XC free := by
  obtain ⟨⟨hrc, hrs, hfr, hlo, hws, hcw⟩, hcode, hini, hy, hlen, hl, hin, hse⟩ := cw
  have hK : vx_Back l R p e below s args y 3 8 (PreOf R mc ms Pc) (PostOf Qc mc ms free) (vx_Post XC mc ms free) := vx_backW (hh := hh) (bytes := bytes) (maxL := maxL) (ret := ret) hM hp.1 hrc hrs hfr hlo hws hcw (fun a' U hW => word_at hW (Or.inl (by first | rfl | simp [Cond.onTables, Cond.keeps, Cond.steady])) hini)
  obtain ⟨hx, hb, hml, ho, -⟩ := S
  obtain ⟨-, ⟨cellB, hcB, hoB, hclB⟩, hPc⟩ := hp
  intro T hT X
  rcases vx_callVX X hx (C := C) (hh := hh) (bytes := bytes) (maxL := maxL) (ret := ret) ho hl hin hse hcode hy hK (by rw [hT]; exact hcB) hoB hclB hg (hsize.trans hml.symm) (argsL := As) (rest := rest) (fun sig h => hn.trans (hlen sig h)) hstack hW (by rw [hb]; exact hdg)
    (fun vm₁ hW₁ => ⟨hf.1, hf.2, hPc (T.setVm vm₁) hT hW₁⟩) with ⟨v, vm₁, ⟨U', l2, c2, s2⟩, hW₁, X', ⟨g', mk, t, L, e1, e2, hq, h1, hL, h2, h3⟩, st⟩ | ⟨q, vm₁, ⟨U', l2, c2, s2⟩, hW₁, X', ⟨g', mk, t, L, E, ce, e1, e2, hq, hce, hcv, hcl, h1, hL, h2, h3⟩, st⟩
  · dsimp only [Pt.U, Pt.locs, Pt.cells, Pt.slots] at X' e1 e2 h1 h2 h3 st
    subst h1; subst h2; subst h3
    exact Or.inl ⟨v, (T.setVm vm₁).calling g' mk (Value.ref b :: As).toArray, t, U', L, hT, X', hL, e1, e2, hq, st⟩
  · dsimp only [Pt.U, Pt.locs, Pt.cells, Pt.slots] at X' e1 e2 h1 h2 h3 st hcl
    subst h1; subst h2; subst h3
    exact Or.inr ⟨q, (T.setVm vm₁).calling g' mk (Value.ref b :: As).toArray, t, U', L, E, ce, hT, X', hL, e1, e2, hq, hce, hcv, vx_cls hW₁ hcl, st⟩
theorem vx_runSX {hh : List (Nat × Nat × Nat × Nat)} (S : CallFix p m c cc nL s args Ts own) (hM : vx_Met l y ws rm Pc Qc XC mc ms free) (cw : vx_CSW R s args own index y bytes maxL ret hh ws rm mc ms n) (hp : PreS s H Pc As)
    (hg : g.method = m) (hn : As.length = n) (hsize : g.locals.size = nL) (hstack : g.stack = As.reverse ++ rest) (hW : 2 * g.monitorRoom + (rest.map fun v => v.category).sum ≤ 8) (hdg : decode cc g.pc = .ok (.invokestatic index, 3)) (hf : cells + mc ≤ R.cells ∧ slots + ms ≤ R.slots) :
    vx_Run p l e R s m args below meth c H locs cells slots mc ms g rest (Qc As.toArray) XC free := by
  obtain ⟨⟨hrc, hrs, hfr, hlo, hws, hcw⟩, hcode, hini, hy, hlen, hl, hstt⟩ := cw
  have hK : vx_Back l R p e below s args y 3 8 (PreOf R mc ms Pc) (PostOf Qc mc ms free) (vx_Post XC mc ms free) := vx_backW (hh := hh) (bytes := bytes) (maxL := maxL) (ret := ret) hM hp.1 hrc hrs hfr hlo hws hcw (fun a' U hW => word_at hW (Or.inl (by first | rfl | simp [Cond.onTables, Cond.keeps, Cond.steady])) hini)
  obtain ⟨hx, hb, hml, ho, -⟩ := S
  intro T hT X
  rcases vx_callSX X hx (hh := hh) (bytes := bytes) (maxL := maxL) (ret := ret) ho hl hstt hini hcode hy hK hg (hsize.trans hml.symm) (argsL := As) (rest := rest) (fun sig h => hn.trans (hlen sig h)) hstack hW (by rw [hb]; exact hdg)
    (fun vm₁ hW₁ => ⟨hf.1, hf.2, hp.2 (T.setVm vm₁) hT hW₁⟩) with ⟨v, vm₁, ⟨U', l2, c2, s2⟩, hW₁, X', ⟨g', mk, t, L, e1, e2, hq, h1, hL, h2, h3⟩, st⟩ | ⟨q, vm₁, ⟨U', l2, c2, s2⟩, hW₁, X', ⟨g', mk, t, L, E, ce, e1, e2, hq, hce, hcv, hcl, h1, hL, h2, h3⟩, st⟩
  · dsimp only [Pt.U, Pt.locs, Pt.cells, Pt.slots] at X' e1 e2 h1 h2 h3 st
    subst h1; subst h2; subst h3
    exact Or.inl ⟨v, (T.setVm vm₁).calling g' mk As.toArray, t, U', L, hT, X', hL, e1, e2, hq, st⟩
  · dsimp only [Pt.U, Pt.locs, Pt.cells, Pt.slots] at X' e1 e2 h1 h2 h3 st hcl
    subst h1; subst h2; subst h3
    exact Or.inr ⟨q, (T.setVm vm₁).calling g' mk As.toArray, t, U', L, E, ce, hT, X', hL, e1, e2, hq, hce, hcv, vx_cls hW₁ hcl, st⟩
end
end VXH
theorem vx_ofWH {l : Launch} {y : MethodName} {ws ws' : List Cond} {rm : Room} {Pc : Array Value → State → Prop} {Qc : Array Value → State → Outcome → State → Prop} {XC : String → State → State → Prop} {mc ms : Nat} {free : Addr → Prop} {cc : ByteArray} {maxL : Nat} {ret : Option FieldType} {hh : List (Nat × Nat × Nat × Nat)}
    (hy : plainName y.cls = true) (hw : ws = Cond.codeWith y cc maxL ret hh :: ws')
    (body : ∀ p e s m args below meth c s₁, BodyLoose p l y (headSpec ws rm) cc maxL ret e s m args below meth c s₁ → c.maxLocals = maxL → Pc args s →
      W p l e (headSpec ws rm).room s m args below meth c s.heap [] 0 0 (vx_MQ below Qc XC args s mc ms free) (entryFrame m args maxL)) : vx_Met l y ws rm Pc Qc XC mc ms free := by
  refine MetFree.of_bodyS (code := cc) (maxLocals := maxL) (ret := ret) hy ?_ ?_
  · intro args s m h hn
    obtain ⟨m9, meth, c, hn9, h1, h2, h3, h4, -, h5, h6, -⟩ := Cond.codeWith_spec (atoms_spec (ws := ws) h _ (by rw [hw]; exact List.mem_cons_self))
    cases hn.symm.trans hn9
    exact ⟨meth, c, h1, h2, h3, h4, h5, h6⟩
  · intro p e s m args below meth c s₁ B hml hP _
    have hh0 : s₁.heap = s.heap := by rw [B.state]; rfl
    obtain ⟨t, a1, o, b1, b2, b3⟩ := body p e s m args below meth c s₁ B hml hP s₁ hh0 (Stand.of_body B)
    exact ⟨t, o, a1, b1, b2, b3⟩
/-! ===== END ===== -/
end
section
/-! the Strings that the run reads, by number: the class's keywords, "", its symbols; the messages; the law's words, signs, orders' words (its static rows) and other Strings -/
def A0 (sz : Nat) : Nat → Prop := fun q => sz ≤ q
def sTab : List (String × Nat × String × List Int32) := [("PeriscopeTrain$Tokens", 97, "mirror", [109, 105, 114, 114, 111, 114]), ("PeriscopeTrain$Tokens", 99, "clarity", [99, 108, 97, 114, 105, 116, 121]), ("PeriscopeTrain$Tokens", 101, "offset", [111, 102, 102, 115, 101, 116]), ("PeriscopeTrain$Tokens", 103, "width", [119, 105, 100, 116, 104]), ("PeriscopeTrain$Tokens", 105, "limit", [108, 105, 109, 105, 116]), ("PeriscopeTrain$Tokens", 107, "shake", [115, 104, 97, 107, 101]), ("PeriscopeTrain$Tokens", 109, "by", [98, 121]), ("PeriscopeTrain$Tokens", 111, "dust", [100, 117, 115, 116]), ("PeriscopeTrain$Tokens", 113, "clean", [99, 108, 101, 97, 110]), ("PeriscopeTrain$Tokens", 115, "align", [97, 108, 105, 103, 110]), ("PeriscopeTrain$Tokens", 117, "replace", [114, 101, 112, 108, 97, 99, 101]), ("PeriscopeTrain$Tokens", 119, "when", [119, 104, 101, 110]), ("PeriscopeTrain$Tokens", 121, "minute", [109, 105, 110, 117, 116, 101]), ("PeriscopeTrain$Tokens", 123, "light", [108, 105, 103, 104, 116]), ("PeriscopeTrain$Tokens", 125, "jobs", [106, 111, 98, 115]), ("PeriscopeTrain$Tokens", 127, "lost", [108, 111, 115, 116]), ("PeriscopeTrain$Tokens", 129, "tilt", [116, 105, 108, 116]), ("PeriscopeTrain$Tokens", 131, "best", [98, 101, 115, 116]), ("PeriscopeTrain$Tokens", 133, "of", [111, 102]), ("PeriscopeTrain$Tokens", 135, "seen", [115, 101, 101, 110]), ("PeriscopeTrain$Tokens", 137, "waits", [119, 97, 105, 116, 115]), ("PeriscopeTrain$Tokens", 139, "not", [110, 111, 116]), ("PeriscopeTrain$Tokens", 141, "and", [97, 110, 100]), ("PeriscopeTrain$Tokens", 143, "or", [111, 114]), ("PeriscopeTrain$Tokens", 145, "min", [109, 105, 110]), ("PeriscopeTrain$Tokens", 147, "max", [109, 97, 120]), ("PeriscopeTrain$Tokens", 149, "", []), ("PeriscopeTrain$Tokens", 90, "()[];,+-*/<>=", [40, 41, 91, 93, 59, 44, 43, 45, 42, 47, 60, 62, 61]), ("PeriscopeTrain", 137, "there are no mirrors", [116, 104, 101, 114, 101, 32, 97, 114, 101, 32, 110, 111, 32, 109, 105, 114, 114, 111, 114, 115]), ("PeriscopeTrain", 270, "there is no such mirror", [116, 104, 101, 114, 101, 32, 105, 115, 32, 110, 111, 32, 115, 117, 99, 104, 32, 109, 105, 114, 114, 111, 114]), ("PeriscopeTrain", 157, "there is no such place in the row", [116, 104, 101, 114, 101, 32, 105, 115, 32, 110, 111, 32, 115, 117, 99, 104, 32, 112, 108, 97, 99, 101, 32, 105, 110, 32, 116, 104, 101, 32, 114, 111, 119]), ("PeriscopeTrain", 272, "there is no job at this place", [116, 104, 101, 114, 101, 32, 105, 115, 32, 110, 111, 32, 106, 111, 98, 32, 97, 116, 32, 116, 104, 105, 115, 32, 112, 108, 97, 99, 101]), ("PeriscopeTrain", 185, "there is no such kind of job", [116, 104, 101, 114, 101, 32, 105, 115, 32, 110, 111, 32, 115, 117, 99, 104, 32, 107, 105, 110, 100, 32, 111, 102, 32, 106, 111, 98]), ("PeriscopeTrain", 191, "the queue is full or has this job", [116, 104, 101, 32, 113, 117, 101, 117, 101, 32, 105, 115, 32, 102, 117, 108, 108, 32, 111, 114, 32, 104, 97, 115, 32, 116, 104, 105, 115, 32, 106, 111, 98]), ("PeriscopeTrain", 200, "a mirror can't be turned so far", [97, 32, 109, 105, 114, 114, 111, 114, 32, 99, 97, 110, 39, 116, 32, 98, 101, 32, 116, 117, 114, 110, 101, 100, 32, 115, 111, 32, 102, 97, 114]), ("PeriscopeTrain", 274, "minutes are 1 to 100", [109, 105, 110, 117, 116, 101, 115, 32, 97, 114, 101, 32, 49, 32, 116, 111, 32, 49, 48, 48]), ("PeriscopeTrain", 74, "the tape would be too long", [116, 104, 101, 32, 116, 97, 112, 101, 32, 119, 111, 117, 108, 100, 32, 98, 101, 32, 116, 111, 111, 32, 108, 111, 110, 103]), ("PeriscopeTrain", 85, "the tape does not have so many bytes", [116, 104, 101, 32, 116, 97, 112, 101, 32, 100, 111, 101, 115, 32, 110, 111, 116, 32, 104, 97, 118, 101, 32, 115, 111, 32, 109, 97, 110, 121, 32, 98, 121, 116, 101, 115]), ("PeriscopeTrain", 205, "there is no such dust", [116, 104, 101, 114, 101, 32, 105, 115, 32, 110, 111, 32, 115, 117, 99, 104, 32, 100, 117, 115, 116]), ("PeriscopeTrainLaw", 264, "minute", [109, 105, 110, 117, 116, 101]), ("PeriscopeTrainLaw", 266, "light", [108, 105, 103, 104, 116]), ("PeriscopeTrainLaw", 268, "jobs", [106, 111, 98, 115]), ("PeriscopeTrainLaw", 269, "offset of", [111, 102, 102, 115, 101, 116, 32, 111, 102]), ("PeriscopeTrainLaw", 271, "clarity of", [99, 108, 97, 114, 105, 116, 121, 32, 111, 102]), ("PeriscopeTrainLaw", 273, "best of", [98, 101, 115, 116, 32, 111, 102]), ("PeriscopeTrainLaw", 275, "lost of", [108, 111, 115, 116, 32, 111, 102]), ("PeriscopeTrainLaw", 277, "tilt of", [116, 105, 108, 116, 32, 111, 102]), ("PeriscopeTrainLaw", 283, "+", [43]), ("PeriscopeTrainLaw", 74, "-", [45]), ("PeriscopeTrainLaw", 285, "*", [42]), ("PeriscopeTrainLaw", 287, "/", [47]), ("PeriscopeTrainLaw", 289, "<", [60]), ("PeriscopeTrainLaw", 291, ">", [62]), ("PeriscopeTrainLaw", 293, "=", [61]), ("PeriscopeTrainLaw", 295, "<=", [60, 61]), ("PeriscopeTrainLaw", 297, ">=", [62, 61]), ("PeriscopeTrainLaw$Order", 90, "clean", [99, 108, 101, 97, 110]), ("PeriscopeTrainLaw$Order", 92, "align", [97, 108, 105, 103, 110]), ("PeriscopeTrainLaw$Order", 94, "replace", [114, 101, 112, 108, 97, 99, 101]), ("PeriscopeTrainLaw$Order", 96, "shake", [115, 104, 97, 107, 101]), ("PeriscopeTrainLaw$Order", 98, "dust", [100, 117, 115, 116]), ("PeriscopeTrainLaw", 44, "width ", [119, 105, 100, 116, 104, 32]), ("PeriscopeTrainLaw", 55, "; ", [59, 32]), ("PeriscopeTrainLaw", 60, "limit ", [108, 105, 109, 105, 116, 32]), ("PeriscopeTrainLaw", 62, ";\n", [59, 10]), ("PeriscopeTrainLaw", 68, "mirror m", [109, 105, 114, 114, 111, 114, 32, 109]), ("PeriscopeTrainLaw", 70, " clarity ", [32, 99, 108, 97, 114, 105, 116, 121, 32]), ("PeriscopeTrainLaw", 72, " offset ", [32, 111, 102, 102, 115, 101, 116, 32]), ("PeriscopeTrainLaw", 76, "", []), ("PeriscopeTrainLaw", 83, ";", [59]), ("PeriscopeTrainLaw", 258, "mirror a clarity ", [109, 105, 114, 114, 111, 114, 32, 97, 32, 99, 108, 97, 114, 105, 116, 121, 32]), ("PeriscopeTrainLaw", 260, " offset 0;mirror b clarity ", [32, 111, 102, 102, 115, 101, 116, 32, 48, 59, 109, 105, 114, 114, 111, 114, 32, 98, 32, 99, 108, 97, 114, 105, 116, 121, 32]), ("PeriscopeTrainLaw", 262, " offset 1;", [32, 111, 102, 102, 115, 101, 116, 32, 49, 59]), ("PeriscopeTrainLaw$Node", 43, "", []), ("PeriscopeTrainLaw$Node", 56, "-", [45]), ("PeriscopeTrainLaw$Node", 61, "min(", [109, 105, 110, 40]), ("PeriscopeTrainLaw$Node", 63, ",", [44]), ("PeriscopeTrainLaw$Node", 65, ")", [41]), ("PeriscopeTrainLaw$Node", 67, "max(", [109, 97, 120, 40]), ("PeriscopeTrainLaw$Node", 69, " , ", [32, 44, 32]), ("PeriscopeTrainLaw$Node", 71, "seen", [115, 101, 101, 110]), ("PeriscopeTrainLaw$Node", 73, "waits m", [119, 97, 105, 116, 115, 32, 109]), ("PeriscopeTrainLaw$Node", 75, "not ", [110, 111, 116, 32]), ("PeriscopeTrainLaw$Node", 77, "[", [91]), ("PeriscopeTrainLaw$Node", 79, " and ", [32, 97, 110, 100, 32]), ("PeriscopeTrainLaw$Node", 81, "]", [93]), ("PeriscopeTrainLaw$Node", 83, " or ", [32, 111, 114, 32]), ("PeriscopeTrainLaw$Node", 91, " m", [32, 109]), ("PeriscopeTrainLaw$Node", 93, "(", [40]), ("PeriscopeTrainLaw$Order", 50, " m", [32, 109]), ("PeriscopeTrainLaw$Order", 55, "", []), ("PeriscopeTrainLaw$Order", 57, " by ", [32, 98, 121, 32]), ("PeriscopeTrainLaw$Order", 66, " when ", [32, 119, 104, 101, 110, 32]), ("PeriscopeTrainLaw$Order", 68, ";", [59])]
abbrev NS : Nat := 94
def sG (i : Nat) : String × Nat × String × List Int32 := sTab.getD i ("", 0, "", [])
def sB (i : Nat) : List Int32 := (sG i).2.2.2
def sL (i : Nat) : Nat := (sB i).length
def SO1 (sz : Nat) (aK aV : Nat → Nat) (i : Nat) (U : State) (H : Heap) : Prop := va_O "java/lang/String" (aK i) (A0 sz) U H ∧ va_OF "java/lang/String" "coder" "B" (.int 0) (aK i) (A0 sz) U H ∧ va_OF "java/lang/String" "value" "[B" (.ref (aV i)) (aK i) (A0 sz) U H ∧ va_T .byte (aV i) (sL i) (fun j => .int ((sB i).getD j 0)) (A0 sz) U H
/-- the static rows: class, name, length, its first String -/
def stL : List (String × String × Nat × Nat) := [("PeriscopeTrainLaw", "WORDS", 8, 39), ("PeriscopeTrainLaw", "SIGNS", 9, 47), ("PeriscopeTrainLaw$Order", "DOES", 5, 56)]
def stG (j : Nat) : String × String × Nat × Nat := stL.getD j ("", "", 0, 0)
def ST1 (sz : Nat) (aK : Nat → Nat) (tW : Nat → Nat) (j : Nat) (U : State) (H : Heap) : Prop := va_Z (stG j).1 (stG j).2.1 "[Ljava/lang/String;" (.ref (tW j)) (A0 sz) U H ∧ va_T (.object "java/lang/String") (tW j) (stG j).2.2.1 (fun i => .ref (aK ((stG j).2.2.2 + i))) (A0 sz) U H
def DG (sz : Nat) (tW : Nat → Nat) (U : State) (H : Heap) : Prop := (va_Z "java/lang/Integer" "DigitOnes" "[B" (.ref (tW 3)) (A0 sz) U H ∧ va_T .byte (tW 3) 100 (fun j => .int (nI (48 + j % 10))) (A0 sz) U H) ∧ (va_Z "java/lang/Integer" "DigitTens" "[B" (.ref (tW 4)) (A0 sz) U H ∧ va_T .byte (tW 4) 100 (fun j => .int (nI (48 + j / 10))) (A0 sz) U H)
def OOx (sz : Nat) (aK aV : Nat → Nat) (tW : Nat → Nat) (U : State) (H : Heap) : Prop :=
  va_Z "java/lang/String" "COMPACT_STRINGS" "Z" (.int 1) (A0 sz) U H ∧ va_Zq "jdk/internal/util/Preconditions" "SIOOBE_FORMATTER" "Ljava/util/function/BiFunction;" (A0 sz) U H ∧
  vx_Zq Bundle.tN "UNASSIGNED_STACK" Bundle.steD (A0 sz) U H ∧ vx_Zq Bundle.tN "SUPPRESSED_SENTINEL" Bundle.listD (A0 sz) U H ∧
  (∀ j, j < 3 → ST1 sz aK tW j U H) ∧ DG sz tW U H ∧
  ∀ i, i < NS → SO1 sz aK aV i U H ∧ vk_R (sG i).1 (sG i).2.1 (sG i).2.2.1 (aK i) U
theorem OOx.same {sz : Nat} {aK aV : Nat → Nat} {tW : Nat → Nat} {u U : State} {H : Heap} (hv : U.vm = u.vm) (h : OOx sz aK aV tW u H) : OOx sz aK aV tW U H := by
  have hvm : u.vm.Alike U.vm := by rw [hv]; exact Vm.Alike.refl _
  obtain ⟨h1, h2, h3, h4, h5, h6, h7⟩ := h
  exact ⟨h1.moved hvm, h2.moved hvm, h3.moved hvm, h4.moved hvm, fun j hj => ⟨(h5 j hj).1.moved hvm, (h5 j hj).2.moved hvm⟩, ⟨⟨h6.1.1.moved hvm, h6.1.2.moved hvm⟩, ⟨h6.2.1.moved hvm, h6.2.2.moved hvm⟩⟩, fun i hi => ⟨⟨(h7 i hi).1.1.moved hvm, (h7 i hi).1.2.1.moved hvm, (h7 i hi).1.2.2.1.moved hvm, (h7 i hi).1.2.2.2.moved hvm⟩, vk_R.same hv (h7 i hi).2⟩⟩
theorem OOx.step {sz : Nat} {aK aV : Nat → Nat} {tW : Nat → Nat} {u U : State} {H H1 : Heap} (hW : u.WarmedH U.vm) (hq : ∀ a : Nat, a < H.size → ¬ A0 sz a → H1[a]? = H[a]?) (h : OOx sz aK aV tW u H) : OOx sz aK aV tW U H1 := by
  have hvm : u.vm.Alike U.vm := hW.alike
  obtain ⟨h1, h2, h3, h4, h5, h6, h7⟩ := h
  exact ⟨(h1.moved hvm).kept hq, (h2.moved hvm).kept hq, (h3.moved hvm).kept hq, (h4.moved hvm).kept hq, fun j hj => ⟨((h5 j hj).1.moved hvm).kept hq, ((h5 j hj).2.moved hvm).kept hq⟩, ⟨⟨(h6.1.1.moved hvm).kept hq, (h6.1.2.moved hvm).kept hq⟩, ⟨(h6.2.1.moved hvm).kept hq, (h6.2.2.moved hvm).kept hq⟩⟩, fun i hi => ⟨⟨((h7 i hi).1.1.moved hvm).kept hq, ((h7 i hi).1.2.1.moved hvm).kept hq, ((h7 i hi).1.2.2.1.moved hvm).kept hq, ((h7 i hi).1.2.2.2.moved hvm).kept hq⟩, vk_R.warm hW (h7 i hi).2⟩⟩
end
section
/-! the words that every contract may use: all good words of the tables -/
def TB : List Cond := lw_tbl.filter goodWord
def isNest : Cond → Bool
  | .fieldLinkNest _ _ _ _ _ _ => true
  | .methodLinkNest _ _ _ _ => true
  | .castable _ _ => true
  | .declares _ => true
  | _ => false
def NB : List Cond := tables_1.filter isNest
theorem mTB {w : Cond} (h : (decide (w ∈ lw_tbl) && goodWord w) = true) : w ∈ TB := by
  simp only [Bool.and_eq_true, decide_eq_true_eq] at h
  exact List.mem_filter.mpr h
theorem mNB {w : Cond} (h : (decide (w ∈ tables_1) && isNest w) = true) : w ∈ NB := by
  simp only [Bool.and_eq_true, decide_eq_true_eq] at h
  exact List.mem_filter.mpr h
theorem goodTB {w : Cond} (h : w ∈ TB) : goodWord w = true := (List.mem_filter.mp h).2
theorem gTB : GoodIn TB TB := fun _ h => ⟨h, good_of_word (goodTB h)⟩
theorem nestNB {w : Cond} (h : w ∈ NB) : isNest w = true := (List.mem_filter.mp h).2
theorem Nw_warm {w : Cond} {s U : State} (hW : s.WarmedH U.vm) (h : w ∈ NB) (hZ : va_Nw w s) : va_Nw w U := by
  have hn := nestNB h
  cases w <;> first | exact va_Nw.warmF hW hZ | exact va_Nw.warmM hW hZ | exact va_Nw.warmC hW hZ | exact va_Nw.warmD hW hZ | cases hn
theorem Nw_same {w : Cond} {u U : State} (hv : u.vm = U.vm) (h : w ∈ NB) (hZ : va_Nw w u) : va_Nw w U := by
  have hn := nestNB h
  cases w <;> first | exact va_Nw.same rfl hv hZ | cases hn
def wz (y : MethodName) (c : ByteArray) (n : Nat) (r : Option FieldType) : List Cond := Cond.code y c n r :: TB
theorem gwz {y : MethodName} {c : ByteArray} {n : Nat} {r : Option FieldType} (h : Cond.code y c n r ∈ TB) : GoodIn TB (wz y c n r) := fun w hw => by
  rcases List.mem_cons.mp hw with rfl | hw
  · exact gTB _ h
  · exact gTB _ hw
/-! the layout: 47 cells; kd: what lies where (below 13: an object of that class; 100000 + n: an int array of n; 200000 + n: a byte array of n) -/
abbrev NC : Nat := 47
def kdL : List Nat := [8, 5, 202000, 6, 100401, 100401, 100401, 100401, 2, 100010, 100010, 100400, 100400, 0, 1, 100010, 2, 100010, 100010, 100400, 100400, 7, 4, 100010, 100010, 100010, 100010, 100010, 100010, 100010, 3, 100012, 100012, 100400, 7, 4, 100010, 100010, 100010, 100010, 100010, 100010, 100010, 3, 100012, 100012, 100400]
def kd (i : Nat) : Nat := kdL.getD i 999999
/-- slots: 0 a number; 1000 + d the cell d places on; 2000 + j the cell j -/
def skL : List (List Nat) := [[2003, 2008, 0], [2001, 2003, 2008, 2015, 0], [1001, 1002, 1003, 1004, 0, 0, 0, 0, 0], [1001, 1002, 0, 0, 0], [1001, 1002, 1003, 1004, 1005, 1006, 1007, 0, 0, 0, 0, 0, 0, 0], [2002, 0], [2001, 2004, 2005, 2006, 2007, 0], [2016, 1001, 1009, 1012, 0, 0], [2001, 2003, 2013, 2014, 2008, 2016, 2021, 2034, 0]]
def sk (ci k : Nat) : Nat := (skL.getD ci []).getD k 0
def nsl (ci : Nat) : Nat := (skL.getD ci []).length
abbrev G : Type := Nat → Nat → Int32
def up (g : G) (o k : Nat) (v : Int32) : G := fun o' k' => if o' = o ∧ k' = k then v else g o' k'
/-- what stays through a run: classes, the two array classes, where the law's heap ended, addresses of cells, of Strings, of their bytes, of static rows, classes of other rows, the script: its cell, its length, its numbers -/
abbrev EV : Type := va_G × ClassId × ClassId × Nat × (Nat → Nat) × (Nat → Nat) × (Nat → Nat) × (Nat → Nat) × (Nat → ClassId) × Nat × Nat × (Nat → Int32)
abbrev EV.D (E : EV) : va_G := E.1
abbrev EV.tI (E : EV) : ClassId := E.2.1
abbrev EV.tB (E : EV) : ClassId := E.2.2.1
abbrev EV.sz (E : EV) : Nat := E.2.2.2.1
abbrev EV.ad (E : EV) : Nat → Nat := E.2.2.2.2.1
abbrev EV.aK (E : EV) : Nat → Nat := E.2.2.2.2.2.1
abbrev EV.aV (E : EV) : Nat → Nat := E.2.2.2.2.2.2.1
abbrev EV.tW (E : EV) : Nat → Nat := E.2.2.2.2.2.2.2.1
abbrev EV.tX (E : EV) : Nat → ClassId := E.2.2.2.2.2.2.2.2.1
abbrev EV.sb (E : EV) : Nat := E.2.2.2.2.2.2.2.2.2.1
abbrev EV.sL (E : EV) : Nat := E.2.2.2.2.2.2.2.2.2.2.1
abbrev EV.sx (E : EV) : Nat → Int32 := E.2.2.2.2.2.2.2.2.2.2.2
abbrev EV.tys (E : EV) : List (ClassId × FieldType) := [(E.tI, .int), (E.tB, .byte), (E.tX 0, .boolean), (E.tX 1, .array .int), (E.tX 2, .object "PeriscopeTrainLaw$Order")]
def fval (E : EV) (g : G) (o c k : Nat) : Value := if c = 0 then .int (g o k) else if c < 2000 then .ref (E.ad (o + (c - 1000))) else .ref (E.ad (c - 2000))
def fsl (E : EV) (g : G) (o ci : Nat) : List Value := (List.range (nsl ci)).map (fun k => fval E g o (sk ci k) k)
def cel (E : EV) (g : G) (o : Nat) : va_E := if kd o < 13 then .inr (kd o + 2, fsl E g o (kd o)) else if kd o < 200000 then .inl (E.tI, kd o - 100000, .inl (g o)) else .inl (E.tB, kd o - 200000, .inl (g o))
def wl (E : EV) (g : G) : va_W := (List.range NC).map (fun o => (E.ad o, cel E g o))
theorem kd_lt {o n : Nat} (h : kd o = n) (hn : n < 999999) : o < NC := by
  rcases Nat.lt_or_ge o NC with q | q
  · exact q
  · exfalso
    have hl : kdL.length ≤ o := Nat.le_trans (by decide) q
    have : kd o = 999999 := by
      unfold kd
      rw [List.getD_eq_getElem?_getD, List.getElem?_eq_none hl]
      rfl
    omega
theorem wl_len {E : EV} {g : G} : (wl E g).length = NC := by simp [wl]
theorem wl_at {E : EV} {g : G} {o : Nat} (ho : o < NC) : (wl E g)[o]? = some (E.ad o, cel E g o) := by
  unfold wl
  rw [List.getElem?_map, List.getElem?_range ho]
  rfl
theorem wlx_at {E : EV} {g : G} {xs : va_W} {o : Nat} (ho : o < NC) : (wl E g ++ xs)[o]? = some (E.ad o, cel E g o) := by
  rw [List.getElem?_append_left (by rw [wl_len]; exact ho), wl_at ho]
theorem wlx_ge {E : EV} {g : G} {xs : va_W} {o : Nat} (ho : ¬ o < NC) : (wl E g ++ xs)[o]? = xs[o - NC]? := by
  rw [List.getElem?_append_right (by rw [wl_len]; omega), wl_len]
theorem cel_o {E : EV} {g : G} {o ci : Nat} (h : kd o = ci) (hc : ci < 13) : cel E g o = .inr (ci + 2, fsl E g o ci) := by
  unfold cel
  rw [h, if_pos hc]
theorem cel_i {E : EV} {g : G} {o n : Nat} (h : kd o = 100000 + n) (hn : n < 100000) : cel E g o = .inl (E.tI, n, .inl (g o)) := by
  unfold cel
  rw [h, if_neg (by omega), if_pos (by omega), Nat.add_sub_cancel_left]
theorem cel_b {E : EV} {g : G} {o n : Nat} (h : kd o = 200000 + n) (hn : n < 100000) : cel E g o = .inl (E.tB, n, .inl (g o)) := by
  unfold cel
  rw [h, if_neg (by omega), if_neg (by omega), Nat.add_sub_cancel_left]
theorem fs_at {E : EV} {g : G} {o ci k : Nat} (hk : k < nsl ci) : (fsl E g o ci)[k]? = some (fval E g o (sk ci k) k) := by
  unfold fsl
  rw [List.getElem?_map, List.getElem?_range hk]
  rfl
theorem fs_len {E : EV} {g : G} {o ci : Nat} : (fsl E g o ci).length = nsl ci := by simp [fsl]
theorem up_ne {g : G} {o k : Nat} {v : Int32} {i : Nat} (h : i ≠ o) : up g o k v i = g i := funext fun _ => if_neg (fun q => h q.1)
theorem up_eq {g : G} {o k : Nat} {v : Int32} : up g o k v o = upd (g o) k v := funext fun j => by simp [up, upd]
theorem cel_same {E : EV} {g : G} {o k : Nat} {v : Int32} {i : Nat} (h : i ≠ o) : cel E (up g o k v) i = cel E g i := by
  unfold cel fsl fval
  rw [up_ne h]
theorem wl_set {E : EV} {g : G} {xs : va_W} {o k : Nat} {v : Int32} {y : va_E} (hy : cel E (up g o k v) o = y) (ho : o < NC) : (wl E g ++ xs).set o (E.ad o, y) = wl E (up g o k v) ++ xs := by
  apply List.ext_getElem?
  intro i
  rw [List.getElem?_set]
  by_cases hi : o = i
  · subst hi
    rw [if_pos rfl, if_pos (by rw [List.length_append, wl_len]; omega), wlx_at ho, hy]
  · rw [if_neg hi]
    by_cases hN : i < NC
    · rw [wlx_at hN, wlx_at hN, cel_same (Ne.symm hi)]
    · rw [wlx_ge hN, wlx_ge hN]
theorem fs_set {E : EV} {g : G} {o ci k : Nat} {v : Int32} (hs : sk ci k = 0) : (fsl E g o ci).set k (.int v) = fsl E (up g o k v) o ci := by
  apply List.ext_getElem?
  intro i
  rw [List.getElem?_set]
  by_cases hi : k = i
  · subst hi
    rw [if_pos rfl]
    by_cases hN : k < nsl ci
    · rw [if_pos (by rw [fs_len]; exact hN), fs_at hN, hs]
      simp [fval, up]
    · rw [if_neg (by rw [fs_len]; exact hN), List.getElem?_eq_none (by rw [fs_len]; omega)]
  · rw [if_neg hi]
    by_cases hN : i < nsl ci
    · rw [fs_at hN, fs_at hN]
      have e : up g o k v o i = g o i := if_neg (fun q => hi q.2.symm)
      unfold fval
      rw [e]
    · rw [List.getElem?_eq_none (by rw [fs_len]; omega), List.getElem?_eq_none (by rw [fs_len]; omega)]
/-! the classes -/
def KC (ci : Nat) (C : String) (T : u_T) (N : Nat) (ty : Nat → FieldType) : Prop := vwCl[ci + 2]? = some (C, T, N) ∧ (∀ w ∈ u_ws C T N, w ∈ TB) ∧ (∀ k, k < N → parseFieldDescriptor (T k).2.2.1 = some (ty k)) ∧ (∀ a, a < N → ∀ b, b < N → a ≠ b → (T a).2.1 ≠ (T b).2.1) ∧ nsl ci = N
theorem KC0 : KC 0 RX0 TX0 3 tyX0 := ⟨rfl, by decide +kernel, tyX0_ok, nmX0, by decide⟩
theorem KC1 : KC 1 RX1 TX1 5 tyX1 := ⟨rfl, by decide +kernel, tyX1_ok, nmX1, by decide⟩
theorem KC2 : KC 2 RX2 TX2 9 tyX2 := ⟨rfl, by decide +kernel, tyX2_ok, nmX2, by decide⟩
theorem KC3 : KC 3 RX3 TX3 5 tyX3 := ⟨rfl, by decide +kernel, tyX3_ok, nmX3, by decide⟩
theorem KC4 : KC 4 RX4 TX4 14 tyX4 := ⟨rfl, by decide +kernel, tyX4_ok, nmX4, by decide⟩
theorem KC5 : KC 5 RX5 TX5 2 tyX5 := ⟨rfl, by decide +kernel, tyX5_ok, nmX5, by decide⟩
theorem KC6 : KC 6 RX6 TX6 6 tyX6 := ⟨rfl, by decide +kernel, tyX6_ok, nmX6, by decide⟩
theorem KC7 : KC 7 RX7 TX7 6 tyX7 := ⟨rfl, by decide +kernel, tyX7_ok, nmX7, by decide⟩
theorem KC8 : KC 8 RX8 TX8 9 tyX8 := ⟨rfl, by decide +kernel, tyX8_ok, nmX8, by decide⟩
theorem KC_lt {ci : Nat} {C : String} {T : u_T} {N : Nat} {ty : Nat → FieldType} (h : KC ci C T N ty) : ci < 13 := by
  have h9 : ci + 2 < 15 := (List.getElem?_eq_some_iff.mp h.1).1
  omega
def FL (own : String) (index ci k : Nat) (fin : Bool) (ty : FieldType) : Prop := ∃ (C : String) (T : u_T) (N : Nat) (tt : Nat → FieldType), KC ci C T N tt ∧ k < N ∧ (T k).2.2.2 = fin ∧ tt k = ty ∧ (Cond.fieldLink own index (T k).1 (T k).2.1 (T k).2.2.1 ∈ TB ∨ ∃ host, Cond.fieldLinkNest own index (T k).1 (T k).2.1 (T k).2.2.1 host ∈ NB)
/-! outer facts (Strings, statics) -/
def OO (E : EV) (U : State) (H : Heap) : Prop := OOx E.sz E.aK E.aV E.tW U H ∧ va_X E.sb E.sL E.sx U H ∧ E.sb < E.sz
theorem OO.same {E : EV} {u U : State} {H : Heap} (hv : U.vm = u.vm) (h : OO E u H) : OO E U H := ⟨OOx.same hv h.1, h.2.1.moved (by rw [hv]; exact Vm.Alike.refl _), h.2.2⟩
theorem OO.step {E : EV} {u U : State} {H H1 : Heap} (hW : u.WarmedH U.vm) (hz : E.sz ≤ H.size) (hq : ∀ a : Nat, a < E.sz → H1[a]? = H[a]?) (h : OO E u H) : OO E U H1 := ⟨OOx.step hW (fun a _ ha => hq a (Nat.not_le.mp ha)) h.1, (h.2.1.moved hW.alike).kept (hq _ h.2.2), h.2.2⟩
/-! contracts -/
def AA (E : EV) (sz : Nat) : Nat → Prop := fun q => (∃ i, i < NC ∧ q = E.ad i) ∨ sz ≤ q
def AD (E : EV) : Prop := (∀ i j, i < NC → j < NC → E.ad i = E.ad j → i = j) ∧ ∀ i, i < NC → E.sz ≤ E.ad i
def NK (U : State) : Prop := ∀ w ∈ NB, va_Nw w U
def WB (E : EV) (g : G) (U : State) : Prop := E.sz ≤ U.heap.size ∧ va_P E.D vwCl (wl E g) U.heap ∧ va_K E.D vwCl E.tys U ∧ AD E ∧ NK U ∧ OO E U U.heap
def PC (E : EV) (sz : Nat) (av : List Value) (g : G) : Array Value → State → Prop := va_Pc av (fun U => U.heap.size = sz ∧ WB E g U)
def PT (E : EV) (g : G) : Unit → State → Prop := fun _ t => va_P E.D vwCl (wl E g) t.heap
def QI (E : EV) (sz : Nat) (r : Int32) (g : G) : Array Value → State → Outcome → State → Prop := va_Qi (fun (r' : Int32) (_ : Unit) => r' = r) (PT E g) (AA E sz)
def QL (E : EV) (sz : Nat) (r : Int64) (g : G) : Array Value → State → Outcome → State → Prop := va_Ql (fun (r' : Int64) (_ : Unit) => r' = r) (PT E g) (AA E sz)
def QV (E : EV) (sz : Nat) (g : G) : Array Value → State → Outcome → State → Prop := va_Qv (fun (_ : Unit) => True) (PT E g) (AA E sz)
def QA (E : EV) (sz : Nat) (r : Nat) (g : G) : Array Value → State → Outcome → State → Prop := va_Qr (fun (_ : Unit) => True) (fun _ a t => a = r ∧ PT E g () t) (AA E sz)
def rmD (k mc ms : Nat) : Room := { frames := k, cells := mc, slots := ms, locals := 60 * k }
def MG (E : EV) (l : Launch) (y : MethodName) (c : ByteArray) (n : Nat) (rt : Option FieldType) (k mc ms : Nat) (av : List Value) (g : G) (QQ : Nat → Array Value → State → Outcome → State → Prop) : Prop := ∀ sz, Met l y (wz y c n rt) (rmD k mc ms) (PC E sz av g) (QQ sz) mc ms (AA E sz)
/-- a method with a number as its answer -/
abbrev MI (E : EV) (l : Launch) (y : MethodName) (c : ByteArray) (n : Nat) (rt : Option FieldType) (k mc ms : Nat) (av : List Value) (g : G) (u : Int32 × G) : Prop := MG E l y c n rt k mc ms av g (fun sz => QI E sz u.1 u.2)
abbrev ML (E : EV) (l : Launch) (y : MethodName) (c : ByteArray) (n : Nat) (rt : Option FieldType) (k mc ms : Nat) (av : List Value) (g : G) (u : Int64 × G) : Prop := MG E l y c n rt k mc ms av g (fun sz => QL E sz u.1 u.2)
abbrev MV (E : EV) (l : Launch) (y : MethodName) (c : ByteArray) (n : Nat) (rt : Option FieldType) (k mc ms : Nat) (av : List Value) (g : G) (u : G) : Prop := MG E l y c n rt k mc ms av g (fun sz => QV E sz u)
abbrev MA (E : EV) (l : Launch) (y : MethodName) (c : ByteArray) (n : Nat) (rt : Option FieldType) (k mc ms : Nat) (av : List Value) (g : G) (u : Nat × G) : Prop := MG E l y c n rt k mc ms av g (fun sz => QA E sz (E.aK u.1) u.2)
/-- what holds in a method's frame -/
def Cx (p : Program) (s : State) (m : MethodId) (args : Array Value) (meth : Method) (c : Code) (cc : ByteArray) (n : Nat) (own : String) (E : EV) : Prop :=
  p.tables.exec = Jvm.exec ∧ c.code = cc ∧ c.maxLocals = n ∧ s.vm.findClass own = some m.cls ∧ (∀ w ∈ TB, w.before args s = true) ∧ va_K E.D vwCl E.tys s ∧ NK s ∧ meth.locks = false ∧ E.sz ≤ s.heap.size ∧ AD E ∧ OO E s s.heap
def Gd (E : EV) (s : State) (H : Heap) (locs : List Loc) (g : G) (xs : va_W) : Prop := va_P E.D vwCl (wl E g ++ xs) H ∧ va_D (AA E s.heap.size) (wl E g ++ xs) ∧ va_S (AA E s.heap.size) s.heap H locs
theorem wl_D {E : EV} {g : G} {A : Nat → Prop} (h : AD E) (hA : ∀ i, i < NC → A (E.ad i)) : va_D A (wl E g) := by
  have key : ∀ (k : Nat) (q : Nat × va_E), (wl E g)[k]? = some q → k < NC ∧ q.1 = E.ad k := by
    intro k q hq
    have hk : k < NC := by
      have := (List.getElem?_eq_some_iff.mp hq).1
      rwa [wl_len] at this
    rw [wl_at hk] at hq
    cases hq
    exact ⟨hk, rfl⟩
  refine ⟨fun i j p q hp hq he => ?_, fun k q hq => ?_⟩
  · obtain ⟨hi, ei⟩ := key i p hp
    obtain ⟨hj, ej⟩ := key j q hq
    exact h.1 i j hi hj (by rw [← ei, ← ej, he])
  · obtain ⟨hk, ek⟩ := key k q hq
    rw [ek]
    exact hA k hk
theorem PC_blind {E : EV} {sz : Nat} {av : List Value} {g : G} : FrameBlind (PC E sz av g) := by
  intro a U f mk h
  obtain ⟨h0, h1, h2, h3, h4, h5, h6, h7⟩ := h
  exact ⟨h0, h1, h2, h3, va_K.moved (u := U) (U := U.calling f mk a) (Vm.Alike.refl U.vm) h4, h5, fun w hw => Nw_same (u := U) rfl hw (h6 w hw), OO.same (u := U) rfl h7⟩
theorem AA_ge {E : EV} {sz q : Nat} (h : AD E) (hz : E.sz ≤ sz) (hq : AA E sz q) : E.sz ≤ q := by
  rcases hq with ⟨i, hi, rfl⟩ | hq
  · exact h.2 i hi
  · omega
/-- a method's proof begins -/
theorem MG.of {E : EV} {l : Launch} {y : MethodName} {cc : ByteArray} {n : Nat} {rt : Option FieldType} {k mc ms : Nat} {av : List Value} {g : G} {QQ : Nat → Array Value → State → Outcome → State → Prop} (hy : plainName y.cls = true) (hn : (lg_sl av).length ≤ n)
    (body : ∀ (p : Program) (e : Env) (s : State) (m : MethodId) (args : Array Value) (below : List Frame) (meth : Method) (c : Code), Cx p s m args meth c cc n y.cls E → meth.sig.returnType = rt → meth.name = y.name → ∀ ls : Array Slot, lv_has ls n (lv_args 0 av) → Gd E s s.heap [] g [] →
      W p l e (rmD k mc ms) s m args below meth c s.heap [] 0 0 (MQ below (QQ s.heap.size) args s mc ms (AA E s.heap.size)) (F0 m 0 ls [])) : MG E l y cc n rt k mc ms av g QQ := by
  intro sz
  refine Met.ofW (cc := cc) (maxL := n) (ret := rt) hy rfl ?_
  intro p e s m args below meth c s₁ B hml hv
  obtain ⟨rfl, rfl, h2, h3, h4, h5, h6, h7⟩ := hv
  have hts := atoms_spec (ws := wz y cc n rt) B.pre
  have hown : s.vm.findClass y.cls = some m.cls := findClass_of_methodNamed B.named
  rw [lg_entry_eq]
  refine body p e s m _ below meth c ⟨B.exec, B.bytes, hml, hown, fun w hw => hts w (List.mem_cons_of_mem _ hw), h4, h6, B.notSynchronized, h2, h5, h7⟩ B.returns (name_of_methodNamed B.named B.method).1 _ (lv_entry av hn) ?_
  refine ⟨by rw [List.append_nil]; exact h3, by rw [List.append_nil]; exact wl_D h5 (fun i hi => Or.inl ⟨i, hi, rfl⟩), va_S.rf⟩
/-! the pure side's words -/
def bd {β ρ : Type} (x : β) (f : β → Option ρ) : Option ρ := f x
def ld {ρ : Type} (g : G) (a n : Nat) (i : Int32) (f : Int32 → Option ρ) : Option ρ := if i < 0 ∨ n ≤ i.toNatClampNeg then none else f (g a i.toNatClampNeg)
def sto {ρ : Type} (g : G) (a n : Nat) (i v : Int32) (f : G → Option ρ) : Option ρ := if i < 0 ∨ n ≤ i.toNatClampNeg then none else f (up g a i.toNatClampNeg v)
def dv {ρ : Type} (x y : Int32) (f : Int32 → Option ρ) : Option ρ := if y = 0 then none else f (x / y)
def cpy (g : G) (a b n : Nat) : G := fun o j => if o = b ∧ j < n then g a j else g o j
theorem ld_inv {ρ : Type} {g : G} {a n : Nat} {i : Int32} {f : Int32 → Option ρ} {r : ρ} (h : ld g a n i f = some r) : vp_in i n ∧ f (g a i.toNatClampNeg) = some r := by
  unfold ld at h
  by_cases hc : i < 0 ∨ n ≤ i.toNatClampNeg
  · rw [if_pos hc] at h; cases h
  · rw [if_neg hc] at h; exact ⟨hc, h⟩
theorem sto_inv {ρ : Type} {g : G} {a n : Nat} {i v : Int32} {f : G → Option ρ} {r : ρ} (h : sto g a n i v f = some r) : vp_in i n ∧ f (up g a i.toNatClampNeg v) = some r := by
  unfold sto at h
  by_cases hc : i < 0 ∨ n ≤ i.toNatClampNeg
  · rw [if_pos hc] at h; cases h
  · rw [if_neg hc] at h; exact ⟨hc, h⟩
theorem dv_inv {ρ : Type} {x y : Int32} {f : Int32 → Option ρ} {r : ρ} (h : dv x y f = some r) : ¬ y = 0 ∧ f (x / y) = some r := by
  unfold dv at h
  by_cases hc : y = 0
  · rw [if_pos hc] at h; cases h
  · rw [if_neg hc] at h; exact ⟨hc, h⟩
theorem bind_inv {α ρ : Type} {x : Option α} {f : α → Option ρ} {r : ρ} (h : x.bind f = some r) : ∃ u, x = some u ∧ f u = some r := by
  cases x with
  | none => cases h
  | some u => exact ⟨u, rfl, h⟩
theorem if_inv {ρ : Type} {c : Prop} [Decidable c] {a b r : Option ρ} (h : (if c then a else b) = r) : (c → a = r) ∧ (¬ c → b = r) := ⟨fun hc => by rwa [if_pos hc] at h, fun hc => by rwa [if_neg hc] at h⟩
section ROWS
variable {p : Program} {l : Launch} {e : Env} {R : Room} {s : State} {m : MethodId} {args : Array Value} {below : List Frame} {meth : Method} {c : Code} {H : Heap} {locs : List Loc} {cells slots : Nat} {Q : State → Prop} {cc : ByteArray} {n : Nat} {own : String} {E : EV} {pc : Nat} {ls : Array Slot} {rest : List Value} {g : G} {xs : va_W} {ρ : Type} {r : ρ}
theorem r_get (C : Cx p s m args meth c cc n own E) (hG : Gd E s H locs g xs) {index ci k o : Nat} {fin : Bool} {ty : FieldType} (f : FL own index ci k fin ty) (hk : kd o = ci) (hd : decode cc pc = .ok (.getfield index, 3))
    (kk : W p l e R s m args below meth c H locs cells slots Q (F0 m (pc + 3) ls (fval E g o (sk ci k) k :: rest))) : W p l e R s m args below meth c H locs cells slots Q (F0 m pc ls (.ref (E.ad o) :: rest)) := by
  obtain ⟨hx, hb, -, hown, hts, hK, hN, -⟩ := C
  obtain ⟨cn, T, N, tt, hKC, hk', -, -, hl⟩ := f
  have hci := KC_lt hKC
  obtain ⟨hc, hin, -, -, hn⟩ := hKC
  have ho : o < NC := kd_lt hk (by omega)
  have he : (wl E g ++ xs)[o]? = some (E.ad o, .inr (ci + 2, fsl E g o ci)) := by rw [wlx_at ho, cel_o hk hci]
  have hv : (fsl E g o ci)[k]? = some (fval E g o (sk ci k) k) := fs_at (by omega)
  rcases hl with hl | ⟨host, hl⟩
  · exact va_get (D := E.D) (ci := ci + 2) (C := cn) (T := T) (N := N) hx hb hts hin hown hK hG.1 o he hc k hk' (hts _ hl) (fun _ h9 => h9) hv hd kk
  · exact va_getN (D := E.D) (ci := ci + 2) (C := cn) (T := T) (N := N) hx hb hts hin hown hK hG.1 o he hc k hk' (va_Nw.use rfl (hN _ hl)) (fun _ h9 => h9) hv hd kk
theorem r_getI (C : Cx p s m args meth c cc n own E) (hG : Gd E s H locs g xs) {index ci k o : Nat} {fin : Bool} {ty : FieldType} (f : FL own index ci k fin ty) (hk : kd o = ci) (hs : sk ci k = 0) (hd : decode cc pc = .ok (.getfield index, 3))
    (kk : W p l e R s m args below meth c H locs cells slots Q (F0 m (pc + 3) ls (.int (g o k) :: rest))) : W p l e R s m args below meth c H locs cells slots Q (F0 m pc ls (.ref (E.ad o) :: rest)) :=
  r_get C hG f hk hd (by rw [hs]; exact kk)
theorem r_getR (C : Cx p s m args meth c cc n own E) (hG : Gd E s H locs g xs) {index ci k o d : Nat} {fin : Bool} {ty : FieldType} (f : FL own index ci k fin ty) (hk : kd o = ci) (hs : sk ci k = 1000 + d) (hd9 : d < 1000) (hd : decode cc pc = .ok (.getfield index, 3))
    (kk : W p l e R s m args below meth c H locs cells slots Q (F0 m (pc + 3) ls (.ref (E.ad (o + d)) :: rest))) : W p l e R s m args below meth c H locs cells slots Q (F0 m pc ls (.ref (E.ad o) :: rest)) :=
  r_get C hG f hk hd (by rw [hs, show fval E g o (1000 + d) k = .ref (E.ad (o + d)) by unfold fval; rw [if_neg (by omega), if_pos (by omega), Nat.add_sub_cancel_left]]; exact kk)
theorem r_getA (C : Cx p s m args meth c cc n own E) (hG : Gd E s H locs g xs) {index ci k o j : Nat} {fin : Bool} {ty : FieldType} (f : FL own index ci k fin ty) (hk : kd o = ci) (hs : sk ci k = 2000 + j) (hd : decode cc pc = .ok (.getfield index, 3))
    (kk : W p l e R s m args below meth c H locs cells slots Q (F0 m (pc + 3) ls (.ref (E.ad j) :: rest))) : W p l e R s m args below meth c H locs cells slots Q (F0 m pc ls (.ref (E.ad o) :: rest)) :=
  r_get C hG f hk hd (by rw [hs, show fval E g o (2000 + j) k = .ref (E.ad j) by unfold fval; rw [if_neg (by omega), if_neg (by omega), Nat.add_sub_cancel_left]]; exact kk)
theorem r_put (C : Cx p s m args meth c cc n own E) (hG : Gd E s H locs g xs) {index ci k o : Nat} {ty : FieldType} {v : Int32} (f : FL own index ci k false ty) (hk : kd o = ci) (hs : sk ci k = 0) (hn : narrow ty (.int v) = .int v) (hfit : fits ty (.int v) = true) (hd : decode cc pc = .ok (.putfield index, 3))
    (kk : ∀ (H1 : Heap) (locs1 : List Loc), Gd E s H1 locs1 (up g o k v) xs → W p l e R s m args below meth c H1 locs1 cells slots Q (F0 m (pc + 3) ls rest)) : W p l e R s m args below meth c H locs cells slots Q (F0 m pc ls (.int v :: .ref (E.ad o) :: rest)) := by
  obtain ⟨hx, hb, -, hown, hts, hK, hN, -⟩ := C
  obtain ⟨cn, T, N, tt, hKC, hk', hfin, htt, hl⟩ := f
  have hci := KC_lt hKC
  obtain ⟨hc, hin, hty, hnm, hn2⟩ := hKC
  have ho : o < NC := kd_lt hk (by omega)
  have he : (wl E g ++ xs)[o]? = some (E.ad o, .inr (ci + 2, fsl E g o ci)) := by rw [wlx_at ho, cel_o hk hci]
  have hp9 : parseFieldDescriptor (T k).2.2.1 = some ty := by rw [hty k hk', htt]
  have hset : (wl E g ++ xs).set o (E.ad o, .inr (ci + 2, (fsl E g o ci).set k (.int v))) = wl E (up g o k v) ++ xs := wl_set (by rw [cel_o hk hci, fs_set hs]) ho
  have kk' : ∀ (H1 : Heap) (locs1 : List Loc), va_P E.D vwCl ((wl E g ++ xs).set o (E.ad o, .inr (ci + 2, (fsl E g o ci).set k (.int v)))) H1 → va_D (AA E s.heap.size) ((wl E g ++ xs).set o (E.ad o, .inr (ci + 2, (fsl E g o ci).set k (.int v)))) → va_S (AA E s.heap.size) s.heap H1 locs1 → W p l e R s m args below meth c H1 locs1 cells slots Q (F0 m (pc + 3) ls rest) := by
    intro H1 locs1 a1 a2 a3
    rw [hset] at a1 a2
    exact kk H1 locs1 ⟨a1, a2, a3⟩
  rcases hl with hl | ⟨host, hl⟩
  · exact va_put (D := E.D) (ci := ci + 2) (C := cn) (T := T) (N := N) hx hb hts hin tt hty hnm hown hK hG.1 hG.2.1 hG.2.2 o he hc k hk' (hts _ hl) (fun _ h9 => h9) hfin hp9 hn hfit (by rw [fs_len]; omega) hd kk'
  · exact va_putN (D := E.D) (ci := ci + 2) (C := cn) (T := T) (N := N) hx hb hts hin tt hty hnm hown hK hG.1 hG.2.1 hG.2.2 o he hc k hk' (va_Nw.use rfl (hN _ hl)) (fun _ h9 => h9) hfin hp9 hn hfit (by rw [fs_len]; omega) hd kk'
theorem r_putI (C : Cx p s m args meth c cc n own E) (hG : Gd E s H locs g xs) {index ci k o : Nat} {v : Int32} (f : FL own index ci k false .int) (hk : kd o = ci) (hs : sk ci k = 0) (hd : decode cc pc = .ok (.putfield index, 3)) {fn : G → Option ρ} (h : bd (up g o k v) fn = some r)
    (kk : ∀ (H1 : Heap) (locs1 : List Loc) (g1 : G), Gd E s H1 locs1 g1 xs → fn g1 = some r → W p l e R s m args below meth c H1 locs1 cells slots Q (F0 m (pc + 3) ls rest)) : W p l e R s m args below meth c H locs cells slots Q (F0 m pc ls (.int v :: .ref (E.ad o) :: rest)) :=
  r_put C hG f hk hs rfl rfl hd (fun H1 locs1 a => kk H1 locs1 _ a h)
theorem r_putZ (C : Cx p s m args meth c cc n own E) (hG : Gd E s H locs g xs) {index ci k o : Nat} {v : Int32} (f : FL own index ci k false .boolean) (hk : kd o = ci) (hs : sk ci k = 0) (hv : v = 0 ∨ v = 1) (hd : decode cc pc = .ok (.putfield index, 3)) {fn : G → Option ρ} (h : bd (up g o k v) fn = some r)
    (kk : ∀ (H1 : Heap) (locs1 : List Loc) (g1 : G), Gd E s H1 locs1 g1 xs → fn g1 = some r → W p l e R s m args below meth c H1 locs1 cells slots Q (F0 m (pc + 3) ls rest)) : W p l e R s m args below meth c H locs cells slots Q (F0 m pc ls (.int v :: .ref (E.ad o) :: rest)) :=
  r_put C hG f hk hs (by rcases hv with rfl | rfl <;> rfl) (by rcases hv with rfl | rfl <;> rfl) hd (fun H1 locs1 a => kk H1 locs1 _ a h)
theorem r_ild (C : Cx p s m args meth c cc n own E) (hG : Gd E s H locs g xs) {a N : Nat} {i : Int32} (hk : kd a = 100000 + N) (hN : N < 100000) (hd : decode cc pc = .ok (.iaload, 1)) {fn : Int32 → Option ρ} (h : ld g a N i fn = some r)
    (kk : ∀ x : Int32, fn x = some r → W p l e R s m args below meth c H locs cells slots Q (F0 m (pc + 1) ls (.int x :: rest))) : W p l e R s m args below meth c H locs cells slots Q (F0 m pc ls (.int i :: .ref (E.ad a) :: rest)) := by
  obtain ⟨hx, hb, -, hown, hts, hK, -⟩ := C
  obtain ⟨hin, h⟩ := ld_inv h
  have he : (wl E g ++ xs)[a]? = some (E.ad a, .inl (E.tI, N, .inl (g a))) := by rw [wlx_at (kd_lt hk (by omega)), cel_i hk hN]
  exact va_iald hx hb hK hG.1 a 0 he rfl hin hd (kk _ h)
theorem r_bld (C : Cx p s m args meth c cc n own E) (hG : Gd E s H locs g xs) {a N : Nat} {i : Int32} (hk : kd a = 200000 + N) (hN : N < 100000) (hd : decode cc pc = .ok (.baload, 1)) {fn : Int32 → Option ρ} (h : ld g a N i fn = some r)
    (kk : ∀ x : Int32, fn x = some r → W p l e R s m args below meth c H locs cells slots Q (F0 m (pc + 1) ls (.int x :: rest))) : W p l e R s m args below meth c H locs cells slots Q (F0 m pc ls (.int i :: .ref (E.ad a) :: rest)) := by
  obtain ⟨hx, hb, -, hown, hts, hK, -⟩ := C
  obtain ⟨hin, h⟩ := ld_inv h
  have he : (wl E g ++ xs)[a]? = some (E.ad a, .inl (E.tB, N, .inl (g a))) := by rw [wlx_at (kd_lt hk (by omega)), cel_b hk hN]
  exact va_bald hx hb hK hG.1 a 1 he rfl hin hd (kk _ h)
theorem r_ist (C : Cx p s m args meth c cc n own E) (hG : Gd E s H locs g xs) {a N : Nat} {i v : Int32} (hk : kd a = 100000 + N) (hN : N < 100000) (hd : decode cc pc = .ok (.iastore, 1)) {fn : G → Option ρ} (h : sto g a N i v fn = some r)
    (kk : ∀ (H1 : Heap) (locs1 : List Loc) (g1 : G), Gd E s H1 locs1 g1 xs → fn g1 = some r → W p l e R s m args below meth c H1 locs1 cells slots Q (F0 m (pc + 1) ls rest)) : W p l e R s m args below meth c H locs cells slots Q (F0 m pc ls (.int v :: .int i :: .ref (E.ad a) :: rest)) := by
  obtain ⟨hx, hb, -, hown, hts, hK, -⟩ := C
  obtain ⟨hin, h⟩ := sto_inv h
  have ho : a < NC := kd_lt hk (by omega)
  have he : (wl E g ++ xs)[a]? = some (E.ad a, .inl (E.tI, N, .inl (g a))) := by rw [wlx_at ho, cel_i hk hN]
  have hset : (wl E g ++ xs).set a (E.ad a, .inl (E.tI, N, .inl (upd (g a) i.toNatClampNeg v))) = wl E (up g a i.toNatClampNeg v) ++ xs := wl_set (by rw [cel_i hk hN, up_eq]) ho
  refine va_iast hx hb hK hG.1 hG.2.1 hG.2.2 a 0 he rfl hin hd (fun H1 locs1 a1 a2 a3 => ?_)
  rw [hset] at a1 a2
  exact kk H1 locs1 _ ⟨a1, a2, a3⟩ h
theorem r_bst (C : Cx p s m args meth c cc n own E) (hG : Gd E s H locs g xs) {a N : Nat} {i v : Int32} (hk : kd a = 200000 + N) (hN : N < 100000) (hd : decode cc pc = .ok (.bastore, 1)) {fn : G → Option ρ} (h : sto g a N i v.toInt8.toInt32 fn = some r)
    (kk : ∀ (H1 : Heap) (locs1 : List Loc) (g1 : G), Gd E s H1 locs1 g1 xs → fn g1 = some r → W p l e R s m args below meth c H1 locs1 cells slots Q (F0 m (pc + 1) ls rest)) : W p l e R s m args below meth c H locs cells slots Q (F0 m pc ls (.int v :: .int i :: .ref (E.ad a) :: rest)) := by
  obtain ⟨hx, hb, -, hown, hts, hK, -⟩ := C
  obtain ⟨hin, h⟩ := sto_inv h
  have ho : a < NC := kd_lt hk (by omega)
  have he : (wl E g ++ xs)[a]? = some (E.ad a, .inl (E.tB, N, .inl (g a))) := by rw [wlx_at ho, cel_b hk hN]
  have hset : (wl E g ++ xs).set a (E.ad a, .inl (E.tB, N, .inl (upd (g a) i.toNatClampNeg (vp_nar .byte v)))) = wl E (up g a i.toNatClampNeg v.toInt8.toInt32) ++ xs := wl_set (by rw [cel_b hk hN, up_eq, vp_nar_byte]) ho
  refine va_bast hx hb hK hG.1 hG.2.1 hG.2.2 a 1 he rfl hin hd (fun H1 locs1 a1 a2 a3 => ?_)
  rw [hset] at a1 a2
  exact kk H1 locs1 _ ⟨a1, a2, a3⟩ h
theorem r_alen (C : Cx p s m args meth c cc n own E) (hG : Gd E s H locs g xs) {a N : Nat} {v : Int32} (hk : kd a = 100000 + N) (hN : N < 100000) (hv : Int32.ofNat N = v) (hd : decode cc pc = .ok (.arraylength, 1))
    (kk : W p l e R s m args below meth c H locs cells slots Q (F0 m (pc + 1) ls (.int v :: rest))) : W p l e R s m args below meth c H locs cells slots Q (F0 m pc ls (.ref (E.ad a) :: rest)) := by
  obtain ⟨hx, hb, -, hown, hts, hK, -⟩ := C
  have he : (wl E g ++ xs)[a]? = some (E.ad a, .inl (E.tI, N, .inl (g a))) := by rw [wlx_at (kd_lt hk (by omega)), cel_i hk hN]
  exact va_alen hx hb hK hG.1 a 0 he rfl hv hd kk
theorem r_nm {v : Int32} {fn : Int32 → Option ρ} (h : bd v fn = some r) (kk : ∀ x : Int32, fn x = some r → W p l e R s m args below meth c H locs cells slots Q (F0 m pc ls (.int x :: rest))) : W p l e R s m args below meth c H locs cells slots Q (F0 m pc ls (.int v :: rest)) := kk v h
theorem r_nmL {v : Int64} {fn : Int64 → Option ρ} (h : bd v fn = some r) (kk : ∀ x : Int64, fn x = some r → W p l e R s m args below meth c H locs cells slots Q (F0 m pc ls (.long x :: rest))) : W p l e R s m args below meth c H locs cells slots Q (F0 m pc ls (.long v :: rest)) := kk v h
theorem r_div (C : Cx p s m args meth c cc n own E) {x y : Int32} (hd : decode cc pc = .ok (.idiv, 1)) {fn : Int32 → Option ρ} (h : dv x y fn = some r) (kk : ∀ z : Int32, fn z = some r → W p l e R s m args below meth c H locs cells slots Q (F0 m (pc + 1) ls (.int z :: rest))) : W p l e R s m args below meth c H locs cells slots Q (F0 m pc ls (.int y :: .int x :: rest)) := by
  obtain ⟨h0, h1⟩ := dv_inv h
  exact lv_idiv C.1 C.2.1 hd h0 (kk _ h1)
theorem r_iret (C : Cx p s m args meth c cc n own E) (hG : Gd E s H locs g []) {ty : FieldType} (hr : meth.sig.returnType = some ty) {v : Int32} {u : Int32 × G} (hn : narrow ty (.int v) = .int v) (hd : decode cc pc = .ok (.ireturn, 1)) (h : some (v, g) = some u) : W p l e R s m args below meth c H locs cells slots (MQ below (QI E s.heap.size u.1 u.2) args s cells slots (AA E s.heap.size)) (F0 m pc ls [.int v]) := by
  cases h
  have hl : meth.locks = false := C.2.2.2.2.2.2.2.1
  have hP := hG.1
  rw [List.append_nil] at hP
  exact W.zret C.1 C.2.1 hr hn (fun t ht hW => ⟨⟨v, (), rfl, rfl, by show va_P _ _ _ t.heap; rw [ht]; exact hP⟩, hG.2.2.F ht⟩) hG.2.2.2.2 hd hl
theorem r_vret (C : Cx p s m args meth c cc n own E) (hG : Gd E s H locs g []) (hr : meth.sig.returnType = none) {u : G} (hd : decode cc pc = .ok (.return_, 1)) (h : some g = some u) : W p l e R s m args below meth c H locs cells slots (MQ below (QV E s.heap.size u) args s cells slots (AA E s.heap.size)) (F0 m pc ls []) := by
  cases h
  have hl : meth.locks = false := C.2.2.2.2.2.2.2.1
  have hP := hG.1
  rw [List.append_nil] at hP
  exact W.vret C.1 C.2.1 hr (fun t ht hW => ⟨⟨(), rfl, trivial, by show va_P _ _ _ t.heap; rw [ht]; exact hP⟩, hG.2.2.F ht⟩) hG.2.2.2.2 hd hl
theorem r_lret (C : Cx p s m args meth c cc n own E) (hG : Gd E s H locs g []) (hr : meth.sig.returnType = some .long) {v : Int64} {u : Int64 × G} (hd : decode cc pc = .ok (.lreturn, 1)) (h : some (v, g) = some u) : W p l e R s m args below meth c H locs cells slots (MQ below (QL E s.heap.size u.1 u.2) args s cells slots (AA E s.heap.size)) (F0 m pc ls [.long v]) := by
  cases h
  have hl : meth.locks = false := C.2.2.2.2.2.2.2.1
  have hP := hG.1
  rw [List.append_nil] at hP
  exact W.lret C.1 C.2.1 hr (fun t ht hW => ⟨⟨v, (), rfl, rfl, by show va_P _ _ _ t.heap; rw [ht]; exact hP⟩, hG.2.2.F ht⟩) hG.2.2.2.2 hd hl
end ROWS
end
section
/-! calls: what links a call, the callee's precondition, the world behind it -/
def hdOk (y : MethodName) (np : Nat) : Prop := y.cls ≠ "java/lang/invoke/MethodHandle" ∧ y.cls ≠ "java/lang/invoke/VarHandle" ∧ (parseMethodDescriptor y.desc).map (fun d => d.parameters.length) = some np
def MLV (own : String) (idx : Nat) (y : MethodName) (c : ByteArray) (n : Nat) (rt : Option FieldType) (np : Nat) : Prop := Cond.code y c n rt ∈ TB ∧ Cond.initialized y.cls ∈ TB ∧ Cond.instanceMethod y ∈ TB ∧ Cond.selects y.cls y y ∈ TB ∧ hdOk y np ∧ (Cond.methodLink own idx y ∈ TB ∨ ∃ host, Cond.methodLinkNest own idx y host ∈ NB)
def MLS (own : String) (idx : Nat) (y : MethodName) (c : ByteArray) (n : Nat) (rt : Option FieldType) (np : Nat) : Prop := Cond.code y c n rt ∈ TB ∧ Cond.initialized y.cls ∈ TB ∧ Cond.static y ∈ TB ∧ hdOk y np ∧ (Cond.methodLink own idx y ∈ TB ∨ ∃ host, Cond.methodLinkNest own idx y host ∈ NB)
theorem rm_ok {k K n mc ms mc' ms' : Nat} (h : k < K) (hn : n ≤ 41) : (rmD k mc ms).frames + 1 ≤ (rmD K mc' ms').frames ∧ 8 + (n + 11) + (rmD k mc ms).locals ≤ (rmD K mc' ms').locals := by
  refine ⟨h, ?_⟩
  show 8 + (n + 11) + 60 * k ≤ 60 * K
  omega
section CALLS
variable {p : Program} {l : Launch} {e : Env} {R : Room} {s : State} {m : MethodId} {args : Array Value} {below : List Frame} {meth : Method} {c : Code} {H : Heap} {locs : List Loc} {cells slots : Nat} {Q : State → Prop} {cc : ByteArray} {n : Nat} {own : String} {E : EV} {pc : Nat} {ls : Array Slot} {rest st : List Value} {g : G} {xs : va_W} {ρ : Type} {r : ρ}
theorem pre_ok (C : Cx p s m args meth c cc n own E) (hG : Gd E s H locs g xs) (av : List Value) : ∀ U : State, U.heap = H → s.WarmedH U.vm → PC E H.size av g av.toArray U := by
  intro U hU hW
  obtain ⟨-, -, -, -, -, hK, hN, -, hz, hA, hO⟩ := C
  have hS := hG.2.2
  have hsz : E.sz ≤ H.size := Nat.le_trans hz hS.1
  refine ⟨rfl, by rw [hU], by rw [hU]; exact hsz, ?_, va_K.moved hW.alike hK, hA, fun w hw => Nw_warm hW hw (hN w hw), ?_⟩
  · rw [hU]
    intro k q hq
    refine hG.1 k q ?_
    rw [List.getElem?_append_left (List.getElem?_eq_some_iff.mp hq).1]
    exact hq
  · rw [hU]
    exact OO.step hW hz (fun a ha => hS.2.1 a (Nat.lt_of_lt_of_le ha hz) (fun h => Nat.not_le.mpr ha (AA_ge hA hz h))) hO
theorem Gd_D {A : Nat → Prop} {g1 : G} (h : va_D A (wl E g ++ xs)) : va_D A (wl E g1 ++ xs) := by
  have key : ∀ (i : Nat) (q : Nat × va_E), (wl E g1 ++ xs)[i]? = some q → ∃ q' : Nat × va_E, (wl E g ++ xs)[i]? = some q' ∧ q'.1 = q.1 := by
    intro i q hq
    by_cases hi : i < NC
    · rw [wlx_at hi] at hq
      cases hq
      exact ⟨_, wlx_at hi, rfl⟩
    · rw [wlx_ge hi] at hq
      exact ⟨q, by rw [wlx_ge hi]; exact hq, rfl⟩
  refine ⟨fun i j a b ha hb he => ?_, fun k q hq => ?_⟩
  · obtain ⟨a', h1, e1⟩ := key i a ha
    obtain ⟨b', h2, e2⟩ := key j b hb
    exact h.1 i j a' b' h1 h2 (by rw [e1, e2, he])
  · obtain ⟨q', h1, e1⟩ := key k q hq
    rw [← e1]
    exact h.2 k q' h1
theorem Gd_after (hG : Gd E s H locs g xs) {H1 : Heap} {locs1 : List Loc} {g1 : G} (hB : va_P E.D vwCl (wl E g1) H1) (hk : ∀ q : Nat, q < H.size → ¬ AA E H.size q → H1[q]? = H[q]?) (hS : va_S (AA E s.heap.size) s.heap H1 locs1) : Gd E s H1 locs1 g1 xs := by
  refine ⟨va_P.app hB (fun k q hq => ?_), Gd_D hG.2.1, hS⟩
  have hq' : (wl E g ++ xs)[NC + k]? = some q := by
    rw [wlx_ge (by omega), Nat.add_sub_cancel_left]
    exact hq
  have hat := hG.1 _ q hq'
  have hlt := hat.lt
  refine hat.kept (hk q.1 hlt ?_)
  rintro (⟨i, hi, e9⟩ | hge)
  · have := hG.2.1.1 (NC + k) i q (E.ad i, cel E g i) hq' (wlx_at hi) e9
    omega
  · omega
theorem AA_in (hG : Gd E s H locs g xs) : (∀ q, AA E H.size q → AA E s.heap.size q) := by
  rintro q (h | h)
  · exact Or.inl h
  · exact Or.inr (Nat.le_trans hG.2.2.1 h)
theorem run_V (C : Cx p s m args meth c cc n own E) (hls : ls.size = n) (hG : Gd E s H locs g xs) {y : MethodName} {c' : ByteArray} {n' : Nat} {rt : Option FieldType} {k mc ms np o ci idx N : Nat} {As : List Value} {QQ : Nat → Array Value → State → Outcome → State → Prop} {T : u_T} {tt : Nat → FieldType}
    (hM : MG E l y c' n' rt k mc ms (.ref (E.ad o) :: As) g QQ) (hm : MLV own idx y c' n' rt np) (hk : kd o = ci) (hKC : KC ci y.cls T N tt) (hlen : As.length = np) (hR : (rmD k mc ms).frames + 1 ≤ R.frames ∧ 8 + (n' + 11) + (rmD k mc ms).locals ≤ R.locals) (hrest : (rest.map fun v => v.category).sum ≤ 8) (hf : cells + mc ≤ R.cells ∧ slots + ms ≤ R.slots) (hst : st = As.reverse ++ .ref (E.ad o) :: rest) (hd : decode cc pc = .ok (.invokevirtual idx, 3)) :
    va_Run p l e R s m args below meth c H locs cells slots mc ms (F0 m pc ls st) rest (QQ H.size (Value.ref (E.ad o) :: As).toArray) (AA E H.size) := by
  have hpre := pre_ok C hG (.ref (E.ad o) :: As)
  obtain ⟨hx, hb, hml, hown, hts, hK, hN, -⟩ := id C
  obtain ⟨h1, h2, h3, h4, h5, h6⟩ := hm
  have hci := KC_lt hKC
  have ho : o < NC := kd_lt hk (by omega)
  have he : (wl E g ++ xs)[o]? = some (E.ad o, .inr (ci + 2, fsl E g o ci)) := by rw [wlx_at ho, cel_o hk hci]
  have hrecv := va_recv hK hG.1 (ci := ci + 2) hKC.1 he
  rcases h6 with h6 | ⟨host, h6⟩
  · exact va_runV (C := y.cls) (Ts := TB) ⟨hx, hb, hml, hown, hts⟩ (hM H.size) ⟨callB_of np hts (gwz h1) rfl rfl rfl (hts _ h2) (hts _ h6) h5 hR, hts _ h3, hts _ h4⟩ ⟨PC_blind, hrecv, hpre⟩ rfl hlen hls hst (lv_room hrest) hd hf
  · exact va_runVN (C := y.cls) (Ts := TB) (host := host) ⟨hx, hb, hml, hown, hts⟩ (hM H.size) ⟨va_cnB np hts (gwz h1) rfl rfl rfl (hN _ h6) (hts _ h2) h5 hR, hts _ h3, hts _ h4⟩ ⟨PC_blind, hrecv, hpre⟩ rfl hlen hls hst (lv_room hrest) hd hf
theorem run_S (C : Cx p s m args meth c cc n own E) (hls : ls.size = n) (hG : Gd E s H locs g xs) {y : MethodName} {c' : ByteArray} {n' : Nat} {rt : Option FieldType} {k mc ms np idx : Nat} {As : List Value} {QQ : Nat → Array Value → State → Outcome → State → Prop}
    (hM : MG E l y c' n' rt k mc ms As g QQ) (hm : MLS own idx y c' n' rt np) (hlen : As.length = np) (hR : (rmD k mc ms).frames + 1 ≤ R.frames ∧ 8 + (n' + 11) + (rmD k mc ms).locals ≤ R.locals) (hrest : (rest.map fun v => v.category).sum ≤ 8) (hf : cells + mc ≤ R.cells ∧ slots + ms ≤ R.slots) (hst : st = As.reverse ++ rest) (hd : decode cc pc = .ok (.invokestatic idx, 3)) :
    va_Run p l e R s m args below meth c H locs cells slots mc ms (F0 m pc ls st) rest (QQ H.size As.toArray) (AA E H.size) := by
  have hpre := pre_ok C hG As
  obtain ⟨hx, hb, hml, hown, hts, hK, hN, -⟩ := id C
  obtain ⟨h1, h2, h3, h5, h6⟩ := hm
  rcases h6 with h6 | ⟨host, h6⟩
  · exact va_runS (Ts := TB) ⟨hx, hb, hml, hown, hts⟩ (hM H.size) ⟨callB_of np hts (gwz h1) rfl rfl rfl (hts _ h2) (hts _ h6) h5 hR, hts _ h3⟩ ⟨PC_blind, hpre⟩ rfl hlen hls hst (lv_room hrest) hd hf
  · exact va_runSN (Ts := TB) (host := host) ⟨hx, hb, hml, hown, hts⟩ (hM H.size) ⟨va_cnB np hts (gwz h1) rfl rfl rfl (hN _ h6) (hts _ h2) h5 hR, hts _ h3, trivial⟩ ⟨PC_blind, hpre⟩ rfl hlen hls hst (lv_room hrest) hd hf
theorem af_I (hG : Gd E s H locs g xs) {mc ms : Nat} {a : Array Value} {u : Int32 × G} {st0 : List Value} (hr : va_Run p l e R s m args below meth c H locs cells slots mc ms (F0 m pc ls st0) rest (QI E H.size u.1 u.2 a) (AA E H.size))
    (kk : ∀ (H1 : Heap) (locs1 : List Loc), Gd E s H1 locs1 u.2 xs → W p l e R s m args below meth c H1 locs1 (cells + mc) (slots + ms) Q (F0 m (pc + 3) ls (.int u.1 :: rest))) : W p l e R s m args below meth c H locs cells slots Q (F0 m pc ls st0) := by
  refine va_calli hr hG.2.2 (fun q _ h => AA_in hG q h) (AA_in hG) (fun r9 u9 t H1 locs1 ht hvm hw hB hz hk hS => ?_)
  have hw : r9 = u.1 := hw
  subst hw
  exact kk H1 locs1 (Gd_after hG (by rw [← ht]; exact hB) hk hS)
theorem af_L (hG : Gd E s H locs g xs) {mc ms : Nat} {a : Array Value} {u : Int64 × G} {st0 : List Value} (hr : va_Run p l e R s m args below meth c H locs cells slots mc ms (F0 m pc ls st0) rest (QL E H.size u.1 u.2 a) (AA E H.size))
    (kk : ∀ (H1 : Heap) (locs1 : List Loc), Gd E s H1 locs1 u.2 xs → W p l e R s m args below meth c H1 locs1 (cells + mc) (slots + ms) Q (F0 m (pc + 3) ls (.long u.1 :: rest))) : W p l e R s m args below meth c H locs cells slots Q (F0 m pc ls st0) := by
  refine va_calll hr hG.2.2 (fun q _ h => AA_in hG q h) (AA_in hG) (fun r9 u9 t H1 locs1 ht hvm hw hB hz hk hS => ?_)
  have hw : r9 = u.1 := hw
  subst hw
  exact kk H1 locs1 (Gd_after hG (by rw [← ht]; exact hB) hk hS)
theorem af_V (hG : Gd E s H locs g xs) {mc ms : Nat} {a : Array Value} {u : G} {st0 : List Value} (hr : va_Run p l e R s m args below meth c H locs cells slots mc ms (F0 m pc ls st0) rest (QV E H.size u a) (AA E H.size))
    (kk : ∀ (H1 : Heap) (locs1 : List Loc), Gd E s H1 locs1 u xs → W p l e R s m args below meth c H1 locs1 (cells + mc) (slots + ms) Q (F0 m (pc + 3) ls rest)) : W p l e R s m args below meth c H locs cells slots Q (F0 m pc ls st0) := by
  refine va_callv hr hG.2.2 (fun q _ h => AA_in hG q h) (AA_in hG) (fun u9 t H1 locs1 ht hvm hw hB hz hk hS => ?_)
  exact kk H1 locs1 (Gd_after hG (by rw [← ht]; exact hB) hk hS)
theorem af_A (hG : Gd E s H locs g xs) {mc ms : Nat} {a : Array Value} {u : Nat × G} {st0 : List Value} (hr : va_Run p l e R s m args below meth c H locs cells slots mc ms (F0 m pc ls st0) rest (QA E H.size (E.aK u.1) u.2 a) (AA E H.size))
    (kk : ∀ (H1 : Heap) (locs1 : List Loc), Gd E s H1 locs1 u.2 xs → W p l e R s m args below meth c H1 locs1 (cells + mc) (slots + ms) Q (F0 m (pc + 3) ls (.ref (E.aK u.1) :: rest))) : W p l e R s m args below meth c H locs cells slots Q (F0 m pc ls st0) := by
  refine va_callr hr hG.2.2 (fun q _ h => AA_in hG q h) (AA_in hG) (fun u9 a9 t H1 locs1 ht hvm hw hB hz hk hS => ?_)
  obtain ⟨rfl, hB⟩ := hB
  exact kk H1 locs1 (Gd_after hG (by rw [← ht]; exact hB) hk hS)
theorem r_callVI (C : Cx p s m args meth c cc n own E) (hls : ls.size = n) (hG : Gd E s H locs g xs) {y : MethodName} {c' : ByteArray} {n' : Nat} {rt : Option FieldType} {k np o ci idx N : Nat} (As : List Value) (rest : List Value) {T : u_T} {tt : Nat → FieldType} {kz : Option (Int32 × G)} (hC : ∀ u, kz = some u → MI E l y c' n' rt k 0 0 (.ref (E.ad o) :: As) g u) (hm : MLV own idx y c' n' rt np) (hk : kd o = ci) (hKC : KC ci y.cls T N tt) (hlen : As.length = np) (hR : (rmD k 0 0).frames + 1 ≤ R.frames ∧ 8 + (n' + 11) + (rmD k 0 0).locals ≤ R.locals) (hrest : (rest.map fun v => v.category).sum ≤ 8) (hf : cells + 0 ≤ R.cells ∧ slots + 0 ≤ R.slots) (hst : st = As.reverse ++ .ref (E.ad o) :: rest) (hd : decode cc pc = .ok (.invokevirtual idx, 3)) {fn : Int32 × G → Option ρ} (h : kz.bind fn = some r)
    (kk : ∀ (u : Int32 × G) (H1 : Heap) (locs1 : List Loc), Gd E s H1 locs1 u.2 xs → fn u = some r → W p l e R s m args below meth c H1 locs1 cells slots Q (F0 m (pc + 3) ls (.int u.1 :: rest))) : W p l e R s m args below meth c H locs cells slots Q (F0 m pc ls st) := by
  obtain ⟨u, hu, h⟩ := bind_inv h
  exact af_I hG (run_V C hls hG (hC u hu) hm hk hKC hlen hR hrest hf hst hd) (fun H1 locs1 a => kk u H1 locs1 a h)
theorem r_callVL (C : Cx p s m args meth c cc n own E) (hls : ls.size = n) (hG : Gd E s H locs g xs) {y : MethodName} {c' : ByteArray} {n' : Nat} {rt : Option FieldType} {k np o ci idx N : Nat} (As : List Value) (rest : List Value) {T : u_T} {tt : Nat → FieldType} {kz : Option (Int64 × G)} (hC : ∀ u, kz = some u → ML E l y c' n' rt k 0 0 (.ref (E.ad o) :: As) g u) (hm : MLV own idx y c' n' rt np) (hk : kd o = ci) (hKC : KC ci y.cls T N tt) (hlen : As.length = np) (hR : (rmD k 0 0).frames + 1 ≤ R.frames ∧ 8 + (n' + 11) + (rmD k 0 0).locals ≤ R.locals) (hrest : (rest.map fun v => v.category).sum ≤ 8) (hf : cells + 0 ≤ R.cells ∧ slots + 0 ≤ R.slots) (hst : st = As.reverse ++ .ref (E.ad o) :: rest) (hd : decode cc pc = .ok (.invokevirtual idx, 3)) {fn : Int64 × G → Option ρ} (h : kz.bind fn = some r)
    (kk : ∀ (u : Int64 × G) (H1 : Heap) (locs1 : List Loc), Gd E s H1 locs1 u.2 xs → fn u = some r → W p l e R s m args below meth c H1 locs1 cells slots Q (F0 m (pc + 3) ls (.long u.1 :: rest))) : W p l e R s m args below meth c H locs cells slots Q (F0 m pc ls st) := by
  obtain ⟨u, hu, h⟩ := bind_inv h
  exact af_L hG (run_V C hls hG (hC u hu) hm hk hKC hlen hR hrest hf hst hd) (fun H1 locs1 a => kk u H1 locs1 a h)
theorem r_callVV (C : Cx p s m args meth c cc n own E) (hls : ls.size = n) (hG : Gd E s H locs g xs) {y : MethodName} {c' : ByteArray} {n' : Nat} {rt : Option FieldType} {k np o ci idx N : Nat} (As : List Value) (rest : List Value) {T : u_T} {tt : Nat → FieldType} {kz : Option G} (hC : ∀ u, kz = some u → MV E l y c' n' rt k 0 0 (.ref (E.ad o) :: As) g u) (hm : MLV own idx y c' n' rt np) (hk : kd o = ci) (hKC : KC ci y.cls T N tt) (hlen : As.length = np) (hR : (rmD k 0 0).frames + 1 ≤ R.frames ∧ 8 + (n' + 11) + (rmD k 0 0).locals ≤ R.locals) (hrest : (rest.map fun v => v.category).sum ≤ 8) (hf : cells + 0 ≤ R.cells ∧ slots + 0 ≤ R.slots) (hst : st = As.reverse ++ .ref (E.ad o) :: rest) (hd : decode cc pc = .ok (.invokevirtual idx, 3)) {fn : G → Option ρ} (h : kz.bind fn = some r)
    (kk : ∀ (u : G) (H1 : Heap) (locs1 : List Loc), Gd E s H1 locs1 u xs → fn u = some r → W p l e R s m args below meth c H1 locs1 cells slots Q (F0 m (pc + 3) ls rest)) : W p l e R s m args below meth c H locs cells slots Q (F0 m pc ls st) := by
  obtain ⟨u, hu, h⟩ := bind_inv h
  exact af_V hG (run_V C hls hG (hC u hu) hm hk hKC hlen hR hrest hf hst hd) (fun H1 locs1 a => kk u H1 locs1 a h)
theorem r_callSI (C : Cx p s m args meth c cc n own E) (hls : ls.size = n) (hG : Gd E s H locs g xs) {y : MethodName} {c' : ByteArray} {n' : Nat} {rt : Option FieldType} {k np idx : Nat} (As : List Value) (rest : List Value) {kz : Option (Int32 × G)} (hC : ∀ u, kz = some u → MI E l y c' n' rt k 0 0 As g u) (hm : MLS own idx y c' n' rt np) (hlen : As.length = np) (hR : (rmD k 0 0).frames + 1 ≤ R.frames ∧ 8 + (n' + 11) + (rmD k 0 0).locals ≤ R.locals) (hrest : (rest.map fun v => v.category).sum ≤ 8) (hf : cells + 0 ≤ R.cells ∧ slots + 0 ≤ R.slots) (hst : st = As.reverse ++ rest) (hd : decode cc pc = .ok (.invokestatic idx, 3)) {fn : Int32 × G → Option ρ} (h : kz.bind fn = some r)
    (kk : ∀ (u : Int32 × G) (H1 : Heap) (locs1 : List Loc), Gd E s H1 locs1 u.2 xs → fn u = some r → W p l e R s m args below meth c H1 locs1 cells slots Q (F0 m (pc + 3) ls (.int u.1 :: rest))) : W p l e R s m args below meth c H locs cells slots Q (F0 m pc ls st) := by
  obtain ⟨u, hu, h⟩ := bind_inv h
  exact af_I hG (run_S C hls hG (hC u hu) hm hlen hR hrest hf hst hd) (fun H1 locs1 a => kk u H1 locs1 a h)
theorem r_callSV (C : Cx p s m args meth c cc n own E) (hls : ls.size = n) (hG : Gd E s H locs g xs) {y : MethodName} {c' : ByteArray} {n' : Nat} {rt : Option FieldType} {k np idx : Nat} (As : List Value) (rest : List Value) {kz : Option G} (hC : ∀ u, kz = some u → MV E l y c' n' rt k 0 0 As g u) (hm : MLS own idx y c' n' rt np) (hlen : As.length = np) (hR : (rmD k 0 0).frames + 1 ≤ R.frames ∧ 8 + (n' + 11) + (rmD k 0 0).locals ≤ R.locals) (hrest : (rest.map fun v => v.category).sum ≤ 8) (hf : cells + 0 ≤ R.cells ∧ slots + 0 ≤ R.slots) (hst : st = As.reverse ++ rest) (hd : decode cc pc = .ok (.invokestatic idx, 3)) {fn : G → Option ρ} (h : kz.bind fn = some r)
    (kk : ∀ (u : G) (H1 : Heap) (locs1 : List Loc), Gd E s H1 locs1 u xs → fn u = some r → W p l e R s m args below meth c H1 locs1 cells slots Q (F0 m (pc + 3) ls rest)) : W p l e R s m args below meth c H locs cells slots Q (F0 m pc ls st) := by
  obtain ⟨u, hu, h⟩ := bind_inv h
  exact af_V hG (run_S C hls hG (hC u hu) hm hlen hR hrest hf hst hd) (fun H1 locs1 a => kk u H1 locs1 a h)
theorem r_callSA (C : Cx p s m args meth c cc n own E) (hls : ls.size = n) (hG : Gd E s H locs g xs) {y : MethodName} {c' : ByteArray} {n' : Nat} {rt : Option FieldType} {k np idx : Nat} (As : List Value) (rest : List Value) {kz : Option (Nat × G)} (hC : ∀ u, kz = some u → MA E l y c' n' rt k 0 0 As g u) (hm : MLS own idx y c' n' rt np) (hlen : As.length = np) (hR : (rmD k 0 0).frames + 1 ≤ R.frames ∧ 8 + (n' + 11) + (rmD k 0 0).locals ≤ R.locals) (hrest : (rest.map fun v => v.category).sum ≤ 8) (hf : cells + 0 ≤ R.cells ∧ slots + 0 ≤ R.slots) (hst : st = As.reverse ++ rest) (hd : decode cc pc = .ok (.invokestatic idx, 3)) {fn : Nat × G → Option ρ} (h : kz.bind fn = some r)
    (kk : ∀ (u : Nat × G) (H1 : Heap) (locs1 : List Loc), Gd E s H1 locs1 u.2 xs → fn u = some r → W p l e R s m args below meth c H1 locs1 cells slots Q (F0 m (pc + 3) ls (.ref (E.aK u.1) :: rest))) : W p l e R s m args below meth c H locs cells slots Q (F0 m pc ls st) := by
  obtain ⟨u, hu, h⟩ := bind_inv h
  exact af_A hG (run_S C hls hG (hC u hu) hm hlen hR hrest hf hst hd) (fun H1 locs1 a => kk u H1 locs1 a h)
/-! Math and arraycopy -/
def LMax (own : String) (i : Nat) : Prop := Cond.methodLink own i Lib.Math.max.name ∈ TB ∧ Cond.static Lib.Math.max.name ∈ TB ∧ Cond.initialized "java/lang/Math" ∈ TB ∧ Cond.code Lib.Math.max.name Lib.Math.max.code 2 (some .int) ∈ TB
def LMin (own : String) (i : Nat) : Prop := Cond.methodLink own i Lib.Math.min.name ∈ TB ∧ Cond.static Lib.Math.min.name ∈ TB ∧ Cond.initialized "java/lang/Math" ∈ TB ∧ Cond.code Lib.Math.min.name Lib.Math.min.code 2 (some .int) ∈ TB
def LAbs (own : String) (i : Nat) : Prop := Cond.methodLink own i Lib.Math.abs.name ∈ TB ∧ Cond.static Lib.Math.abs.name ∈ TB ∧ Cond.initialized "java/lang/Math" ∈ TB ∧ Cond.code Lib.Math.abs.name Lib.Math.abs.code 1 (some .int) ∈ TB
def LMaxL (own : String) (i : Nat) : Prop := Cond.methodLink own i Lib.MathLoose.max_long.x ∈ TB ∧ Cond.static Lib.MathLoose.max_long.x ∈ TB ∧ Cond.initialized "java/lang/Math" ∈ TB ∧ Cond.code Lib.MathLoose.max_long.x Lib.MathLoose.max_long.code 4 (some .long) ∈ TB
def LMinL (own : String) (i : Nat) : Prop := Cond.methodLink own i Lib.MathLoose.min_long.x ∈ TB ∧ Cond.static Lib.MathLoose.min_long.x ∈ TB ∧ Cond.initialized "java/lang/Math" ∈ TB ∧ Cond.code Lib.MathLoose.min_long.x Lib.MathLoose.min_long.code 4 (some .long) ∈ TB
def LCpy (own : String) (i : Nat) : Prop := Cond.methodLink own i arraycopyName ∈ TB ∧ Cond.native arraycopyName ∈ TB ∧ Cond.static arraycopyName ∈ TB ∧ Cond.initialized "java/lang/System" ∈ TB
theorem r_max (C : Cx p s m args meth c cc n own E) (hls : ls.size = n) {i : Nat} (hm : LMax own i) (hR : 1 ≤ R.frames ∧ (rest.map fun v => v.category).sum + 13 ≤ R.locals ∧ cells ≤ R.cells ∧ slots ≤ R.slots) {x y : Int32} (hd : decode cc pc = .ok (.invokestatic i, 3))
    (kk : W p l e R s m args below meth c H locs cells slots Q (F0 m (pc + 3) ls (.int (if x < y then y else x) :: rest))) : W p l e R s m args below meth c H locs cells slots Q (F0 m pc ls (.int y :: .int x :: rest)) := by
  obtain ⟨hx, hb, hml, hown, hts, -⟩ := C
  exact va_mmax hx hb (hml.trans hls.symm) hown (hts _ hm.1) (hts _ hm.2.1) (hts _ hm.2.2.1) (hts _ hm.2.2.2) hR.1 hR.2.1 hR.2.2.1 hR.2.2.2 hd kk
theorem r_min (C : Cx p s m args meth c cc n own E) (hls : ls.size = n) {i : Nat} (hm : LMin own i) (hR : 1 ≤ R.frames ∧ (rest.map fun v => v.category).sum + 13 ≤ R.locals ∧ cells ≤ R.cells ∧ slots ≤ R.slots) {x y : Int32} (hd : decode cc pc = .ok (.invokestatic i, 3))
    (kk : W p l e R s m args below meth c H locs cells slots Q (F0 m (pc + 3) ls (.int (if y < x then y else x) :: rest))) : W p l e R s m args below meth c H locs cells slots Q (F0 m pc ls (.int y :: .int x :: rest)) := by
  obtain ⟨hx, hb, hml, hown, hts, -⟩ := C
  exact va_mmin hx hb (hml.trans hls.symm) hown (hts _ hm.1) (hts _ hm.2.1) (hts _ hm.2.2.1) (hts _ hm.2.2.2) hR.1 hR.2.1 hR.2.2.1 hR.2.2.2 hd kk
theorem r_abs (C : Cx p s m args meth c cc n own E) (hls : ls.size = n) {i : Nat} (hm : LAbs own i) (hR : 1 ≤ R.frames ∧ (rest.map fun v => v.category).sum + 13 ≤ R.locals ∧ cells ≤ R.cells ∧ slots ≤ R.slots) {x : Int32} (hd : decode cc pc = .ok (.invokestatic i, 3))
    (kk : W p l e R s m args below meth c H locs cells slots Q (F0 m (pc + 3) ls (.int (if 0 ≤ x then x else 0 - x) :: rest))) : W p l e R s m args below meth c H locs cells slots Q (F0 m pc ls (.int x :: rest)) := by
  obtain ⟨hx, hb, hml, hown, hts, -⟩ := C
  exact va_mabs hx hb (hml.trans hls.symm) hown (hts _ hm.1) (hts _ hm.2.1) (hts _ hm.2.2.1) (hts _ hm.2.2.2) hR.1 hR.2.1 hR.2.2.1 hR.2.2.2 hd kk
theorem r_maxL (C : Cx p s m args meth c cc n own E) (hls : ls.size = n) {i : Nat} (hm : LMaxL own i) (hR : 1 ≤ R.frames ∧ (rest.map fun v => v.category).sum + 15 ≤ R.locals ∧ cells ≤ R.cells ∧ slots ≤ R.slots) {x y : Int64} (hd : decode cc pc = .ok (.invokestatic i, 3))
    (kk : W p l e R s m args below meth c H locs cells slots Q (F0 m (pc + 3) ls (.long (if y < x then x else y) :: rest))) : W p l e R s m args below meth c H locs cells slots Q (F0 m pc ls (.long y :: .long x :: rest)) := by
  obtain ⟨hx, hb, hml, hown, hts, -⟩ := C
  exact va_mmax_long hx hb (hml.trans hls.symm) hown (hts _ hm.1) (hts _ hm.2.1) (hts _ hm.2.2.1) (hts _ hm.2.2.2) hR.1 hR.2.1 hR.2.2.1 hR.2.2.2 hd kk
theorem r_minL (C : Cx p s m args meth c cc n own E) (hls : ls.size = n) {i : Nat} (hm : LMinL own i) (hR : 1 ≤ R.frames ∧ (rest.map fun v => v.category).sum + 15 ≤ R.locals ∧ cells ≤ R.cells ∧ slots ≤ R.slots) {x y : Int64} (hd : decode cc pc = .ok (.invokestatic i, 3))
    (kk : W p l e R s m args below meth c H locs cells slots Q (F0 m (pc + 3) ls (.long (if y < x then y else x) :: rest))) : W p l e R s m args below meth c H locs cells slots Q (F0 m pc ls (.long y :: .long x :: rest)) := by
  obtain ⟨hx, hb, hml, hown, hts, -⟩ := C
  exact va_mmin_long hx hb (hml.trans hls.symm) hown (hts _ hm.1) (hts _ hm.2.1) (hts _ hm.2.2.1) (hts _ hm.2.2.2) hR.1 hR.2.1 hR.2.2.1 hR.2.2.2 hd kk
theorem r_cpy (C : Cx p s m args meth c cc n own E) (hls : ls.size = n) (hG : Gd E s H locs g xs) {i a b N : Nat} (hm : LCpy own i) (ha : kd a = 100000 + N) (hb9 : kd b = 100000 + N) (hN : N < 100000) {z : Int32} (hz : z = nI N) (hR : 1 ≤ R.frames ∧ (rest.map fun v => v.category).sum + (nativeFrameWords "java/lang/System" "arraycopy" 5 + 11) ≤ R.locals) (hd : decode cc pc = .ok (.invokestatic i, 3)) {fn : G → Option ρ} (h : bd (cpy g a b N) fn = some r)
    (kk : ∀ (H1 : Heap) (locs1 : List Loc) (g1 : G), Gd E s H1 locs1 g1 xs → fn g1 = some r → W p l e R s m args below meth c H1 locs1 cells slots Q (F0 m (pc + 3) ls rest)) : W p l e R s m args below meth c H locs cells slots Q (F0 m pc ls (.int z :: .int 0 :: .ref (E.ad b) :: .int 0 :: .ref (E.ad a) :: rest)) := by
  obtain ⟨hx, hb, hml, hown, hts, hK, -⟩ := C
  subst hz
  have hoa : a < NC := kd_lt ha (by omega)
  have hob : b < NC := kd_lt hb9 (by omega)
  have hea : (wl E g ++ xs)[a]? = some (E.ad a, .inl (E.tI, N, .inl (g a))) := by rw [wlx_at hoa, cel_i ha hN]
  have heb : (wl E g ++ xs)[b]? = some (E.ad b, .inl (E.tI, N, .inl (g b))) := by rw [wlx_at hob, cel_i hb9 hN]
  have hcl : (nI N).toNatClampNeg = N := nI_clamp (by omega)
  have h0 : (0 : Int32).toNatClampNeg = 0 := by decide
  have hset : (wl E g ++ xs).set b (E.ad b, .inl (E.tI, N, .inl (va_cpy (g a) (g b) (0 : Int32).toNatClampNeg (0 : Int32).toNatClampNeg (nI N).toNatClampNeg))) = wl E (cpy g a b N) ++ xs := by
    rw [hcl, h0]
    have hf : va_cpy (g a) (g b) 0 0 N = cpy g a b N b := by
      funext j
      by_cases hj : j < N <;> simp [va_cpy, cpy, hj]
    have hne : ∀ i9, i9 ≠ b → cpy g a b N i9 = g i9 := fun i9 hi => funext fun _ => if_neg (fun q => hi q.1)
    apply List.ext_getElem?
    intro i9
    rw [List.getElem?_set]
    by_cases hi : b = i9
    · subst hi
      rw [if_pos rfl, if_pos (by rw [List.length_append, wl_len]; omega), wlx_at hob, cel_i hb9 hN, hf]
    · rw [if_neg hi]
      by_cases hN9 : i9 < NC
      · rw [wlx_at hN9, wlx_at hN9]
        unfold cel fsl fval
        rw [hne i9 (Ne.symm hi)]
      · rw [wlx_ge hN9, wlx_ge hN9]
  refine va_copyi hx hb (hml.trans hls.symm) hown (hts _ hm.1) (hts _ hm.2.1) (hts _ hm.2.2.1) (hts _ hm.2.2.2) hK hG.1 hG.2.1 hG.2.2 a b 0 0 hea heb rfl rfl rfl (by decide) (by decide) (nI_pos (by omega)) (by rw [hcl, h0]; omega) (by rw [hcl, h0]; omega) (fun _ _ => rfl) hR.1 hR.2 hd (fun H1 locs1 a1 a2 a3 => ?_)
  rw [hset] at a1 a2
  exact kk H1 locs1 _ ⟨a1, a2, a3⟩ h
end CALLS
end
section
/-! a few more rows: iinc, switches, answers that are true or false -/
theorem lk_def : ∀ (ps : List (Int × Int)) (d z : Int), (∀ q ∈ ps, q.1 ≠ z) → Op.lookupswitch.offset ps d z = d := by
  intro ps
  induction ps with
  | nil => intro d z _; rfl
  | cons q ps ih =>
    intro d z h
    obtain ⟨a, o⟩ := q
    rw [Op.lookupswitch.offset_cons, if_neg (h _ List.mem_cons_self)]
    exact ih d z (fun q hq => h q (List.mem_cons_of_mem _ hq))
theorem nei {x k : Int32} {z : Int} (h : ¬ x = k) (hz : k.toInt = z) : z ≠ x.toInt := fun q => h (Int32.toInt_inj.mp (by rw [hz, q]))
theorem fa_c {q : Int × Int} {z : Int} {ps : List (Int × Int)} (h : q.1 ≠ z) (t : ∀ q ∈ ps, q.1 ≠ z) : ∀ w ∈ q :: ps, w.1 ≠ z := fun w hw => by
  rcases List.mem_cons.mp hw with rfl | hw
  · exact h
  · exact t w hw
theorem fa_n {z : Int} : ∀ w ∈ ([] : List (Int × Int)), w.1 ≠ z := fun _ h => absurd h List.not_mem_nil
theorem tab_out {x : Int32} {lo hi : Int} (n : Nat) (hn : hi - lo < n) (h : ∀ j : Nat, j < n → lo + (j : Int) ≠ x.toInt) : x.toInt < lo ∨ hi < x.toInt := by
  rcases Int.lt_or_le x.toInt lo with a | a
  · exact Or.inl a
  · rcases Int.lt_or_le hi x.toInt with b | b
    · exact Or.inr b
    · exact absurd (show lo + ((x.toInt - lo).toNat : Int) = x.toInt by omega) (h _ (by omega))
/-- a method that answers true or false, by a number that is not written out -/
def zr (v : Int32) (g : G) : Option (Int32 × G) := if v = 0 ∨ v = 1 then some (v, g) else none
theorem zr_inv {v : Int32} {g : G} {u : Int32 × G} (h : zr v g = some u) : narrow .boolean (.int v) = .int v ∧ some (v, g) = some u := by
  unfold zr at h
  by_cases hc : v = 0 ∨ v = 1
  · rw [if_pos hc] at h
    refine ⟨?_, h⟩
    rcases hc with rfl | rfl <;> rfl
  · rw [if_neg hc] at h; cases h
section ROWS2
variable {p : Program} {l : Launch} {e : Env} {R : Room} {s : State} {m : MethodId} {args : Array Value} {below : List Frame} {meth : Method} {c : Code} {H : Heap} {locs : List Loc} {cells slots : Nat} {Q : State → Prop} {cc : ByteArray} {n : Nat} {own : String} {E : EV} {pc : Nat} {ls : Array Slot} {rest st : List Value} {g : G} {xs : va_W} {ρ : Type} {r : ρ}
theorem r_iinc (C : Cx p s m args meth c cc n own E) {i k : Nat} {n0 : Int} {x w : Int32} {lv : List (Nat × Value)} {lv' : Int32 → List (Nat × Value)} (hd : decode cc pc = .ok (.iinc i n0, 3)) (hl : lv_has ls n lv) (hk : lv[k]? = some (i, .int x)) (hw : Int32.ofInt n0 = w) (hn : i < n) (hl' : ∀ y : Int32, (i, Value.int y) :: lv.filter (fun q => !(q.1 == i) && !(q.1 + 1 == i && q.2.category == 2)) = lv' y) {fn : Int32 → Option ρ} (h : bd (x + w) fn = some r)
    (kk : ∀ (y : Int32) (ls' : Array Slot), lv_has ls' n (lv' y) → fn y = some r → W p l e R s m args below meth c H locs cells slots Q (F0 m (pc + 3) ls' rest)) : W p l e R s m args below meth c H locs cells slots Q (F0 m pc ls rest) :=
  lv_iinc C.1 C.2.1 hd hl hk (by rw [hw]) hn (hl' _) (fun ls' a => kk _ ls' a h)
theorem r_zret (C : Cx p s m args meth c cc n own E) (hG : Gd E s H locs g []) (hr : meth.sig.returnType = some .boolean) {v : Int32} {u : Int32 × G} (hd : decode cc pc = .ok (.ireturn, 1)) (h : zr v g = some u) : W p l e R s m args below meth c H locs cells slots (MQ below (QI E s.heap.size u.1 u.2) args s cells slots (AA E s.heap.size)) (F0 m pc ls [.int v]) :=
  r_iret C hG hr (zr_inv h).1 hd (zr_inv h).2
end ROWS2
end
section
/-! calls of methods that write nothing; their ends; fuel; where references lead -/
def FU : Nat := 100000
def zrP (v : Int32) : Option Int32 := if v = 0 ∨ v = 1 then some v else none
theorem zrP_inv {v u : Int32} (h : zrP v = some u) : narrow .boolean (.int v) = .int v ∧ some v = some u := by
  unfold zrP at h
  by_cases hc : v = 0 ∨ v = 1
  · rw [if_pos hc] at h
    refine ⟨?_, h⟩
    rcases hc with rfl | rfl <;> rfl
  · rw [if_neg hc] at h; cases h
theorem mTBi {w : Cond} (i : Nat) (h : lw_tbl[i]? = some w) (hg : goodWord w = true) : w ∈ TB := List.mem_filter.mpr ⟨List.mem_of_getElem? h, hg⟩
theorem mNBi {w : Cond} (i : Nat) (h : tables_1[i]? = some w) (hg : isNest w = true) : w ∈ NB := List.mem_filter.mpr ⟨List.mem_of_getElem? h, hg⟩
section CALLSP
variable {p : Program} {l : Launch} {e : Env} {R : Room} {s : State} {m : MethodId} {args : Array Value} {below : List Frame} {meth : Method} {c : Code} {H : Heap} {locs : List Loc} {cells slots : Nat} {Q : State → Prop} {cc : ByteArray} {n : Nat} {own : String} {E : EV} {pc : Nat} {ls : Array Slot} {rest st : List Value} {g : G} {xs : va_W} {ρ : Type} {r : ρ}
theorem r_callVIP (C : Cx p s m args meth c cc n own E) (hls : ls.size = n) (hG : Gd E s H locs g xs) {y : MethodName} {c' : ByteArray} {n' : Nat} {rt : Option FieldType} {k np o ci idx N : Nat} (As : List Value) (rest : List Value) {T : u_T} {tt : Nat → FieldType} {kz : Option Int32} (hC : ∀ u, kz = some u → MI E l y c' n' rt k 0 0 (.ref (E.ad o) :: As) g (u, g)) (hm : MLV own idx y c' n' rt np) (hk : kd o = ci) (hKC : KC ci y.cls T N tt) (hlen : As.length = np) (hR : (rmD k 0 0).frames + 1 ≤ R.frames ∧ 8 + (n' + 11) + (rmD k 0 0).locals ≤ R.locals) (hrest : (rest.map fun v => v.category).sum ≤ 8) (hf : cells + 0 ≤ R.cells ∧ slots + 0 ≤ R.slots) (hst : st = As.reverse ++ .ref (E.ad o) :: rest) (hd : decode cc pc = .ok (.invokevirtual idx, 3)) {fn : Int32 → Option ρ} (h : kz.bind fn = some r)
    (kk : ∀ (u : Int32) (H1 : Heap) (locs1 : List Loc), Gd E s H1 locs1 g xs → fn u = some r → W p l e R s m args below meth c H1 locs1 cells slots Q (F0 m (pc + 3) ls (.int u :: rest))) : W p l e R s m args below meth c H locs cells slots Q (F0 m pc ls st) := by
  obtain ⟨u, hu, h⟩ := bind_inv h
  exact af_I hG (run_V C hls hG (hC u hu) hm hk hKC hlen hR hrest hf hst hd) (fun H1 locs1 a => kk u H1 locs1 a h)
theorem r_callSIP (C : Cx p s m args meth c cc n own E) (hls : ls.size = n) (hG : Gd E s H locs g xs) {y : MethodName} {c' : ByteArray} {n' : Nat} {rt : Option FieldType} {k np idx : Nat} (As : List Value) (rest : List Value) {kz : Option Int32} (hC : ∀ u, kz = some u → MI E l y c' n' rt k 0 0 As g (u, g)) (hm : MLS own idx y c' n' rt np) (hlen : As.length = np) (hR : (rmD k 0 0).frames + 1 ≤ R.frames ∧ 8 + (n' + 11) + (rmD k 0 0).locals ≤ R.locals) (hrest : (rest.map fun v => v.category).sum ≤ 8) (hf : cells + 0 ≤ R.cells ∧ slots + 0 ≤ R.slots) (hst : st = As.reverse ++ rest) (hd : decode cc pc = .ok (.invokestatic idx, 3)) {fn : Int32 → Option ρ} (h : kz.bind fn = some r)
    (kk : ∀ (u : Int32) (H1 : Heap) (locs1 : List Loc), Gd E s H1 locs1 g xs → fn u = some r → W p l e R s m args below meth c H1 locs1 cells slots Q (F0 m (pc + 3) ls (.int u :: rest))) : W p l e R s m args below meth c H locs cells slots Q (F0 m pc ls st) := by
  obtain ⟨u, hu, h⟩ := bind_inv h
  exact af_I hG (run_S C hls hG (hC u hu) hm hlen hR hrest hf hst hd) (fun H1 locs1 a => kk u H1 locs1 a h)
theorem r_callVLP (C : Cx p s m args meth c cc n own E) (hls : ls.size = n) (hG : Gd E s H locs g xs) {y : MethodName} {c' : ByteArray} {n' : Nat} {rt : Option FieldType} {k np o ci idx N : Nat} (As : List Value) (rest : List Value) {T : u_T} {tt : Nat → FieldType} {kz : Option Int64} (hC : ∀ u, kz = some u → ML E l y c' n' rt k 0 0 (.ref (E.ad o) :: As) g (u, g)) (hm : MLV own idx y c' n' rt np) (hk : kd o = ci) (hKC : KC ci y.cls T N tt) (hlen : As.length = np) (hR : (rmD k 0 0).frames + 1 ≤ R.frames ∧ 8 + (n' + 11) + (rmD k 0 0).locals ≤ R.locals) (hrest : (rest.map fun v => v.category).sum ≤ 8) (hf : cells + 0 ≤ R.cells ∧ slots + 0 ≤ R.slots) (hst : st = As.reverse ++ .ref (E.ad o) :: rest) (hd : decode cc pc = .ok (.invokevirtual idx, 3)) {fn : Int64 → Option ρ} (h : kz.bind fn = some r)
    (kk : ∀ (u : Int64) (H1 : Heap) (locs1 : List Loc), Gd E s H1 locs1 g xs → fn u = some r → W p l e R s m args below meth c H1 locs1 cells slots Q (F0 m (pc + 3) ls (.long u :: rest))) : W p l e R s m args below meth c H locs cells slots Q (F0 m pc ls st) := by
  obtain ⟨u, hu, h⟩ := bind_inv h
  exact af_L hG (run_V C hls hG (hC u hu) hm hk hKC hlen hR hrest hf hst hd) (fun H1 locs1 a => kk u H1 locs1 a h)
theorem r_callSLP (C : Cx p s m args meth c cc n own E) (hls : ls.size = n) (hG : Gd E s H locs g xs) {y : MethodName} {c' : ByteArray} {n' : Nat} {rt : Option FieldType} {k np idx : Nat} (As : List Value) (rest : List Value) {kz : Option Int64} (hC : ∀ u, kz = some u → ML E l y c' n' rt k 0 0 As g (u, g)) (hm : MLS own idx y c' n' rt np) (hlen : As.length = np) (hR : (rmD k 0 0).frames + 1 ≤ R.frames ∧ 8 + (n' + 11) + (rmD k 0 0).locals ≤ R.locals) (hrest : (rest.map fun v => v.category).sum ≤ 8) (hf : cells + 0 ≤ R.cells ∧ slots + 0 ≤ R.slots) (hst : st = As.reverse ++ rest) (hd : decode cc pc = .ok (.invokestatic idx, 3)) {fn : Int64 → Option ρ} (h : kz.bind fn = some r)
    (kk : ∀ (u : Int64) (H1 : Heap) (locs1 : List Loc), Gd E s H1 locs1 g xs → fn u = some r → W p l e R s m args below meth c H1 locs1 cells slots Q (F0 m (pc + 3) ls (.long u :: rest))) : W p l e R s m args below meth c H locs cells slots Q (F0 m pc ls st) := by
  obtain ⟨u, hu, h⟩ := bind_inv h
  exact af_L hG (run_S C hls hG (hC u hu) hm hlen hR hrest hf hst hd) (fun H1 locs1 a => kk u H1 locs1 a h)
theorem r_callVAP (C : Cx p s m args meth c cc n own E) (hls : ls.size = n) (hG : Gd E s H locs g xs) {y : MethodName} {c' : ByteArray} {n' : Nat} {rt : Option FieldType} {k np o ci idx N : Nat} (As : List Value) (rest : List Value) {T : u_T} {tt : Nat → FieldType} {kz : Option Nat} (hC : ∀ u, kz = some u → MA E l y c' n' rt k 0 0 (.ref (E.ad o) :: As) g (u, g)) (hm : MLV own idx y c' n' rt np) (hk : kd o = ci) (hKC : KC ci y.cls T N tt) (hlen : As.length = np) (hR : (rmD k 0 0).frames + 1 ≤ R.frames ∧ 8 + (n' + 11) + (rmD k 0 0).locals ≤ R.locals) (hrest : (rest.map fun v => v.category).sum ≤ 8) (hf : cells + 0 ≤ R.cells ∧ slots + 0 ≤ R.slots) (hst : st = As.reverse ++ .ref (E.ad o) :: rest) (hd : decode cc pc = .ok (.invokevirtual idx, 3)) {fn : Nat → Option ρ} (h : kz.bind fn = some r)
    (kk : ∀ (u : Nat) (H1 : Heap) (locs1 : List Loc), Gd E s H1 locs1 g xs → fn u = some r → W p l e R s m args below meth c H1 locs1 cells slots Q (F0 m (pc + 3) ls (.ref (E.aK u) :: rest))) : W p l e R s m args below meth c H locs cells slots Q (F0 m pc ls st) := by
  obtain ⟨u, hu, h⟩ := bind_inv h
  exact af_A hG (run_V C hls hG (hC u hu) hm hk hKC hlen hR hrest hf hst hd) (fun H1 locs1 a => kk u H1 locs1 a h)
theorem r_callSAP (C : Cx p s m args meth c cc n own E) (hls : ls.size = n) (hG : Gd E s H locs g xs) {y : MethodName} {c' : ByteArray} {n' : Nat} {rt : Option FieldType} {k np idx : Nat} (As : List Value) (rest : List Value) {kz : Option Nat} (hC : ∀ u, kz = some u → MA E l y c' n' rt k 0 0 As g (u, g)) (hm : MLS own idx y c' n' rt np) (hlen : As.length = np) (hR : (rmD k 0 0).frames + 1 ≤ R.frames ∧ 8 + (n' + 11) + (rmD k 0 0).locals ≤ R.locals) (hrest : (rest.map fun v => v.category).sum ≤ 8) (hf : cells + 0 ≤ R.cells ∧ slots + 0 ≤ R.slots) (hst : st = As.reverse ++ rest) (hd : decode cc pc = .ok (.invokestatic idx, 3)) {fn : Nat → Option ρ} (h : kz.bind fn = some r)
    (kk : ∀ (u : Nat) (H1 : Heap) (locs1 : List Loc), Gd E s H1 locs1 g xs → fn u = some r → W p l e R s m args below meth c H1 locs1 cells slots Q (F0 m (pc + 3) ls (.ref (E.aK u) :: rest))) : W p l e R s m args below meth c H locs cells slots Q (F0 m pc ls st) := by
  obtain ⟨u, hu, h⟩ := bind_inv h
  exact af_A hG (run_S C hls hG (hC u hu) hm hlen hR hrest hf hst hd) (fun H1 locs1 a => kk u H1 locs1 a h)
theorem r_iretP (C : Cx p s m args meth c cc n own E) (hG : Gd E s H locs g []) {ty : FieldType} (hr : meth.sig.returnType = some ty) {v u : Int32} (hn : narrow ty (.int v) = .int v) (hd : decode cc pc = .ok (.ireturn, 1)) (h : some v = some u) : W p l e R s m args below meth c H locs cells slots (MQ below (QI E s.heap.size u g) args s cells slots (AA E s.heap.size)) (F0 m pc ls [.int v]) := by
  cases h
  exact r_iret (u := (v, g)) C hG hr hn hd rfl
theorem r_zretP (C : Cx p s m args meth c cc n own E) (hG : Gd E s H locs g []) (hr : meth.sig.returnType = some .boolean) {v u : Int32} (hd : decode cc pc = .ok (.ireturn, 1)) (h : zrP v = some u) : W p l e R s m args below meth c H locs cells slots (MQ below (QI E s.heap.size u g) args s cells slots (AA E s.heap.size)) (F0 m pc ls [.int v]) :=
  r_iretP C hG hr (zrP_inv h).1 hd (zrP_inv h).2
theorem r_lretP (C : Cx p s m args meth c cc n own E) (hG : Gd E s H locs g []) (hr : meth.sig.returnType = some .long) {v u : Int64} (hd : decode cc pc = .ok (.lreturn, 1)) (h : some v = some u) : W p l e R s m args below meth c H locs cells slots (MQ below (QL E s.heap.size u g) args s cells slots (AA E s.heap.size)) (F0 m pc ls [.long v]) := by
  cases h
  exact r_lret (u := (v, g)) C hG hr hd rfl
end CALLSP
theorem kR2_0 {o : Nat} (h : kd o = 2) : kd (o + 1) = 100010 := (show ∀ o, o < NC → kd o = 2 → kd (o + 1) = 100010 by decide +kernel) o (kd_lt h (by decide)) h
theorem kR2_1 {o : Nat} (h : kd o = 2) : kd (o + 2) = 100010 := (show ∀ o, o < NC → kd o = 2 → kd (o + 2) = 100010 by decide +kernel) o (kd_lt h (by decide)) h
theorem kR2_2 {o : Nat} (h : kd o = 2) : kd (o + 3) = 100400 := (show ∀ o, o < NC → kd o = 2 → kd (o + 3) = 100400 by decide +kernel) o (kd_lt h (by decide)) h
theorem kR2_3 {o : Nat} (h : kd o = 2) : kd (o + 4) = 100400 := (show ∀ o, o < NC → kd o = 2 → kd (o + 4) = 100400 by decide +kernel) o (kd_lt h (by decide)) h
theorem kR3_0 {o : Nat} (h : kd o = 3) : kd (o + 1) = 100012 := (show ∀ o, o < NC → kd o = 3 → kd (o + 1) = 100012 by decide +kernel) o (kd_lt h (by decide)) h
theorem kR3_1 {o : Nat} (h : kd o = 3) : kd (o + 2) = 100012 := (show ∀ o, o < NC → kd o = 3 → kd (o + 2) = 100012 by decide +kernel) o (kd_lt h (by decide)) h
theorem kR4_0 {o : Nat} (h : kd o = 4) : kd (o + 1) = 100010 := (show ∀ o, o < NC → kd o = 4 → kd (o + 1) = 100010 by decide +kernel) o (kd_lt h (by decide)) h
theorem kR4_1 {o : Nat} (h : kd o = 4) : kd (o + 2) = 100010 := (show ∀ o, o < NC → kd o = 4 → kd (o + 2) = 100010 by decide +kernel) o (kd_lt h (by decide)) h
theorem kR4_2 {o : Nat} (h : kd o = 4) : kd (o + 3) = 100010 := (show ∀ o, o < NC → kd o = 4 → kd (o + 3) = 100010 by decide +kernel) o (kd_lt h (by decide)) h
theorem kR4_3 {o : Nat} (h : kd o = 4) : kd (o + 4) = 100010 := (show ∀ o, o < NC → kd o = 4 → kd (o + 4) = 100010 by decide +kernel) o (kd_lt h (by decide)) h
theorem kR4_4 {o : Nat} (h : kd o = 4) : kd (o + 5) = 100010 := (show ∀ o, o < NC → kd o = 4 → kd (o + 5) = 100010 by decide +kernel) o (kd_lt h (by decide)) h
theorem kR4_5 {o : Nat} (h : kd o = 4) : kd (o + 6) = 100010 := (show ∀ o, o < NC → kd o = 4 → kd (o + 6) = 100010 by decide +kernel) o (kd_lt h (by decide)) h
theorem kR4_6 {o : Nat} (h : kd o = 4) : kd (o + 7) = 100010 := (show ∀ o, o < NC → kd o = 4 → kd (o + 7) = 100010 by decide +kernel) o (kd_lt h (by decide)) h
theorem kR7_1 {o : Nat} (h : kd o = 7) : kd (o + 1) = 4 := (show ∀ o, o < NC → kd o = 7 → kd (o + 1) = 4 by decide +kernel) o (kd_lt h (by decide)) h
theorem kR7_2 {o : Nat} (h : kd o = 7) : kd (o + 9) = 3 := (show ∀ o, o < NC → kd o = 7 → kd (o + 9) = 3 by decide +kernel) o (kd_lt h (by decide)) h
theorem kR7_3 {o : Nat} (h : kd o = 7) : kd (o + 12) = 100400 := (show ∀ o, o < NC → kd o = 7 → kd (o + 12) = 100400 by decide +kernel) o (kd_lt h (by decide)) h
end
section
/-! Strings: rows over the run's String constants; two of the JDK's own methods by hand -/
def ckS {ρ : Type} (i : Nat) (x : Option ρ) : Option ρ := if i < NS then x else none
def sld {ρ : Type} (i : Nat) (j : Int32) (f : Int32 → Option ρ) : Option ρ := if i < NS then (if j < 0 ∨ sL i ≤ j.toNatClampNeg then none else f ((sB i).getD j.toNatClampNeg 0)) else none
def zcP (v : Int32) : Option Int32 := if 0 ≤ v ∧ v ≤ 65535 then some v else none
theorem ckS_inv {ρ : Type} {i : Nat} {x : Option ρ} {r : ρ} (h : ckS i x = some r) : i < NS ∧ x = some r := by
  unfold ckS at h
  by_cases hc : i < NS
  · rw [if_pos hc] at h; exact ⟨hc, h⟩
  · rw [if_neg hc] at h; cases h
theorem sld_inv {ρ : Type} {i : Nat} {j : Int32} {f : Int32 → Option ρ} {r : ρ} (h : sld i j f = some r) : i < NS ∧ vp_in j (sL i) ∧ f ((sB i).getD j.toNatClampNeg 0) = some r := by
  unfold sld at h
  by_cases hc : i < NS
  · rw [if_pos hc] at h
    by_cases hd : j < 0 ∨ sL i ≤ j.toNatClampNeg
    · rw [if_pos hd] at h; cases h
    · rw [if_neg hd] at h; exact ⟨hc, hd, h⟩
  · rw [if_neg hc] at h; cases h
theorem zcP_inv {v u : Int32} (h : zcP v = some u) : narrow .char (.int v) = .int v ∧ some v = some u := by
  unfold zcP at h
  by_cases hc : 0 ≤ v ∧ v ≤ 65535
  · rw [if_pos hc] at h
    refine ⟨?_, h⟩
    have h1 : (65535 : Int32).toInt = ((65535 : Nat) : Int) := by decide
    obtain ⟨j, hj, rfl⟩ := nI_of2 h1 (Int32.not_lt.mpr hc.1) hc.2
    exact (pk_charN (by omega)).1
  · rw [if_neg hc] at h; cases h
section STRS
variable {p : Program} {l : Launch} {e : Env} {R : Room} {s : State} {m : MethodId} {args : Array Value} {below : List Frame} {meth : Method} {c : Code} {H : Heap} {locs : List Loc} {cells slots : Nat} {Q : State → Prop} {cc : ByteArray} {n : Nat} {own : String} {E : EV} {pc : Nat} {ls : Array Slot} {rest st : List Value} {g : G} {xs : va_W} {ρ : Type} {r : ρ}
theorem Cx.oo (C : Cx p s m args meth c cc n own E) : OOx E.sz E.aK E.aV E.tW s s.heap := C.2.2.2.2.2.2.2.2.2.2.1
theorem Cx.ox (C : Cx p s m args meth c cc n own E) : va_X E.sb E.sL E.sx s s.heap ∧ E.sb < E.sz := C.2.2.2.2.2.2.2.2.2.2.2
theorem Cx.na (C : Cx p s m args meth c cc n own E) : ∀ q, AA E s.heap.size q → A0 E.sz q := fun _ h => AA_ge C.2.2.2.2.2.2.2.2.2.1 C.2.2.2.2.2.2.2.2.1 h
theorem Cx.so (C : Cx p s m args meth c cc n own E) {i : Nat} (hi : i < NS) : SO1 E.sz E.aK E.aV i s s.heap := (C.oo.2.2.2.2.2.2 i hi).1
theorem r_sval (C : Cx p s m args meth c cc n own E) (hG : Gd E s H locs g xs) {i idx : Nat} (hl : Cond.fieldLink own idx "java/lang/String" "value" "[B" ∈ TB) (hd : decode cc pc = .ok (.getfield idx, 3)) {x : Option ρ} (h : ckS i x = some r) (kk : x = some r → W p l e R s m args below meth c H locs cells slots Q (F0 m (pc + 3) ls (.ref (E.aV i) :: rest))) : W p l e R s m args below meth c H locs cells slots Q (F0 m pc ls (.ref (E.aK i) :: rest)) := by
  obtain ⟨hi, h⟩ := ckS_inv h
  exact vk_getf C.1 C.2.1 ((C.so hi).2.2.1.narrow C.na) hG.2.2 C.2.2.2.1 (C.2.2.2.2.1 _ hl) (fun _ h9 => h9) hd (kk h)
theorem r_scod (C : Cx p s m args meth c cc n own E) (hG : Gd E s H locs g xs) {i idx : Nat} (hl : Cond.fieldLink own idx "java/lang/String" "coder" "B" ∈ TB) (hd : decode cc pc = .ok (.getfield idx, 3)) {x : Option ρ} (h : ckS i x = some r) (kk : x = some r → W p l e R s m args below meth c H locs cells slots Q (F0 m (pc + 3) ls (.int 0 :: rest))) : W p l e R s m args below meth c H locs cells slots Q (F0 m pc ls (.ref (E.aK i) :: rest)) := by
  obtain ⟨hi, h⟩ := ckS_inv h
  exact vk_getf C.1 C.2.1 ((C.so hi).2.1.narrow C.na) hG.2.2 C.2.2.2.1 (C.2.2.2.2.1 _ hl) (fun _ h9 => h9) hd (kk h)
theorem r_slen (C : Cx p s m args meth c cc n own E) (hG : Gd E s H locs g xs) {i : Nat} (hd : decode cc pc = .ok (.arraylength, 1)) {x : Option ρ} (h : ckS i x = some r) (kk : x = some r → W p l e R s m args below meth c H locs cells slots Q (F0 m (pc + 1) ls (.int (nI (sL i)) :: rest))) : W p l e R s m args below meth c H locs cells slots Q (F0 m pc ls (.ref (E.aV i) :: rest)) := by
  obtain ⟨hi, h⟩ := ckS_inv h
  exact va_tlen C.1 C.2.1 ((C.so hi).2.2.2.narrow C.na) hG.2.2 rfl hd (kk h)
theorem r_sbld (C : Cx p s m args meth c cc n own E) (hG : Gd E s H locs g xs) {i : Nat} {j : Int32} (hd : decode cc pc = .ok (.baload, 1)) {fn : Int32 → Option ρ} (h : sld i j fn = some r) (kk : ∀ x : Int32, fn x = some r → W p l e R s m args below meth c H locs cells slots Q (F0 m (pc + 1) ls (.int x :: rest))) : W p l e R s m args below meth c H locs cells slots Q (F0 m pc ls (.int j :: .ref (E.aV i) :: rest)) := by
  obtain ⟨hi, hin, h⟩ := sld_inv h
  exact va_tb C.1 C.2.1 ((C.so hi).2.2.2.narrow C.na) hG.2.2 hin rfl hd (kk _ h)
theorem r_gCS (C : Cx p s m args meth c cc n own E) (hG : Gd E s H locs g xs) {idx : Nat} (hl : Cond.fieldLink own idx "java/lang/String" "COMPACT_STRINGS" "Z" ∈ TB) (hd : decode cc pc = .ok (.getstatic idx, 3)) (kk : W p l e R s m args below meth c H locs cells slots Q (F0 m (pc + 3) ls (.int 1 :: rest))) : W p l e R s m args below meth c H locs cells slots Q (F0 m pc ls rest) :=
  va_gets C.1 C.2.1 (C.oo.1.narrow C.na) hG.2.2 C.2.2.2.1 (C.2.2.2.2.1 _ hl) (fun _ h9 => h9) hd kk
theorem r_ldcS (C : Cx p s m args meth c cc n own E) {idx : Nat} (i : Nat) (hi : i < NS) (ho : (sG i).1 = own ∧ (sG i).2.1 = idx) (hd : decode cc pc = .ok (.ldc idx, 2)) (kk : W p l e R s m args below meth c H locs cells slots Q (F0 m (pc + 2) ls (.ref (E.aK i) :: rest))) : W p l e R s m args below meth c H locs cells slots Q (F0 m pc ls rest) := by
  obtain ⟨rfl, rfl⟩ := ho
  exact va_ldcS C.1 C.2.1 C.2.2.2.1 (C.oo.2.2.2.2.2.2 i hi).2 hd kk
theorem run_VS (C : Cx p s m args meth c cc n own E) (hls : ls.size = n) (hG : Gd E s H locs g xs) {y : MethodName} {c' : ByteArray} {n' : Nat} {rt : Option FieldType} {k mc ms np i idx : Nat} {As : List Value} {QQ : Nat → Array Value → State → Outcome → State → Prop}
    (hM : MG E l y c' n' rt k mc ms (.ref (E.aK i) :: As) g QQ) (hm : MLV own idx y c' n' rt np) (hi : i < NS) (hy : y.cls = "java/lang/String") (hlen : As.length = np) (hR : (rmD k mc ms).frames + 1 ≤ R.frames ∧ 8 + (n' + 11) + (rmD k mc ms).locals ≤ R.locals) (hrest : (rest.map fun v => v.category).sum ≤ 8) (hf : cells + mc ≤ R.cells ∧ slots + ms ≤ R.slots) (hst : st = As.reverse ++ .ref (E.aK i) :: rest) (hd : decode cc pc = .ok (.invokevirtual idx, 3)) :
    va_Run p l e R s m args below meth c H locs cells slots mc ms (F0 m pc ls st) rest (QQ H.size (Value.ref (E.aK i) :: As).toArray) (AA E H.size) := by
  have hpre := pre_ok C hG (.ref (E.aK i) :: As)
  have hrecv : ∃ cell : Cell, H[E.aK i]? = some cell ∧ cell.vm.isStatics = false ∧ s.vm.findClass y.cls = some cell.cls := by
    obtain ⟨cell, h1, h2, h3, -⟩ := ((C.so hi).1.narrow C.na).kept hG.2.2.2.1
    exact ⟨cell, h1, h2, by rw [hy]; exact h3⟩
  obtain ⟨hx, hb, hml, hown, hts, hK, hN, -⟩ := id C
  obtain ⟨h1, h2, h3, h4, h5, h6⟩ := hm
  rcases h6 with h6 | ⟨host, h6⟩
  · exact va_runV (C := y.cls) (Ts := TB) ⟨hx, hb, hml, hown, hts⟩ (hM H.size) ⟨callB_of np hts (gwz h1) rfl rfl rfl (hts _ h2) (hts _ h6) h5 hR, hts _ h3, hts _ h4⟩ ⟨PC_blind, hrecv, hpre⟩ rfl hlen hls hst (lv_room hrest) hd hf
  · exact va_runVN (C := y.cls) (Ts := TB) (host := host) ⟨hx, hb, hml, hown, hts⟩ (hM H.size) ⟨va_cnB np hts (gwz h1) rfl rfl rfl (hN _ h6) (hts _ h2) h5 hR, hts _ h3, hts _ h4⟩ ⟨PC_blind, hrecv, hpre⟩ rfl hlen hls hst (lv_room hrest) hd hf
theorem r_callVIS (C : Cx p s m args meth c cc n own E) (hls : ls.size = n) (hG : Gd E s H locs g xs) {y : MethodName} {c' : ByteArray} {n' : Nat} {rt : Option FieldType} {k np i idx : Nat} (As : List Value) (rest : List Value) {kz : Option Int32} (hC : ∀ u, kz = some u → MI E l y c' n' rt k 0 0 (.ref (E.aK i) :: As) g (u, g)) (hm : MLV own idx y c' n' rt np) (hy : y.cls = "java/lang/String") (hlen : As.length = np) (hR : (rmD k 0 0).frames + 1 ≤ R.frames ∧ 8 + (n' + 11) + (rmD k 0 0).locals ≤ R.locals) (hrest : (rest.map fun v => v.category).sum ≤ 8) (hf : cells + 0 ≤ R.cells ∧ slots + 0 ≤ R.slots) (hst : st = As.reverse ++ .ref (E.aK i) :: rest) (hd : decode cc pc = .ok (.invokevirtual idx, 3)) {fn : Int32 → Option ρ} (h : ckS i (kz.bind fn) = some r)
    (kk : ∀ (u : Int32) (H1 : Heap) (locs1 : List Loc), Gd E s H1 locs1 g xs → fn u = some r → W p l e R s m args below meth c H1 locs1 cells slots Q (F0 m (pc + 3) ls (.int u :: rest))) : W p l e R s m args below meth c H locs cells slots Q (F0 m pc ls st) := by
  obtain ⟨hi, h⟩ := ckS_inv h
  obtain ⟨u, hu, h⟩ := bind_inv h
  exact af_I hG (run_VS C hls hG (hC u hu) hm hi hy hlen hR hrest hf hst hd) (fun H1 locs1 a => kk u H1 locs1 a h)
theorem r_callSVP (C : Cx p s m args meth c cc n own E) (hls : ls.size = n) (hG : Gd E s H locs g xs) {y : MethodName} {c' : ByteArray} {n' : Nat} {rt : Option FieldType} {k np idx : Nat} (As : List Value) (rest : List Value) {kz : Option Unit} (hC : ∀ u, kz = some u → MV E l y c' n' rt k 0 0 As g g) (hm : MLS own idx y c' n' rt np) (hlen : As.length = np) (hR : (rmD k 0 0).frames + 1 ≤ R.frames ∧ 8 + (n' + 11) + (rmD k 0 0).locals ≤ R.locals) (hrest : (rest.map fun v => v.category).sum ≤ 8) (hf : cells + 0 ≤ R.cells ∧ slots + 0 ≤ R.slots) (hst : st = As.reverse ++ rest) (hd : decode cc pc = .ok (.invokestatic idx, 3)) {fn : Unit → Option ρ} (h : kz.bind fn = some r)
    (kk : ∀ (u : Unit) (H1 : Heap) (locs1 : List Loc), Gd E s H1 locs1 g xs → fn u = some r → W p l e R s m args below meth c H1 locs1 cells slots Q (F0 m (pc + 3) ls rest)) : W p l e R s m args below meth c H locs cells slots Q (F0 m pc ls st) := by
  obtain ⟨u, hu, h⟩ := bind_inv h
  exact af_V hG (run_S C hls hG (hC u hu) hm hlen hR hrest hf hst hd) (fun H1 locs1 a => kk u H1 locs1 a h)
theorem r_cretP (C : Cx p s m args meth c cc n own E) (hG : Gd E s H locs g []) (hr : meth.sig.returnType = some .char) {v u : Int32} (hd : decode cc pc = .ok (.ireturn, 1)) (h : zcP v = some u) : W p l e R s m args below meth c H locs cells slots (MQ below (QI E s.heap.size u g) args s cells slots (AA E s.heap.size)) (F0 m pc ls [.int v]) :=
  r_iretP C hG hr (zcP_inv h).1 hd (zcP_inv h).2
theorem r_aretP (C : Cx p s m args meth c cc n own E) (hG : Gd E s H locs g []) {nm : String} (hr : meth.sig.returnType = some (.object nm)) {v u : Nat} (hd : decode cc pc = .ok (.areturn, 1)) (h : some v = some u) : W p l e R s m args below meth c H locs cells slots (MQ below (QA E s.heap.size (E.aK u) g) args s cells slots (AA E s.heap.size)) (F0 m pc ls [.ref (E.aK v)]) := by
  cases h
  have hl : meth.locks = false := C.2.2.2.2.2.2.2.1
  have hP := hG.1
  rw [List.append_nil] at hP
  exact W.aret C.1 C.2.1 hr (Or.inl ⟨nm, rfl⟩) (Or.inr ⟨_, rfl⟩) (fun t ht hW => ⟨⟨(), E.aK v, rfl, trivial, rfl, by show va_P _ _ _ t.heap; rw [ht]; exact hP⟩, hG.2.2.F ht⟩) hG.2.2.2.2 hd hl
end STRS
end
section
/-! methods that return or throw: (0, answer, world) or (which exception, 0, world) -/
abbrev XR : Type := Nat × Int32 × G
def exN (k : Nat) : String := if k = 1 then "java/lang/IllegalStateException" else if k = 2 then "java/lang/IllegalArgumentException" else "java/lang/IndexOutOfBoundsException"
abbrev exNames : List String := ["java/lang/RuntimeException", "java/lang/Exception"]
def QXr (E : EV) (sz : Nat) (u : XR) : Array Value → State → Outcome → State → Prop := va_Qi (fun (r' : Int32) (_ : Unit) => u.1 = 0 ∧ r' = u.2.1) (PT E u.2.2) (AA E sz)
def QXv (E : EV) (sz : Nat) (u : XR) : Array Value → State → Outcome → State → Prop := va_Qv (fun (_ : Unit) => u.1 = 0) (PT E u.2.2) (AA E sz)
def XCx (E : EV) (sz : Nat) (u : XR) : String → State → State → Prop := vx_X (fun (_ : Unit) => u.1 ≠ 0) (fun En _ t => En = exN u.1 ∧ va_P E.D vwCl (wl E u.2.2) t.heap) (AA E sz)
def MX (E : EV) (l : Launch) (y : MethodName) (c : ByteArray) (n : Nat) (rt : Option FieldType) (k mc ms : Nat) (av : List Value) (g : G) (QQ : Nat → Array Value → State → Outcome → State → Prop) (u : XR) : Prop := ∀ sz, vx_Met l y (wz y c n rt) (rmD k mc ms) (PC E sz av g) (QQ sz) (XCx E sz u) mc ms (AA E sz)
abbrev MXr (E : EV) (l : Launch) (y : MethodName) (c : ByteArray) (n : Nat) (rt : Option FieldType) (k mc ms : Nat) (av : List Value) (g : G) (u : XR) : Prop := MX E l y c n rt k mc ms av g (fun sz => QXr E sz u) u
abbrev MXv (E : EV) (l : Launch) (y : MethodName) (c : ByteArray) (n : Nat) (rt : Option FieldType) (k mc ms : Nat) (av : List Value) (g : G) (u : XR) : Prop := MX E l y c n rt k mc ms av g (fun sz => QXv E sz u) u
def xb (x : Option XR) (f : G → Option XR) : Option XR := x.bind fun w => if w.1 = 0 then f w.2.2 else some w
theorem xb_inv {x : Option XR} {f : G → Option XR} {u : XR} (h : xb x f = some u) : ∃ w, x = some w ∧ ((w.1 = 0 ∧ f w.2.2 = some u) ∨ (w.1 ≠ 0 ∧ w = u)) := by
  obtain ⟨w, hw, h⟩ := bind_inv h
  refine ⟨w, hw, ?_⟩
  by_cases hc : w.1 = 0
  · rw [if_pos hc] at h; exact Or.inl ⟨hc, h⟩
  · rw [if_neg hc] at h; exact Or.inr ⟨hc, Option.some.inj h⟩
theorem MX.of {E : EV} {l : Launch} {y : MethodName} {cc : ByteArray} {n : Nat} {rt : Option FieldType} {k mc ms : Nat} {av : List Value} {g : G} {QQ : Nat → Array Value → State → Outcome → State → Prop} {u : XR} (hy : plainName y.cls = true) (hn : (lg_sl av).length ≤ n)
    (body : ∀ (p : Program) (e : Env) (s : State) (m : MethodId) (args : Array Value) (below : List Frame) (meth : Method) (c : Code), Cx p s m args meth c cc n y.cls E → (∀ x ∈ c.exceptionTable.toList, False) → meth.sig.returnType = rt → ∀ ls : Array Slot, lv_has ls n (lv_args 0 av) → Gd E s s.heap [] g [] →
      W p l e (rmD k mc ms) s m args below meth c s.heap [] 0 0 (vx_MQ below (QQ s.heap.size) (XCx E s.heap.size u) args s mc ms (AA E s.heap.size)) (F0 m 0 ls [])) : MX E l y cc n rt k mc ms av g QQ u := by
  intro sz
  refine vx_ofW (cc := cc) (maxL := n) (ret := rt) hy rfl ?_
  intro p e s m args below meth c s₁ B hml ht hv
  obtain ⟨rfl, rfl, h2, h3, h4, h5, h6, h7⟩ := hv
  have hts := atoms_spec (ws := wz y cc n rt) B.pre
  have hown : s.vm.findClass y.cls = some m.cls := findClass_of_methodNamed B.named
  rw [lg_entry_eq]
  refine body p e s m _ below meth c ⟨B.exec, B.bytes, hml, hown, fun w hw => hts w (List.mem_cons_of_mem _ hw), h4, h6, B.notSynchronized, h2, h5, h7⟩ ht B.returns _ (lv_entry av hn) ?_
  refine ⟨by rw [List.append_nil]; exact h3, by rw [List.append_nil]; exact wl_D h5 (fun i hi => Or.inl ⟨i, hi, rfl⟩), va_S.rf⟩
/-- what an exception of kind ek wants to be made and thrown in the class own -/
def XW (own : String) (ik ic ek : Nat) : Prop := Bundle.fit (exN ek) = true ∧ (∀ n ∈ exNames, Bundle.fit n = true) ∧ Cond.classLink own ik (exN ek) ∈ TB ∧ Cond.initialized (exN ek) ∈ TB ∧ (∀ w ∈ vx_atS own ic (exN ek) exNames, w ∈ TB ∨ w ∈ NB) ∧ (∀ w ∈ Cond.classLink own ik (exN ek) :: Cond.initialized (exN ek) :: vx_atS own ic (exN ek) exNames, vx_ot w = true)
def inTN (w : Cond) : Bool := (decide (w ∈ lw_tbl) && goodWord w) || (decide (w ∈ tables_1) && isNest w)
theorem inTN_ok {w : Cond} (h : inTN w = true) : w ∈ TB ∨ w ∈ NB := by
  unfold inTN at h
  rcases Bool.or_eq_true _ _ ▸ h with h | h
  · exact Or.inl (mTB h)
  · exact Or.inr (mNB h)
section THROWS
variable {p : Program} {l : Launch} {e : Env} {R : Room} {s : State} {m : MethodId} {args : Array Value} {below : List Frame} {meth : Method} {c : Code} {H : Heap} {locs : List Loc} {cells slots mc ms : Nat} {Q : State → Prop} {cc : ByteArray} {n : Nat} {own : String} {E : EV} {pc : Nat} {ls : Array Slot} {rest st : List Value} {g : G} {u : XR} {Qc : Array Value → State → Outcome → State → Prop}
theorem Cx.lk (C : Cx p s m args meth c cc n own E) : meth.locks = false := C.2.2.2.2.2.2.2.1
theorem x_ok (C : Cx p s m args meth c cc n own E) (hG : Gd E s H locs g []) {ek : Nat} (h : some ((ek, 0, g) : XR) = some u) (hek : ek ≠ 0) : ∀ t : State, s.vm.Alike t.vm → H.size ≤ t.heap.size → (∀ q : Nat, q < H.size → t.heap[q]? = H[q]?) → XCx E s.heap.size u (exN ek) s t := by
  intro t hvm hz hq
  cases h
  have hP := hG.1
  rw [List.append_nil] at hP
  refine ⟨(), hek, ⟨rfl, fun k q hk => ?_⟩, Nat.le_trans hG.2.2.1 hz, fun q h1 h2 => ?_⟩
  · have hat := hP k q hk
    exact hat.kept (hq q.1 hat.lt)
  · rw [hq q (Nat.lt_of_lt_of_le h1 hG.2.2.1)]
    exact hG.2.2.2.1 q h1 h2
theorem r_throwS (C : Cx p s m args meth c cc n own E) (hls : ls.size = n) (hG : Gd E s H locs g []) (hl : l.stackTraces = false) (ht : ∀ x ∈ c.exceptionTable.toList, False) {ek ik is ic : Nat} (i : Nat) (hw : XW own ik ic ek) (hi : i < NS) (ho : (sG i).1 = own ∧ (sG i).2.1 = is) (hek : ek ≠ 0)
    (d0 : decode cc pc = .ok (.new ik, 3)) (d3 : decode cc (pc + 3) = .ok (.dup, 1)) (d4 : decode cc (pc + 4) = .ok (.ldc is, 2)) (d6 : decode cc (pc + 6) = .ok (.invokespecial ic, 3)) (d9 : decode cc (pc + 9) = .ok (.athrow, 1))
    (hR : 5 < R.frames ∧ (rest.map fun v => v.category).sum + 82 ≤ R.locals ∧ cells + 1 ≤ R.cells ∧ slots + 6 ≤ R.slots) (hc : cells + 1 ≤ mc ∧ slots + 6 ≤ ms) (h : some ((ek, 0, g) : XR) = some u) :
    W p l e R s m args below meth c H locs cells slots (vx_MQ below Qc (XCx E s.heap.size u) args s mc ms (AA E s.heap.size)) (F0 m pc ls rest) := by
  obtain ⟨h1, h2, h3, h4, h5, h6⟩ := hw
  obtain ⟨rfl, rfl⟩ := ho
  have hts := C.2.2.2.2.1
  have hN : NK s := C.2.2.2.2.2.2.1
  have hat : ∀ w ∈ vx_atS (sG i).1 ic (exN ek) exNames, w.before args s = true := fun w hw => by
    rcases h5 w hw with h | h
    · exact hts w h
    · have hn := nestNB h
      refine va_Nw.use ?_ (hN w h)
      cases w <;> first | rfl | cases hn
  exact vx_throwS C.1 C.2.1 hl C.2.2.2.1 h1 h2 (hts _ h3) (hts _ h4) (C.oo.2.2.2.2.2.2 i hi).2 hat h6 (⟨C.oo.2.2.1.1.narrow C.na, C.oo.2.2.1.2.narrow C.na⟩) (⟨C.oo.2.2.2.1.1.narrow C.na, C.oo.2.2.2.1.2.narrow C.na⟩) hG.2.2 (hls.trans C.2.2.1.symm) d0 d3 d4 d6 d9 (fun x hx => (ht x hx).elim) hR.1 hR.2.1 hR.2.2.1 hR.2.2.2 C.lk (x_ok C hG h hek) hG.2.2.2.2 hc.1 hc.2
theorem r_throwSW (C : Cx p s m args meth c cc n own E) (hls : ls.size = n) (hG : Gd E s H locs g []) (hl : l.stackTraces = false) (ht : ∀ x ∈ c.exceptionTable.toList, False) {ek ik is ic : Nat} (i : Nat) (hw : XW own ik ic ek) (hi : i < NS) (ho : (sG i).1 = own ∧ (sG i).2.1 = is) (hek : ek ≠ 0)
    (d0 : decode cc pc = .ok (.new ik, 3)) (d3 : decode cc (pc + 3) = .ok (.dup, 1)) (d4 : decode cc (pc + 4) = .ok (.ldc_w is, 3)) (d7 : decode cc (pc + 7) = .ok (.invokespecial ic, 3)) (d10 : decode cc (pc + 10) = .ok (.athrow, 1))
    (hR : 5 < R.frames ∧ (rest.map fun v => v.category).sum + 82 ≤ R.locals ∧ cells + 1 ≤ R.cells ∧ slots + 6 ≤ R.slots) (hc : cells + 1 ≤ mc ∧ slots + 6 ≤ ms) (h : some ((ek, 0, g) : XR) = some u) :
    W p l e R s m args below meth c H locs cells slots (vx_MQ below Qc (XCx E s.heap.size u) args s mc ms (AA E s.heap.size)) (F0 m pc ls rest) := by
  obtain ⟨h1, h2, h3, h4, h5, h6⟩ := hw
  obtain ⟨rfl, rfl⟩ := ho
  have hts := C.2.2.2.2.1
  have hN : NK s := C.2.2.2.2.2.2.1
  have hat : ∀ w ∈ vx_atS (sG i).1 ic (exN ek) exNames, w.before args s = true := fun w hw => by
    rcases h5 w hw with h | h
    · exact hts w h
    · have hn := nestNB h
      refine va_Nw.use ?_ (hN w h)
      cases w <;> first | rfl | cases hn
  exact vx_throwSW C.1 C.2.1 hl C.2.2.2.1 h1 h2 (hts _ h3) (hts _ h4) (C.oo.2.2.2.2.2.2 i hi).2 hat h6 (⟨C.oo.2.2.1.1.narrow C.na, C.oo.2.2.1.2.narrow C.na⟩) (⟨C.oo.2.2.2.1.1.narrow C.na, C.oo.2.2.2.1.2.narrow C.na⟩) hG.2.2 (hls.trans C.2.2.1.symm) d0 d3 d4 d7 d10 (fun x hx => (ht x hx).elim) hR.1 hR.2.1 hR.2.2.1 hR.2.2.2 C.lk (x_ok C hG h hek) hG.2.2.2.2 hc.1 hc.2
theorem r_iretX (C : Cx p s m args meth c cc n own E) (hG : Gd E s H locs g []) {ty : FieldType} (hr : meth.sig.returnType = some ty) {v : Int32} (hn : narrow ty (.int v) = .int v) (hd : decode cc pc = .ok (.ireturn, 1)) (hc : cells ≤ mc ∧ slots ≤ ms) (h : some ((0, v, g) : XR) = some u) : W p l e R s m args below meth c H locs cells slots (vx_MQ below (QXr E s.heap.size u) (XCx E s.heap.size u) args s mc ms (AA E s.heap.size)) (F0 m pc ls [.int v]) := by
  cases h
  have hP := hG.1
  rw [List.append_nil] at hP
  exact W.widen hc.1 hc.2 (vx_ret (W.zret C.1 C.2.1 hr hn (fun t ht hW => ⟨⟨v, (), rfl, ⟨rfl, rfl⟩, by show va_P _ _ _ t.heap; rw [ht]; exact hP⟩, hG.2.2.F ht⟩) hG.2.2.2.2 hd C.lk))
theorem r_vretX (C : Cx p s m args meth c cc n own E) (hG : Gd E s H locs g []) (hr : meth.sig.returnType = none) (hd : decode cc pc = .ok (.return_, 1)) (hc : cells ≤ mc ∧ slots ≤ ms) (h : some ((0, 0, g) : XR) = some u) : W p l e R s m args below meth c H locs cells slots (vx_MQ below (QXv E s.heap.size u) (XCx E s.heap.size u) args s mc ms (AA E s.heap.size)) (F0 m pc ls []) := by
  cases h
  have hP := hG.1
  rw [List.append_nil] at hP
  exact W.widen hc.1 hc.2 (vx_ret (W.vret C.1 C.2.1 hr (fun t ht hW => ⟨⟨(), rfl, rfl, by show va_P _ _ _ t.heap; rw [ht]; exact hP⟩, hG.2.2.F ht⟩) hG.2.2.2.2 hd C.lk))
theorem afx_V (C : Cx p s m args meth c cc n own E) (hG : Gd E s H locs g []) (ht : ∀ x ∈ c.exceptionTable.toList, False) {mc' ms' : Nat} {a : Array Value} {w : XR} {st0 : List Value} (hr : vx_Run p l e R s m args below meth c H locs cells slots mc' ms' (F0 m pc ls st0) rest (QXv E H.size w a) (XCx E H.size w) (AA E H.size)) (hc : cells + mc' ≤ mc ∧ slots + ms' ≤ ms) {fn : G → Option XR} (h : (w.1 = 0 ∧ fn w.2.2 = some u) ∨ (w.1 ≠ 0 ∧ w = u))
    (kk : ∀ (H1 : Heap) (locs1 : List Loc) (g1 : G), Gd E s H1 locs1 g1 [] → fn g1 = some u → W p l e R s m args below meth c H1 locs1 (cells + mc') (slots + ms') (vx_MQ below Qc (XCx E s.heap.size u) args s mc ms (AA E s.heap.size)) (F0 m (pc + 3) ls rest)) : W p l e R s m args below meth c H locs cells slots (vx_MQ below Qc (XCx E s.heap.size u) args s mc ms (AA E s.heap.size)) (F0 m pc ls st0) := by
  refine vx_callv hr hG.2.2 (fun q _ h => AA_in hG q h) (AA_in hG) (fun q _ h => AA_in hG q h) (fun En ce q9 u9 t H1 locs1 e1 hvm hpx hBX hz hk hS hce hcv hcl => ?_) (fun u9 t H1 locs1 e1 hvm hpost hB hz hk hS => ?_)
  · obtain ⟨rfl, hBX⟩ := hBX
    rcases h with ⟨h0, -⟩ | ⟨-, rfl⟩
    · exact absurd h0 hpx
    · refine vx_out (fun x hx => (ht x hx).elim) C.lk hce hcv hcl (fun t9 ht9 hvm9 => ⟨(), hpx, ⟨rfl, by rw [ht9, ← e1]; exact hBX⟩, ?_⟩) hS.2.2 hc.1 hc.2
      exact ⟨by rw [ht9]; exact hS.1, fun q q1 q2 => by rw [ht9]; exact hS.2.1 q q1 q2⟩
  · rcases h with ⟨-, h⟩ | ⟨h0, -⟩
    · exact kk H1 locs1 _ (Gd_after hG (by rw [← e1]; exact hB) hk hS) h
    · exact absurd hpost h0
theorem r_callVXV (C : Cx p s m args meth c cc n own E) (hls : ls.size = n) (hG : Gd E s H locs g []) (ht : ∀ x ∈ c.exceptionTable.toList, False) {y : MethodName} {c' : ByteArray} {n' : Nat} {rt : Option FieldType} {k mc' ms' np o ci idx N : Nat} (As : List Value) (rest : List Value) {T : u_T} {tt : Nat → FieldType} {kz : Option XR} (hC : ∀ u, kz = some u → MXv E l y c' n' rt k mc' ms' (.ref (E.ad o) :: As) g u) (hm : MLV own idx y c' n' rt np) (h6 : Cond.methodLink own idx y ∈ TB) (hk : kd o = ci) (hKC : KC ci y.cls T N tt) (hlen : As.length = np) (hR : (rmD k mc' ms').frames + 1 ≤ R.frames ∧ 8 + (n' + 11) + (rmD k mc' ms').locals ≤ R.locals) (hrest : (rest.map fun v => v.category).sum ≤ 8) (hf : cells + mc' ≤ R.cells ∧ slots + ms' ≤ R.slots) (hc : cells + mc' ≤ mc ∧ slots + ms' ≤ ms) (hst : st = As.reverse ++ .ref (E.ad o) :: rest) (hd : decode cc pc = .ok (.invokevirtual idx, 3)) {fn : G → Option XR} (h : xb kz fn = some u)
    (kk : ∀ (H1 : Heap) (locs1 : List Loc) (g1 : G), Gd E s H1 locs1 g1 [] → fn g1 = some u → W p l e R s m args below meth c H1 locs1 (cells + mc') (slots + ms') (vx_MQ below Qc (XCx E s.heap.size u) args s mc ms (AA E s.heap.size)) (F0 m (pc + 3) ls rest)) : W p l e R s m args below meth c H locs cells slots (vx_MQ below Qc (XCx E s.heap.size u) args s mc ms (AA E s.heap.size)) (F0 m pc ls st) := by
  obtain ⟨w, hw, h⟩ := xb_inv h
  have hpre := pre_ok C hG (.ref (E.ad o) :: As)
  obtain ⟨hx, hb, hml, hown, hts, hK, hN, -⟩ := id C
  obtain ⟨h1, h2, h3, h4, h5, -⟩ := hm
  have hci := KC_lt hKC
  have ho : o < NC := kd_lt hk (by omega)
  have he : (wl E g ++ [])[o]? = some (E.ad o, .inr (ci + 2, fsl E g o ci)) := by rw [wlx_at ho, cel_o hk hci]
  have hrecv := va_recv hK hG.1 (ci := ci + 2) hKC.1 he
  exact afx_V C hG ht (vx_runV (C := y.cls) (Ts := TB) ⟨hx, hb, hml, hown, hts⟩ (hC w hw H.size) ⟨callB_of np hts (gwz h1) rfl rfl rfl (hts _ h2) (hts _ h6) h5 hR, hts _ h3, hts _ h4⟩ ⟨PC_blind, hrecv, hpre⟩ rfl hlen hls hst (lv_room hrest) hd hf) hc h kk
theorem r_callSXV (C : Cx p s m args meth c cc n own E) (hls : ls.size = n) (hG : Gd E s H locs g []) (ht : ∀ x ∈ c.exceptionTable.toList, False) {y : MethodName} {c' : ByteArray} {n' : Nat} {rt : Option FieldType} {k mc' ms' np idx : Nat} (As : List Value) (rest : List Value) {kz : Option XR} (hC : ∀ u, kz = some u → MXv E l y c' n' rt k mc' ms' As g u) (hm : MLS own idx y c' n' rt np) (h6 : Cond.methodLink own idx y ∈ TB) (hlen : As.length = np) (hR : (rmD k mc' ms').frames + 1 ≤ R.frames ∧ 8 + (n' + 11) + (rmD k mc' ms').locals ≤ R.locals) (hrest : (rest.map fun v => v.category).sum ≤ 8) (hf : cells + mc' ≤ R.cells ∧ slots + ms' ≤ R.slots) (hc : cells + mc' ≤ mc ∧ slots + ms' ≤ ms) (hst : st = As.reverse ++ rest) (hd : decode cc pc = .ok (.invokestatic idx, 3)) {fn : G → Option XR} (h : xb kz fn = some u)
    (kk : ∀ (H1 : Heap) (locs1 : List Loc) (g1 : G), Gd E s H1 locs1 g1 [] → fn g1 = some u → W p l e R s m args below meth c H1 locs1 (cells + mc') (slots + ms') (vx_MQ below Qc (XCx E s.heap.size u) args s mc ms (AA E s.heap.size)) (F0 m (pc + 3) ls rest)) : W p l e R s m args below meth c H locs cells slots (vx_MQ below Qc (XCx E s.heap.size u) args s mc ms (AA E s.heap.size)) (F0 m pc ls st) := by
  obtain ⟨w, hw, h⟩ := xb_inv h
  have hpre := pre_ok C hG As
  obtain ⟨hx, hb, hml, hown, hts, hK, hN, -⟩ := id C
  obtain ⟨h1, h2, h3, h5, -⟩ := hm
  exact afx_V C hG ht (vx_runS (Ts := TB) ⟨hx, hb, hml, hown, hts⟩ (hC w hw H.size) ⟨callB_of np hts (gwz h1) rfl rfl rfl (hts _ h2) (hts _ h6) h5 hR, hts _ h3⟩ ⟨PC_blind, hpre⟩ rfl hlen hls hst (lv_room hrest) hd hf) hc h kk
end THROWS
def zrX (v : Int32) (g : G) : Option XR := if v = 0 ∨ v = 1 then some (0, v, g) else none
theorem zrX_inv {v : Int32} {g : G} {u : XR} (h : zrX v g = some u) : narrow .boolean (.int v) = .int v ∧ some ((0, v, g) : XR) = some u := by
  unfold zrX at h
  by_cases hc : v = 0 ∨ v = 1
  · rw [if_pos hc] at h
    refine ⟨?_, h⟩
    rcases hc with rfl | rfl <;> rfl
  · rw [if_neg hc] at h; cases h
theorem r_zretX {p : Program} {l : Launch} {e : Env} {R : Room} {s : State} {m : MethodId} {args : Array Value} {below : List Frame} {meth : Method} {c : Code} {H : Heap} {locs : List Loc} {cells slots mc ms : Nat} {cc : ByteArray} {n : Nat} {own : String} {E : EV} {pc : Nat} {ls : Array Slot} {g : G} {u : XR} (C : Cx p s m args meth c cc n own E) (hG : Gd E s H locs g []) (hr : meth.sig.returnType = some .boolean) {v : Int32} (hd : decode cc pc = .ok (.ireturn, 1)) (hc : cells ≤ mc ∧ slots ≤ ms) (h : zrX v g = some u) : W p l e R s m args below meth c H locs cells slots (vx_MQ below (QXr E s.heap.size u) (XCx E s.heap.size u) args s mc ms (AA E s.heap.size)) (F0 m pc ls [.int v]) :=
  r_iretX C hG hr (zrX_inv h).1 hd hc (zrX_inv h).2
end
section
/-! a method's own array of numbers, beside the world -/
def tA (E : EV) (q N : Nat) (t : Nat → Int32) : Nat × va_E := (q, .inl (E.tI, N, .inl t))
def tld {ρ : Type} (t : Nat → Int32) (n : Nat) (i : Int32) (f : Int32 → Option ρ) : Option ρ := if i < 0 ∨ n ≤ i.toNatClampNeg then none else f (t i.toNatClampNeg)
def tsto {ρ : Type} (t : Nat → Int32) (n : Nat) (i v : Int32) (f : (Nat → Int32) → Option ρ) : Option ρ := if i < 0 ∨ n ≤ i.toNatClampNeg then none else f (upd t i.toNatClampNeg v)
theorem tld_inv {ρ : Type} {t : Nat → Int32} {n : Nat} {i : Int32} {f : Int32 → Option ρ} {r : ρ} (h : tld t n i f = some r) : vp_in i n ∧ f (t i.toNatClampNeg) = some r := by
  unfold tld at h
  by_cases hc : i < 0 ∨ n ≤ i.toNatClampNeg
  · rw [if_pos hc] at h; cases h
  · rw [if_neg hc] at h; exact ⟨hc, h⟩
theorem tsto_inv {ρ : Type} {t : Nat → Int32} {n : Nat} {i v : Int32} {f : (Nat → Int32) → Option ρ} {r : ρ} (h : tsto t n i v f = some r) : vp_in i n ∧ f (upd t i.toNatClampNeg v) = some r := by
  unfold tsto at h
  by_cases hc : i < 0 ∨ n ≤ i.toNatClampNeg
  · rw [if_pos hc] at h; cases h
  · rw [if_neg hc] at h; exact ⟨hc, h⟩
section TEMPS
variable {p : Program} {l : Launch} {e : Env} {R : Room} {s : State} {m : MethodId} {args : Array Value} {below : List Frame} {meth : Method} {c : Code} {H : Heap} {locs : List Loc} {cells slots : Nat} {Q : State → Prop} {cc : ByteArray} {n : Nat} {own : String} {E : EV} {pc : Nat} {ls : Array Slot} {rest st : List Value} {g : G} {xs : va_W} {ρ : Type} {r : ρ}
theorem Gd_drop (h : Gd E s H locs g xs) : Gd E s H locs g [] := by
  obtain ⟨h1, h2, h3⟩ := h
  have key : ∀ (k : Nat) (q : Nat × va_E), (wl E g ++ [])[k]? = some q → (wl E g ++ xs)[k]? = some q := by
    intro k q hq
    rw [List.append_nil] at hq
    rw [List.getElem?_append_left (List.getElem?_eq_some_iff.mp hq).1]
    exact hq
  exact ⟨fun k q hq => h1 k q (key k q hq), ⟨fun i j a b ha hb he => h2.1 i j a b (key i a ha) (key j b hb) he, fun k q hq => h2.2 k q (key k q hq)⟩, h3⟩
theorem tyI (C : Cx p s m args meth c cc n own E) {cA : ClassId} {tys : List (ClassId × FieldType)} (hK : va_K E.D vwCl (tys ++ [(cA, .int)]) s) : cA = E.tI := by
  have h1 : s.vm.findClass ("[" ++ (FieldType.int).toString) = some cA := (hK.2 tys.length (cA, .int) (by simp)).2
  have h2 : s.vm.findClass ("[" ++ (FieldType.int).toString) = some E.tI := (C.2.2.2.2.2.1.2 0 (E.tI, .int) rfl).2
  exact Option.some.inj (h1.symm.trans h2)
theorem r_newI (C : Cx p s m args meth c cc n own E) (hG : Gd E s H locs g []) {z : Int32} (N : Nat) (hA9 : Cond.arrayClass .int ∈ TB) (hz : ¬ z < 0 ∧ z.toNatClampNeg = N) (hN : N ≤ 1000) (hcells : cells + 1 ≤ R.cells) (hslots : slots + N ≤ R.slots) (hd : decode cc pc = .ok (.newarray .int, 2))
    (kk : ∀ (q : Nat) (H1 : Heap), Gd E s H1 locs g [tA E q N (fun _ => 0)] → W p l e R s m args below meth c H1 locs (cells + 1) (slots + N) Q (F0 m (pc + 2) ls (.ref q :: rest))) : W p l e R s m args below meth c H locs cells slots Q (F0 m pc ls (.int z :: rest)) := by
  have hP := hG.1
  have hD := hG.2.1
  rw [List.append_nil] at hP hD
  refine va_newa (atype := .int) (ty := .int) (a0 := (N, .inl (fun _ => 0))) C.1 C.2.1 (C.2.2.2.2.1 _ hA9) rfl C.2.2.2.2.2.1 hP hD hG.2.2 (fun q hq => Or.inr hq) (fun cA => rfl) hz.1 hz.2 (by show N * 4 ≤ 536870912; omega) hcells hslots hd (fun q cA H1 a1 a2 a3 a4 => ?_)
  have e := tyI C a1
  subst e
  exact kk q H1 ⟨a2, a3, a4⟩
theorem tA_at {q N : Nat} {t : Nat → Int32} : (wl E g ++ [tA E q N t])[NC]? = some (q, .inl (E.tI, N, .inl t)) := by
  rw [wlx_ge (by omega), Nat.sub_self]
  rfl
theorem r_tst (C : Cx p s m args meth c cc n own E) {q N : Nat} {t : Nat → Int32} (hG : Gd E s H locs g [tA E q N t]) {i v : Int32} (hd : decode cc pc = .ok (.iastore, 1)) {fn : (Nat → Int32) → Option ρ} (h : tsto t N i v fn = some r)
    (kk : ∀ (t1 : Nat → Int32) (H1 : Heap) (locs1 : List Loc), Gd E s H1 locs1 g [tA E q N t1] → fn t1 = some r → W p l e R s m args below meth c H1 locs1 cells slots Q (F0 m (pc + 1) ls rest)) : W p l e R s m args below meth c H locs cells slots Q (F0 m pc ls (.int v :: .int i :: .ref q :: rest)) := by
  obtain ⟨hin, h⟩ := tsto_inv h
  have hset : (wl E g ++ [tA E q N t]).set NC (q, .inl (E.tI, N, .inl (upd t i.toNatClampNeg v))) = wl E g ++ [tA E q N (upd t i.toNatClampNeg v)] := by
    rw [List.set_append, if_neg (by rw [wl_len]; omega), wl_len]
    rfl
  refine va_iast C.1 C.2.1 C.2.2.2.2.2.1 hG.1 hG.2.1 hG.2.2 NC 0 tA_at rfl hin hd (fun H1 locs1 a1 a2 a3 => ?_)
  rw [hset] at a1 a2
  exact kk _ H1 locs1 ⟨a1, a2, a3⟩ h
theorem r_tld (C : Cx p s m args meth c cc n own E) {q N : Nat} {t : Nat → Int32} (hG : Gd E s H locs g [tA E q N t]) {i : Int32} (hd : decode cc pc = .ok (.iaload, 1)) {fn : Int32 → Option ρ} (h : tld t N i fn = some r)
    (kk : ∀ x : Int32, fn x = some r → W p l e R s m args below meth c H locs cells slots Q (F0 m (pc + 1) ls (.int x :: rest))) : W p l e R s m args below meth c H locs cells slots Q (F0 m pc ls (.int i :: .ref q :: rest)) := by
  obtain ⟨hin, h⟩ := tld_inv h
  exact va_iald C.1 C.2.1 C.2.2.2.2.2.1 hG.1 NC 0 tA_at rfl hin hd (kk _ h)
theorem r_tln (C : Cx p s m args meth c cc n own E) {q N : Nat} {t : Nat → Int32} (hG : Gd E s H locs g [tA E q N t]) {v : Int32} (hv : Int32.ofNat N = v) (hd : decode cc pc = .ok (.arraylength, 1))
    (kk : W p l e R s m args below meth c H locs cells slots Q (F0 m (pc + 1) ls (.int v :: rest))) : W p l e R s m args below meth c H locs cells slots Q (F0 m pc ls (.ref q :: rest)) :=
  va_alen C.1 C.2.1 C.2.2.2.2.2.1 hG.1 NC 0 tA_at rfl hv hd kk
end TEMPS
end
section
/-! doubles: a quotient that is no NaN -/
def ddv {ρ : Type} (x y : UInt64) (f : UInt64 → Option ρ) : Option ρ := if FP.ddiv x y &&& 0x7fffffffffffffff ≤ 0x7ff0000000000000 then f (FP.ddiv x y) else none
theorem ddv_inv {ρ : Type} {x y : UInt64} {f : UInt64 → Option ρ} {r : ρ} (h : ddv x y f = some r) : vf_n64 (FP.ddiv x y) ∧ f (FP.ddiv x y) = some r := by
  unfold ddv at h
  by_cases hc : FP.ddiv x y &&& 0x7fffffffffffffff ≤ 0x7ff0000000000000
  · rw [if_pos hc] at h; exact ⟨hc, h⟩
  · rw [if_neg hc] at h; cases h
def QD (E : EV) (sz : Nat) (r : UInt64) (g : G) : Array Value → State → Outcome → State → Prop := va_Qd (fun (r' : UInt64) (_ : Unit) => r' = r) (PT E g) (AA E sz)
abbrev MD (E : EV) (l : Launch) (y : MethodName) (c : ByteArray) (n : Nat) (rt : Option FieldType) (k mc ms : Nat) (av : List Value) (g : G) (u : UInt64 × G) : Prop := MG E l y c n rt k mc ms av g (fun sz => QD E sz u.1 u.2)
section DBL
variable {p : Program} {l : Launch} {e : Env} {R : Room} {s : State} {m : MethodId} {args : Array Value} {below : List Frame} {meth : Method} {c : Code} {H : Heap} {locs : List Loc} {cells slots : Nat} {Q : State → Prop} {cc : ByteArray} {n : Nat} {own : String} {E : EV} {pc : Nat} {ls : Array Slot} {rest st : List Value} {g : G} {xs : va_W} {ρ : Type} {r : ρ}
theorem r_ddiv (C : Cx p s m args meth c cc n own E) {x y : UInt64} (hd : decode cc pc = .ok (.ddiv, 1)) {fn : UInt64 → Option ρ} (h : ddv x y fn = some r) (kk : ∀ z : UInt64, fn z = some r → W p l e R s m args below meth c H locs cells slots Q (F0 m (pc + 1) ls (.double z :: rest))) : W p l e R s m args below meth c H locs cells slots Q (F0 m pc ls (.double y :: .double x :: rest)) := by
  obtain ⟨h0, h1⟩ := ddv_inv h
  exact lv_ddiv C.1 C.2.1 hd h0 (kk _ h1)
theorem r_dret (C : Cx p s m args meth c cc n own E) (hG : Gd E s H locs g []) (hr : meth.sig.returnType = some .double) {v : UInt64} {u : UInt64 × G} (hd : decode cc pc = .ok (.dreturn, 1)) (h : some (v, g) = some u) : W p l e R s m args below meth c H locs cells slots (MQ below (QD E s.heap.size u.1 u.2) args s cells slots (AA E s.heap.size)) (F0 m pc ls [.double v]) := by
  cases h
  have hl : meth.locks = false := C.2.2.2.2.2.2.2.1
  have hP := hG.1
  rw [List.append_nil] at hP
  exact W.dret C.1 C.2.1 hr (fun t ht hW => ⟨⟨v, (), rfl, rfl, by show va_P _ _ _ t.heap; rw [ht]; exact hP⟩, hG.2.2.F ht⟩) hG.2.2.2.2 hd hl
theorem af_D (hG : Gd E s H locs g xs) {mc ms : Nat} {a : Array Value} {u : UInt64 × G} {st0 : List Value} (hr : va_Run p l e R s m args below meth c H locs cells slots mc ms (F0 m pc ls st0) rest (QD E H.size u.1 u.2 a) (AA E H.size))
    (kk : ∀ (H1 : Heap) (locs1 : List Loc), Gd E s H1 locs1 u.2 xs → W p l e R s m args below meth c H1 locs1 (cells + mc) (slots + ms) Q (F0 m (pc + 3) ls (.double u.1 :: rest))) : W p l e R s m args below meth c H locs cells slots Q (F0 m pc ls st0) := by
  refine va_calld hr hG.2.2 (fun q _ h => AA_in hG q h) (AA_in hG) (fun r9 u9 t H1 locs1 ht hvm hw hB hz hk hS => ?_)
  have hw : r9 = u.1 := hw
  subst hw
  exact kk H1 locs1 (Gd_after hG (by rw [← ht]; exact hB) hk hS)
end DBL
end
section
/-! constructors: worlds as written lists -/
def Hd (D : va_G) (A : Nat → Prop) (s : State) (H : Heap) (locs : List Loc) (ws : va_W) : Prop := va_P D vwCl ws H ∧ va_D A ws ∧ va_S A s.heap H locs
abbrev tysOf (tI tB : ClassId) : List (ClassId × FieldType) := [(tI, .int), (tB, .byte)]
def PC0 (D : va_G) (tI tB : ClassId) (sz : Nat) (av : List Value) (ws : va_W) : Array Value → State → Prop := va_Pc av (fun U => U.heap.size = sz ∧ va_P D vwCl ws U.heap ∧ va_K D vwCl (tysOf tI tB) U ∧ va_D (fun _ => True) ws ∧ NK U)
def MC (D : va_G) (tI tB : ClassId) (l : Launch) (y : MethodName) (c : ByteArray) (n k mc ms : Nat) (av : List Value) (ws : va_W) (B : (Nat → Prop) → Heap → Prop) : Prop := ∀ sz, Met l y (wz y c n none) (rmD k mc ms) (PC0 D tI tB sz av ws) (va_Qv (fun (_ : Unit) => True) (fun _ t => B (va_A ws sz) t.heap) (va_A ws sz)) mc ms (va_A ws sz)
def C0 (p : Program) (s : State) (m : MethodId) (args : Array Value) (meth : Method) (c : Code) (cc : ByteArray) (n : Nat) (own : String) (D : va_G) (tI tB : ClassId) (A : Nat → Prop) : Prop :=
  p.tables.exec = Jvm.exec ∧ c.code = cc ∧ c.maxLocals = n ∧ s.vm.findClass own = some m.cls ∧ (∀ w ∈ TB, w.before args s = true) ∧ va_K D vwCl (tysOf tI tB) s ∧ NK s ∧ meth.locks = false ∧ ∀ q, s.heap.size ≤ q → A q
theorem PC0_blind {D : va_G} {tI tB : ClassId} {sz : Nat} {av : List Value} {ws : va_W} : FrameBlind (PC0 D tI tB sz av ws) := by
  intro a U f mk h
  obtain ⟨h0, h1, h2, h3, h4, h5⟩ := h
  exact ⟨h0, h1, h2, va_K.moved (u := U) (U := U.calling f mk a) (Vm.Alike.refl U.vm) h3, h4, fun w hw => Nw_same (u := U) rfl hw (h5 w hw)⟩
theorem MC.of {D : va_G} {tI tB : ClassId} {l : Launch} {y : MethodName} {cc : ByteArray} {n k mc ms : Nat} {av : List Value} {ws : va_W} {B : (Nat → Prop) → Heap → Prop} (hy : plainName y.cls = true) (hn : (lg_sl av).length ≤ n)
    (body : ∀ (p : Program) (e : Env) (s : State) (m : MethodId) (args : Array Value) (below : List Frame) (meth : Method) (c : Code) (A : Nat → Prop), C0 p s m args meth c cc n y.cls D tI tB A → meth.sig.returnType = none → meth.name = y.name → ∀ ls : Array Slot, lv_has ls n (lv_args 0 av) → Hd D A s s.heap [] ws →
      W p l e (rmD k mc ms) s m args below meth c s.heap [] 0 0 (MQ below (va_Qv (fun (_ : Unit) => True) (fun _ t => B A t.heap) A) args s mc ms A) (F0 m 0 ls [])) : MC D tI tB l y cc n k mc ms av ws B := by
  intro sz
  refine Met.ofW (cc := cc) (maxL := n) (ret := none) hy rfl ?_
  intro p e s m args below meth c s₁ B9 hml hv
  obtain ⟨rfl, rfl, h2, h3, h4, h5⟩ := hv
  have hts := atoms_spec (ws := wz y cc n none) B9.pre
  have hown : s.vm.findClass y.cls = some m.cls := findClass_of_methodNamed B9.named
  rw [lg_entry_eq]
  exact body p e s m _ below meth c (va_A ws s.heap.size) ⟨B9.exec, B9.bytes, hml, hown, fun w hw => hts w (List.mem_cons_of_mem _ hw), h3, h5, B9.notSynchronized, fun q hq => Or.inr hq⟩ B9.returns (name_of_methodNamed B9.named B9.method).1 _ (lv_entry av hn) ⟨h2, h4.self, va_S.rf⟩
section CTORS
variable {p : Program} {l : Launch} {e : Env} {R : Room} {s : State} {m : MethodId} {args : Array Value} {below : List Frame} {meth : Method} {c : Code} {H : Heap} {locs : List Loc} {cells slots : Nat} {Q : State → Prop} {cc : ByteArray} {n : Nat} {own : String} {pc : Nat} {ls : Array Slot} {rest st : List Value} {D : va_G} {tI tB : ClassId} {A : Nat → Prop} {ws : va_W}
theorem r0_obj (C : C0 p s m args meth c cc n own D tI tB A) (hls : ls.size = n) {idx a : Nat} (h1 : Cond.methodLink own idx Lib.objectInit ∈ TB) (h2 : Cond.instanceMethod Lib.objectInit ∈ TB) (h3 : Cond.code Lib.objectInit ⟨#[0xb1]⟩ 1 none ∈ TB) (hR : 1 ≤ R.frames ∧ (rest.map fun v => v.category).sum + 12 ≤ R.locals) (hd : decode cc pc = .ok (.invokespecial idx, 3))
    (kk : W p l e R s m args below meth c H locs cells slots Q (F0 m (pc + 3) ls rest)) : W p l e R s m args below meth c H locs cells slots Q (F0 m pc ls (.ref a :: rest)) := by
  obtain ⟨hx, hb, hml, hown, hts, -⟩ := C
  refine W.objInit hx hb hown (hts _ h1) (hts _ h2) (hts _ h3) rfl (hls.trans hml.symm) rfl hd hR.1 (by have := hR.2; simpa [JFrame.monitorRoom] using this) ?_
  exact W.eq (g2 := F0 m (pc + 3) ls rest) rfl kk
theorem tyI0 (C : C0 p s m args meth c cc n own D tI tB A) {cA : ClassId} {tys : List (ClassId × FieldType)} (hK : va_K D vwCl (tys ++ [(cA, .int)]) s) : cA = tI := by
  have h1 : s.vm.findClass ("[" ++ (FieldType.int).toString) = some cA := (hK.2 tys.length (cA, .int) (by simp)).2
  have h2 : s.vm.findClass ("[" ++ (FieldType.int).toString) = some tI := (C.2.2.2.2.2.1.2 0 (tI, .int) rfl).2
  exact Option.some.inj (h1.symm.trans h2)
theorem tyB0 (C : C0 p s m args meth c cc n own D tI tB A) {cA : ClassId} {tys : List (ClassId × FieldType)} (hK : va_K D vwCl (tys ++ [(cA, .byte)]) s) : cA = tB := by
  have h1 : s.vm.findClass ("[" ++ (FieldType.byte).toString) = some cA := (hK.2 tys.length (cA, .byte) (by simp)).2
  have h2 : s.vm.findClass ("[" ++ (FieldType.byte).toString) = some tB := (C.2.2.2.2.2.1.2 1 (tB, .byte) rfl).2
  exact Option.some.inj (h1.symm.trans h2)
theorem r0_newI (C : C0 p s m args meth c cc n own D tI tB A) (hH : Hd D A s H locs ws) {z : Int32} (N : Nat) (hA9 : Cond.arrayClass .int ∈ TB) (hz : ¬ z < 0 ∧ z.toNatClampNeg = N) (hN : N ≤ 3000) (hcells : cells + 1 ≤ R.cells) (hslots : slots + N ≤ R.slots) (hd : decode cc pc = .ok (.newarray .int, 2))
    (kk : ∀ (q : Nat) (H1 : Heap), Hd D A s H1 locs (ws ++ [(q, .inl (tI, N, .inl (fun _ => 0)))]) → W p l e R s m args below meth c H1 locs (cells + 1) (slots + N) Q (F0 m (pc + 2) ls (.ref q :: rest))) : W p l e R s m args below meth c H locs cells slots Q (F0 m pc ls (.int z :: rest)) := by
  refine va_newa (atype := .int) (ty := .int) (a0 := (N, .inl (fun _ => 0))) C.1 C.2.1 (C.2.2.2.2.1 _ hA9) rfl C.2.2.2.2.2.1 hH.1 hH.2.1 hH.2.2 C.2.2.2.2.2.2.2.2 (fun cA => rfl) hz.1 hz.2 (by show N * 4 ≤ 536870912; omega) hcells hslots hd (fun q cA H1 a1 a2 a3 a4 => ?_)
  have e := tyI0 C a1
  subst e
  exact kk q H1 ⟨a2, a3, a4⟩
theorem r0_newB (C : C0 p s m args meth c cc n own D tI tB A) (hH : Hd D A s H locs ws) {z : Int32} (N : Nat) (hA9 : Cond.arrayClass .byte ∈ TB) (hz : ¬ z < 0 ∧ z.toNatClampNeg = N) (hN : N ≤ 3000) (hcells : cells + 1 ≤ R.cells) (hslots : slots + N ≤ R.slots) (hd : decode cc pc = .ok (.newarray .byte, 2))
    (kk : ∀ (q : Nat) (H1 : Heap), Hd D A s H1 locs (ws ++ [(q, .inl (tB, N, .inl (fun _ => 0)))]) → W p l e R s m args below meth c H1 locs (cells + 1) (slots + N) Q (F0 m (pc + 2) ls (.ref q :: rest))) : W p l e R s m args below meth c H locs cells slots Q (F0 m pc ls (.int z :: rest)) := by
  refine va_newa (atype := .byte) (ty := .byte) (a0 := (N, .inl (fun _ => 0))) C.1 C.2.1 (C.2.2.2.2.1 _ hA9) rfl C.2.2.2.2.2.1 hH.1 hH.2.1 hH.2.2 C.2.2.2.2.2.2.2.2 (fun cA => rfl) hz.1 hz.2 (by show N * 1 ≤ 536870912; omega) hcells hslots hd (fun q cA H1 a1 a2 a3 a4 => ?_)
  have e := tyB0 C a1
  subst e
  exact kk q H1 ⟨a2, a3, a4⟩
theorem r0_new (C : C0 p s m args meth c cc n own D tI tB A) (hH : Hd D A s H locs ws) {ci N idx : Nat} {cn : String} {T : u_T} {tt : Nat → FieldType} (hKC : KC ci cn T N tt) (fs : List Value) (h1 : Cond.classLink own idx cn ∈ TB) (h2 : Cond.instantiable cn N ∈ TB) (h3 : Cond.initialized cn ∈ TB) (hfs : ∀ j, j < N → defaultValue (tt j) = vp_V fs j) (hcells : cells + 1 ≤ R.cells) (hslots : slots + N ≤ R.slots) (hd : decode cc pc = .ok (.new idx, 3))
    (kk : ∀ (q : Nat) (H1 : Heap), Hd D A s H1 locs (ws ++ [(q, .inr (ci + 2, fs))]) → W p l e R s m args below meth c H1 locs (cells + 1) (slots + N) Q (F0 m (pc + 3) ls (.ref q :: rest))) : W p l e R s m args below meth c H locs cells slots Q (F0 m pc ls rest) := by
  obtain ⟨hc, hin, hty, -, -⟩ := hKC
  exact va_new (ci := ci + 2) (fs := fs) (C := cn) (T := T) (N := N) C.1 C.2.1 C.2.2.2.2.1 hin tt hty C.2.2.2.1 (C.2.2.2.2.1 _ h1) (C.2.2.2.2.1 _ h2) (C.2.2.2.2.1 _ h3) C.2.2.2.2.2.1 hH.1 hH.2.1 hH.2.2 C.2.2.2.2.2.2.2.2 hc hfs hcells hslots hd (fun q H1 a1 a2 a3 => kk q H1 ⟨a1, a2, a3⟩)
theorem r0_get (C : C0 p s m args meth c cc n own D tI tB A) (hH : Hd D A s H locs ws) {index ci k a : Nat} {fin : Bool} {ty : FieldType} (f : FL own index ci k fin ty) (q0 : Nat) {fs : List Value} (he : ws[q0]? = some (a, .inr (ci + 2, fs))) {v : Value} (hv : fs[k]? = some v) (hd : decode cc pc = .ok (.getfield index, 3))
    (kk : W p l e R s m args below meth c H locs cells slots Q (F0 m (pc + 3) ls (v :: rest))) : W p l e R s m args below meth c H locs cells slots Q (F0 m pc ls (.ref a :: rest)) := by
  obtain ⟨hx, hb, -, hown, hts, hK, hN, -⟩ := C
  obtain ⟨cn, T, N, tt, hKC, hk', -, -, hl⟩ := f
  obtain ⟨hc, hin, -, -, hn⟩ := hKC
  rcases hl with hl | ⟨host, hl⟩
  · exact va_get (D := D) (ci := ci + 2) (C := cn) (T := T) (N := N) hx hb hts hin hown hK hH.1 q0 he hc k hk' (hts _ hl) (fun _ h9 => h9) hv hd kk
  · exact va_getN (D := D) (ci := ci + 2) (C := cn) (T := T) (N := N) hx hb hts hin hown hK hH.1 q0 he hc k hk' (va_Nw.use rfl (hN _ hl)) (fun _ h9 => h9) hv hd kk
theorem r0_put (C : C0 p s m args meth c cc n own D tI tB A) (hH : Hd D A s H locs ws) {index ci k a : Nat} {ty : FieldType} {v : Value} {cn : String} {T : u_T} {N : Nat} {tt : Nat → FieldType} (hKC : KC ci cn T N tt) (hk' : k < N) (hf : (T k).2.2.2 = false) (htt : tt k = ty) (hl : Cond.fieldLink own index (T k).1 (T k).2.1 (T k).2.2.1 ∈ TB) (q0 : Nat) {fs : List Value} (he : ws[q0]? = some (a, .inr (ci + 2, fs))) (hn : narrow ty v = v) (hfit : fits ty v = true) (hlen : k < fs.length) (hd : decode cc pc = .ok (.putfield index, 3))
    (kk : ∀ (H1 : Heap) (locs1 : List Loc), Hd D A s H1 locs1 (ws.set q0 (a, .inr (ci + 2, fs.set k v))) → W p l e R s m args below meth c H1 locs1 cells slots Q (F0 m (pc + 3) ls rest)) : W p l e R s m args below meth c H locs cells slots Q (F0 m pc ls (v :: .ref a :: rest)) := by
  obtain ⟨hx, hb, -, hown, hts, hK, -⟩ := C
  obtain ⟨hc, hin, hty, hnm, hn2⟩ := hKC
  exact va_put (D := D) (ci := ci + 2) (C := cn) (T := T) (N := N) hx hb hts hin tt hty hnm hown hK hH.1 hH.2.1 hH.2.2 q0 he hc k hk' (hts _ hl) (fun _ h9 => h9) hf (by rw [hty k hk', htt]) hn hfit hlen hd (fun H1 locs1 a1 a2 a3 => kk H1 locs1 ⟨a1, a2, a3⟩)
theorem r0_putF (C : C0 p s m args meth c cc n own D tI tB A) (hnm9 : meth.name = "<init>") (hH : Hd D A s H locs ws) {index ci k a : Nat} {ty : FieldType} {v : Value} {cn : String} {T : u_T} {N : Nat} {tt : Nat → FieldType} (hKC : KC ci cn T N tt) (hk' : k < N) (hf : (T k).2.2.2 = true) (htt : tt k = ty) (ho : (T k).1 = own) (hl : Cond.fieldLink own index (T k).1 (T k).2.1 (T k).2.2.1 ∈ TB) (q0 : Nat) {fs : List Value} (he : ws[q0]? = some (a, .inr (ci + 2, fs))) (hn : narrow ty v = v) (hfit : fits ty v = true) (hlen : k < fs.length) (hd : decode cc pc = .ok (.putfield index, 3))
    (kk : ∀ (H1 : Heap) (locs1 : List Loc), Hd D A s H1 locs1 (ws.set q0 (a, .inr (ci + 2, fs.set k v))) → W p l e R s m args below meth c H1 locs1 cells slots Q (F0 m (pc + 3) ls rest)) : W p l e R s m args below meth c H locs cells slots Q (F0 m pc ls (v :: .ref a :: rest)) := by
  obtain ⟨hx, hb, -, hown, hts, hK, -⟩ := C
  obtain ⟨hc, hin, hty, hnm, hn2⟩ := hKC
  exact va_putF (D := D) (ci := ci + 2) (C := cn) (T := T) (N := N) hx hb hts hin tt hty hnm hown hK hH.1 hH.2.1 hH.2.2 q0 he hc k hk' (hts _ hl) (fun _ h9 => h9) hf hnm9 ho (by rw [hty k hk', htt]) hn hfit hlen hd (fun H1 locs1 a1 a2 a3 => kk H1 locs1 ⟨a1, a2, a3⟩)
theorem r0_call (C : C0 p s m args meth c cc n own D tI tB A) (hls : ls.size = n) (hH : Hd D A s H locs ws) {y : MethodName} {c' : ByteArray} {n' k mc ms np a idx : Nat} {cel9 : va_E} (As rest : List Value) {B : (Nat → Prop) → Heap → Prop} (hM : MC D tI tB l y c' n' k mc ms (.ref a :: As) [(a, cel9)] B) (h1 : Cond.code y c' n' none ∈ TB) (h2 : Cond.initialized y.cls ∈ TB) (h3 : Cond.instanceMethod y ∈ TB) (h5 : hdOk y np) (h4 : y.name = "<init>") (h6 : Cond.methodLink own idx y ∈ TB ∨ ∃ host, Cond.methodLinkNest own idx y host ∈ NB)
    (hlen : As.length = np) (hR : (rmD k mc ms).frames + 1 ≤ R.frames ∧ 8 + (n' + 11) + (rmD k mc ms).locals ≤ R.locals) (hrest : (rest.map fun v => v.category).sum ≤ 8) (hf : cells + mc ≤ R.cells ∧ slots + ms ≤ R.slots) (hst : st = As.reverse ++ .ref a :: rest) (hd : decode cc pc = .ok (.invokespecial idx, 3)) (i : Nat) (he : ws[i]? = some (a, cel9)) (isR : List Nat) (wr : va_W) (hr9 : isR.map (fun i => ws[i]?) = wr.map some) (hn9 : va_nd isR = true) (hdis : ∀ j ∈ isR, j ∉ [i])
    (kk : ∀ (H1 : Heap) (locs1 : List Loc), B (va_A [(a, cel9)] H.size) H1 → (∀ w1 : va_W, va_P D vwCl w1 H1 → va_D (va_A [(a, cel9)] H.size) w1 → Hd D A s H1 locs1 (wr ++ w1)) → W p l e R s m args below meth c H1 locs1 (cells + mc) (slots + ms) Q (F0 m (pc + 3) ls rest)) : W p l e R s m args below meth c H locs cells slots Q (F0 m pc ls st) := by
  obtain ⟨hx, hb, hml, hown, hts, hK, hN, hlk, hA⟩ := id C
  have hC : [i].map (fun i => ws[i]?) = [(a, cel9)].map some := by simp [he]
  have hPc := hH.1.sub (ws' := [(a, cel9)]) [i] (by simp [he])
  have hDc := hH.2.1.sub (ws' := [(a, cel9)]) [i] rfl hC
  have hFc := va_free (wc := [(a, cel9)]) hH.2.1 hH.2.2 hA [i] hC
  have hpre : PreS s H (PC0 D tI tB H.size (.ref a :: As) [(a, cel9)]) (.ref a :: As) := ⟨PC0_blind, fun U hU hW => ⟨rfl, by rw [hU], by rw [hU]; exact hPc, va_K.moved hW.alike hK, hDc.weaken (fun _ _ _ _ => trivial), fun w hw => Nw_warm hW hw (hN w hw)⟩⟩
  have key : va_Run p l e R s m args below meth c H locs cells slots mc ms (F0 m pc ls st) rest (va_Qv (fun (_ : Unit) => True) (fun _ t => B (va_A [(a, cel9)] H.size) t.heap) (va_A [(a, cel9)] H.size) (Value.ref a :: As).toArray) (va_A [(a, cel9)] H.size) := by
    rcases h6 with h6 | ⟨host, h6⟩
    · exact va_runI (Ts := TB) ⟨hx, hb, hml, hown, hts⟩ (hM H.size) ⟨callB_of np hts (gwz h1) rfl rfl rfl (hts _ h2) (hts _ h6) h5 hR, h4, hts _ h3⟩ hpre rfl hlen hls hst (lv_room hrest) hd hf
    · exact va_runIN (Ts := TB) (host := host) ⟨hx, hb, hml, hown, hts⟩ (hM H.size) ⟨va_cnB np hts (gwz h1) rfl rfl rfl (hN _ h6) (hts _ h2) h5 hR, h4, hts _ h3⟩ hpre rfl hlen hls hst (lv_room hrest) hd hf
  refine va_callv key hH.2.2 (fun q _ h => hFc q h) hFc (fun u9 t H1 locs1 ht hvm hw hB hz hk hS => ?_)
  rw [ht] at hB
  refine kk H1 locs1 hB (fun w1 b1 b2 => ?_)
  obtain ⟨j1, j2⟩ := va_join (wr := wr) (w1 := w1) hH.1 hH.2.1 [i] isR hC hr9 hn9 hdis hk hFc b1 b2
  exact ⟨j1, j2, hS⟩
theorem r0_ret (C : C0 p s m args meth c cc n own D tI tB A) (hH : Hd D A s H locs ws) (hr : meth.sig.returnType = none) {mc ms : Nat} (hc : cells ≤ mc ∧ slots ≤ ms) {B : (Nat → Prop) → Heap → Prop} (hB : B A H) (hd : decode cc pc = .ok (.return_, 1)) : W p l e R s m args below meth c H locs cells slots (MQ below (va_Qv (fun (_ : Unit) => True) (fun _ t => B A t.heap) A) args s mc ms A) (F0 m pc ls []) := by
  have hl : meth.locks = false := C.2.2.2.2.2.2.2.1
  exact W.widen hc.1 hc.2 (W.vret C.1 C.2.1 hr (fun t ht hW => ⟨⟨(), rfl, trivial, by show B A t.heap; rw [ht]; exact hB⟩, hH.2.2.F ht⟩) hH.2.2.2.2 hd hl)
end CTORS
end
section
/-! the law's own objects: a store that grows. A reference is a number: 0 null, 2 i + 1 the i-th object of the store, 2 k + 2 the k-th String constant.
A store: the class's world, how many objects, what each is (below 15 its class; 100000 + n an int row, 200000 + n bytes, 300000 + n booleans, 400000 + n rows of int, 500000 + n orders), their numbers, their references, the cells and slots that are left -/
abbrev ZS : Type := G × Nat × (Nat → Nat) × G × (Nat → Nat → Nat) × Nat × Nat
abbrev ZS.g (S : ZS) : G := S.1
abbrev ZS.n (S : ZS) : Nat := S.2.1
abbrev ZS.K (S : ZS) : Nat → Nat := S.2.2.1
abbrev ZS.i (S : ZS) : G := S.2.2.2.1
abbrev ZS.r (S : ZS) : Nat → Nat → Nat := S.2.2.2.2.1
abbrev ZS.c (S : ZS) : Nat := S.2.2.2.2.2.1
abbrev ZS.w (S : ZS) : Nat := S.2.2.2.2.2.2
def ur (r : Nat → Nat → Nat) (o k c : Nat) : Nat → Nat → Nat := fun o' k' => if o' = o ∧ k' = k then c else r o' k'
def ZS.wg (S : ZS) (g : G) : ZS := (g, S.2)
def ZS.wi (S : ZS) (o k : Nat) (v : Int32) : ZS := (S.g, S.n, S.K, up S.i o k v, S.r, S.c, S.w)
def ZS.wa (S : ZS) (o : Nat) (f : Nat → Int32) : ZS := (S.g, S.n, S.K, fun o' => if o' = o then f else S.i o', S.r, S.c, S.w)
def ZS.wr (S : ZS) (o k c : Nat) : ZS := (S.g, S.n, S.K, S.i, ur S.r o k c, S.c, S.w)
def ZS.new (S : ZS) (kind slots : Nat) (f : Nat → Int32) : ZS := (S.g, S.n + 1, (fun j => if j = S.n then kind else S.K j), (fun o => if o = S.n then f else S.i o), (fun o => if o = S.n then (fun _ => 0) else S.r o), S.c - 1, S.w - slots)
def ZS.use (S : ZS) (a b : Nat) : ZS := (S.g, S.n, S.K, S.i, S.r, S.c - a, S.w - b)
def z0 : Nat → Int32 := fun _ => 0
/-- which fields are references: String, StringBuilder, .., Dice, Node, Order, Train -/
def dskL : List (List Nat) := [[1, 0, 0, 0], [1, 0, 0, 0], [], [], [], [], [], [], [], [], [], [0], [0, 0, 1, 1], [0, 0, 1, 1], [0, 0, 1, 1, 1, 0, 0, 0, 1]]
def dsk (ci k : Nat) : Nat := (dskL.getD ci []).getD k 0
def dns (ci : Nat) : Nat := (dskL.getD ci []).length
def rA (E : EV) (ad : Nat → Nat) (c : Nat) : Nat := if c % 2 = 1 then ad (c / 2) else E.aK (c / 2 - 1)
def ro (E : EV) (ad : Nat → Nat) (c : Nat) : Option Nat := if c = 0 then none else some (rA E ad c)
def rv (E : EV) (ad : Nat → Nat) (c : Nat) : Value := va_rf (ro E ad c)
def dval (E : EV) (ad : Nat → Nat) (S : ZS) (o ci k : Nat) : Value := if dsk ci k = 1 then rv E ad (S.r o k) else .int (S.i o k)
def dfs (E : EV) (ad : Nat → Nat) (S : ZS) (o ci : Nat) : List Value := (List.range (dns ci)).map (fun k => dval E ad S o ci k)
def dcel (E : EV) (ad : Nat → Nat) (S : ZS) (o : Nat) : va_E :=
  if S.K o < 15 then .inr (S.K o, dfs E ad S o (S.K o)) else if S.K o < 200000 then .inl (E.tI, S.K o - 100000, .inl (S.i o)) else if S.K o < 300000 then .inl (E.tB, S.K o - 200000, .inl (S.i o)) else if S.K o < 400000 then .inl (E.tX 0, S.K o - 300000, .inl (S.i o))
  else if S.K o < 500000 then .inl (E.tX 1, S.K o - 400000, .inr (.inr (.inr (.inr (fun j => ro E ad (S.r o j)))))) else .inl (E.tX 2, S.K o - 500000, .inr (.inr (.inr (.inr (fun j => ro E ad (S.r o j))))))
def dl (E : EV) (ad : Nat → Nat) (S : ZS) : va_W := (List.range S.n).map (fun o => (ad o, dcel E ad S o))
def wd (E : EV) (ad : Nat → Nat) (S : ZS) : va_W := wl E S.g ++ dl E ad S
theorem dl_len {E : EV} {ad : Nat → Nat} {S : ZS} : (dl E ad S).length = S.n := by simp [dl]
theorem dl_at {E : EV} {ad : Nat → Nat} {S : ZS} {o : Nat} (ho : o < S.n) : (dl E ad S)[o]? = some (ad o, dcel E ad S o) := by
  unfold dl
  rw [List.getElem?_map, List.getElem?_range ho]
  rfl
theorem wd_len {E : EV} {ad : Nat → Nat} {S : ZS} : (wd E ad S).length = NC + S.n := by
  unfold wd
  rw [List.length_append, wl_len, dl_len]
theorem wd_at {E : EV} {ad : Nat → Nat} {S : ZS} {o : Nat} (ho : o < S.n) : (wd E ad S)[NC + o]? = some (ad o, dcel E ad S o) := by
  unfold wd
  rw [wlx_ge (by omega), Nat.add_sub_cancel_left, dl_at ho]
theorem wd_cl {E : EV} {ad : Nat → Nat} {S : ZS} {o : Nat} (ho : o < NC) : (wd E ad S)[o]? = some (E.ad o, cel E S.g o) := wlx_at ho
theorem wd_inv {E : EV} {ad : Nat → Nat} {S : ZS} {k : Nat} {q : Nat × va_E} (h : (wd E ad S)[k]? = some q) : (k < NC ∧ q = (E.ad k, cel E S.g k)) ∨ ∃ o, o < S.n ∧ k = NC + o ∧ q = (ad o, dcel E ad S o) := by
  by_cases hk : k < NC
  · rw [wd_cl hk] at h
    exact Or.inl ⟨hk, (Option.some.inj h).symm⟩
  · have hl : k < NC + S.n := by
      have := (List.getElem?_eq_some_iff.mp h).1
      rwa [wd_len] at this
    obtain ⟨o, rfl⟩ : ∃ o, k = NC + o := ⟨k - NC, by omega⟩
    rw [wd_at (by omega)] at h
    exact Or.inr ⟨o, by omega, rfl, (Option.some.inj h).symm⟩
theorem dfs_len {E : EV} {ad : Nat → Nat} {S : ZS} {o ci : Nat} : (dfs E ad S o ci).length = dns ci := by simp [dfs]
theorem dfs_at {E : EV} {ad : Nat → Nat} {S : ZS} {o ci k : Nat} (hk : k < dns ci) : (dfs E ad S o ci)[k]? = some (dval E ad S o ci k) := by
  unfold dfs
  rw [List.getElem?_map, List.getElem?_range hk]
  rfl
theorem dcel_o {E : EV} {ad : Nat → Nat} {S : ZS} {o ci : Nat} (h : S.K o = ci) (hc : ci < 15) : dcel E ad S o = .inr (ci, dfs E ad S o ci) := by
  unfold dcel
  rw [h, if_pos hc]
theorem dcel_i {E : EV} {ad : Nat → Nat} {S : ZS} {o m : Nat} (h : S.K o = 100000 + m) (hm : m < 100000) : dcel E ad S o = .inl (E.tI, m, .inl (S.i o)) := by
  unfold dcel
  rw [h, if_neg (by omega), if_pos (by omega), Nat.add_sub_cancel_left]
theorem dcel_b {E : EV} {ad : Nat → Nat} {S : ZS} {o m : Nat} (h : S.K o = 200000 + m) (hm : m < 100000) : dcel E ad S o = .inl (E.tB, m, .inl (S.i o)) := by
  unfold dcel
  rw [h, if_neg (by omega), if_neg (by omega), if_pos (by omega), Nat.add_sub_cancel_left]
theorem dcel_z {E : EV} {ad : Nat → Nat} {S : ZS} {o m : Nat} (h : S.K o = 300000 + m) (hm : m < 100000) : dcel E ad S o = .inl (E.tX 0, m, .inl (S.i o)) := by
  unfold dcel
  rw [h, if_neg (by omega), if_neg (by omega), if_neg (by omega), if_pos (by omega), Nat.add_sub_cancel_left]
theorem dcel_a {E : EV} {ad : Nat → Nat} {S : ZS} {o m : Nat} (h : S.K o = 400000 + m) (hm : m < 100000) : dcel E ad S o = .inl (E.tX 1, m, .inr (.inr (.inr (.inr (fun j => ro E ad (S.r o j)))))) := by
  unfold dcel
  rw [h, if_neg (by omega), if_neg (by omega), if_neg (by omega), if_neg (by omega), if_pos (by omega), Nat.add_sub_cancel_left]
theorem dcel_q {E : EV} {ad : Nat → Nat} {S : ZS} {o m : Nat} (h : S.K o = 500000 + m) (hm : m < 100000) : dcel E ad S o = .inl (E.tX 2, m, .inr (.inr (.inr (.inr (fun j => ro E ad (S.r o j)))))) := by
  unfold dcel
  rw [h, if_neg (by omega), if_neg (by omega), if_neg (by omega), if_neg (by omega), if_neg (by omega), Nat.add_sub_cancel_left]
/-! references that lead somewhere -/
def rk (n c : Nat) : Prop := c % 2 = 1 → c / 2 < n
def WF (S : ZS) : Prop := ∀ o k, o < S.n → rk S.n (S.r o k)
def RA (E : EV) (ad : Nat → Nat) (n c a : Nat) : Prop := a = rA E ad c ∧ c ≠ 0 ∧ rk n c
def GX (ad : Nat → Nat) (n : Nat) (ad1 : Nat → Nat) (n1 : Nat) : Prop := n ≤ n1 ∧ ∀ i, i < n → ad1 i = ad i
theorem GX.rf {ad : Nat → Nat} {n : Nat} : GX ad n ad n := ⟨Nat.le_refl _, fun _ _ => rfl⟩
theorem GX.trans {ad ad1 ad2 : Nat → Nat} {n n1 n2 : Nat} (h : GX ad n ad1 n1) (h' : GX ad1 n1 ad2 n2) : GX ad n ad2 n2 := ⟨Nat.le_trans h.1 h'.1, fun i hi => (h'.2 i (Nat.lt_of_lt_of_le hi h.1)).trans (h.2 i hi)⟩
theorem rA_up {E : EV} {ad ad1 : Nat → Nat} {n n1 c : Nat} (h : rk n c) (hx : GX ad n ad1 n1) : rA E ad1 c = rA E ad c := by
  unfold rA
  by_cases hc : c % 2 = 1
  · rw [if_pos hc, if_pos hc, hx.2 _ (h hc)]
  · rw [if_neg hc, if_neg hc]
theorem ro_up {E : EV} {ad ad1 : Nat → Nat} {n n1 c : Nat} (h : rk n c) (hx : GX ad n ad1 n1) : ro E ad1 c = ro E ad c := by
  unfold ro
  rw [rA_up h hx]
theorem RA.up {E : EV} {ad ad1 : Nat → Nat} {n n1 c a : Nat} (h : RA E ad n c a) (hx : GX ad n ad1 n1) : RA E ad1 n1 c a := ⟨by rw [rA_up h.2.2 hx]; exact h.1, h.2.1, fun hc => Nat.lt_of_lt_of_le (h.2.2 hc) hx.1⟩
theorem RA.odd {E : EV} {ad : Nat → Nat} {n c a : Nat} (h : RA E ad n c a) (hc : c % 2 = 1) : a = ad (c / 2) := by
  rw [h.1]
  unfold rA
  rw [if_pos hc]
theorem RA_rv {E : EV} {ad : Nat → Nat} {n c a : Nat} (h : RA E ad n c a) : rv E ad c = .ref a := by
  unfold rv ro
  rw [if_neg h.2.1, h.1]
  rfl
theorem rv_0 {E : EV} {ad : Nat → Nat} : rv E ad 0 = .null := rfl
theorem RA.of {E : EV} {ad : Nat → Nat} {n c : Nat} (h0 : c ≠ 0) (h : rk n c) : RA E ad n c (rA E ad c) := ⟨rfl, h0, h⟩
/-! the world behind a change -/
theorem wd_cong {E : EV} {ad : Nat → Nat} {S S1 : ZS} {o : Nat} {y : va_E} (hg : S1.g = S.g) (hn : S1.n = S.n) (ho : o < S.n) (hy : dcel E ad S1 o = y) (hs : ∀ i, i ≠ o → dcel E ad S1 i = dcel E ad S i) : (wd E ad S).set (NC + o) (ad o, y) = wd E ad S1 := by
  apply List.ext_getElem?
  intro i
  rw [List.getElem?_set]
  by_cases hi : NC + o = i
  · subst hi
    rw [if_pos rfl, if_pos (by rw [wd_len]; omega), wd_at (S := S1) (by omega), hy]
  · rw [if_neg hi]
    by_cases hN : i < NC
    · rw [wd_cl hN, wd_cl hN, hg]
    · by_cases hN2 : i < NC + S.n
      · obtain ⟨o', rfl⟩ : ∃ o', i = NC + o' := ⟨i - NC, by omega⟩
        rw [wd_at (by omega), wd_at (S := S1) (by omega), hs o' (by omega)]
      · rw [List.getElem?_eq_none (by rw [wd_len]; omega), List.getElem?_eq_none (by rw [wd_len]; omega)]
theorem dcel_cong {E : EV} {ad : Nat → Nat} {S S1 : ZS} {o : Nat} (hK : S1.K o = S.K o) (hi : S1.i o = S.i o) (hr : S1.r o = S.r o) : dcel E ad S1 o = dcel E ad S o := by
  unfold dcel dfs dval
  rw [hK, hi, hr]
theorem wi_ne {S : ZS} {o k : Nat} {v : Int32} {i : Nat} (h : i ≠ o) : (S.wi o k v).i i = S.i i := up_ne h
theorem wr_ne {S : ZS} {o k c : Nat} {i : Nat} (h : i ≠ o) : (S.wr o k c).r i = S.r i := funext fun _ => if_neg (fun q => h q.1)
theorem wi_eq {S : ZS} {o k : Nat} {v : Int32} : (S.wi o k v).i o = upd (S.i o) k v := up_eq
theorem wr_eq {S : ZS} {o k c : Nat} : (S.wr o k c).r o = va_up (S.r o) k c := funext fun j => by
  show ur S.r o k c o j = _
  simp [ur, va_up]
theorem dfs_wi {E : EV} {ad : Nat → Nat} {S : ZS} {o ci k : Nat} {v : Int32} (hs : dsk ci k = 0) : (dfs E ad S o ci).set k (.int v) = dfs E ad (S.wi o k v) o ci := by
  apply List.ext_getElem?
  intro i
  rw [List.getElem?_set]
  by_cases hi : k = i
  · subst hi
    rw [if_pos rfl]
    by_cases hN : k < dns ci
    · rw [if_pos (by rw [dfs_len]; exact hN), dfs_at hN]
      unfold dval
      rw [hs, if_neg (by decide), wi_eq]
      simp [upd]
    · rw [if_neg (by rw [dfs_len]; exact hN), List.getElem?_eq_none (by rw [dfs_len]; omega)]
  · rw [if_neg hi]
    by_cases hN : i < dns ci
    · rw [dfs_at hN, dfs_at hN]
      unfold dval
      rw [wi_eq]
      have e : upd (S.i o) k v i = S.i o i := if_neg (fun q => hi q.symm)
      rw [e]
      rfl
    · rw [List.getElem?_eq_none (by rw [dfs_len]; omega), List.getElem?_eq_none (by rw [dfs_len]; omega)]
theorem dfs_wr {E : EV} {ad : Nat → Nat} {S : ZS} {o ci k c : Nat} (hs : dsk ci k = 1) : (dfs E ad S o ci).set k (rv E ad c) = dfs E ad (S.wr o k c) o ci := by
  apply List.ext_getElem?
  intro i
  rw [List.getElem?_set]
  by_cases hi : k = i
  · subst hi
    rw [if_pos rfl]
    by_cases hN : k < dns ci
    · rw [if_pos (by rw [dfs_len]; exact hN), dfs_at hN]
      unfold dval
      rw [hs, if_pos rfl, wr_eq, va_up_self]
    · rw [if_neg (by rw [dfs_len]; exact hN), List.getElem?_eq_none (by rw [dfs_len]; omega)]
  · rw [if_neg hi]
    by_cases hN : i < dns ci
    · rw [dfs_at hN, dfs_at hN]
      unfold dval
      rw [wr_eq, va_up_ne _ _ (fun q => hi q.symm)]
      rfl
    · rw [List.getElem?_eq_none (by rw [dfs_len]; omega), List.getElem?_eq_none (by rw [dfs_len]; omega)]
theorem wd_push {E : EV} {ad ad1 : Nat → Nat} {S : ZS} {kind slots : Nat} {f : Nat → Int32} {y : va_E} {q : Nat} (hW : WF S) (hx : GX ad S.n ad1 (S.n + 1)) (hq : ad1 S.n = q) (hy : dcel E ad1 (S.new kind slots f) S.n = y) : wd E ad S ++ [(q, y)] = wd E ad1 (S.new kind slots f) := by
  have hn : (S.new kind slots f).n = S.n + 1 := rfl
  apply List.ext_getElem?
  intro i
  by_cases hN : i < NC
  · rw [List.getElem?_append_left (by rw [wd_len]; omega), wd_cl hN, wd_cl hN]
    rfl
  · by_cases hN2 : i < NC + S.n
    · obtain ⟨o, rfl⟩ : ∃ o, i = NC + o := ⟨i - NC, by omega⟩
      have ho : o < S.n := by omega
      rw [List.getElem?_append_left (by rw [wd_len]; omega), wd_at ho, wd_at (by rw [hn]; omega), hx.2 o ho]
      have hK : (S.new kind slots f).K o = S.K o := if_neg (by omega)
      have hi : (S.new kind slots f).i o = S.i o := if_neg (by omega)
      have hr : (S.new kind slots f).r o = S.r o := if_neg (by omega)
      have hro : ∀ k, ro E ad1 (S.r o k) = ro E ad (S.r o k) := fun k => ro_up (hW o k ho) hx
      unfold dcel dfs dval rv
      rw [hK, hi, hr]
      simp only [hro]
    · rw [List.getElem?_append_right (by rw [wd_len]; omega), wd_len]
      by_cases hN3 : i = NC + S.n
      · subst hN3
        rw [Nat.sub_self, wd_at (by rw [hn]; omega), hq, hy]
        rfl
      · rw [List.getElem?_eq_none (by simp; omega), List.getElem?_eq_none (by rw [wd_len, hn]; omega)]
theorem WF.new {S : ZS} {kind slots : Nat} {f : Nat → Int32} (h : WF S) : WF (S.new kind slots f) := by
  intro o k ho hc
  show _ < S.n + 1
  by_cases e : o = S.n
  · have : (S.new kind slots f).r o k = 0 := by
      show (if o = S.n then (fun _ => 0) else S.r o) k = 0
      rw [if_pos e]
    rw [this] at hc
    cases hc
  · have hr : (S.new kind slots f).r o k = S.r o k := by
      show (if o = S.n then (fun _ => 0) else S.r o) k = S.r o k
      rw [if_neg e]
    rw [hr] at hc ⊢
    have hl : o < S.n + 1 := ho
    exact Nat.lt_succ_of_lt (h o k (by omega) hc)
theorem WF.wr {S : ZS} {o k c : Nat} (h : WF S) (hc : rk S.n c) : WF (S.wr o k c) := by
  intro o' k' ho
  show rk S.n (ur S.r o k c o' k')
  unfold ur
  by_cases e : o' = o ∧ k' = k
  · rw [if_pos e]; exact hc
  · rw [if_neg e]; exact h o' k' ho
theorem WF.wi {S : ZS} {o k : Nat} {v : Int32} (h : WF S) : WF (S.wi o k v) := h
theorem WF.wa {S : ZS} {o : Nat} {f : Nat → Int32} (h : WF S) : WF (S.wa o f) := h
theorem WF.wg {S : ZS} {g : G} (h : WF S) : WF (S.wg g) := h
theorem WF.use {S : ZS} {a b : Nat} (h : WF S) : WF (S.use a b) := h
/-! what holds of the heap while a method of the law runs -/
def AL (E : EV) (ad : Nat → Nat) (n sz : Nat) : Nat → Prop := fun q => (∃ i, i < NC ∧ q = E.ad i) ∨ (∃ i, i < n ∧ q = ad i) ∨ sz ≤ q
/-- what stays while a method of the law runs: which cells it may change, its objects' addresses and how many at its begin, what room is left at its begin and at its end -/
abbrev FT : Type := (Nat → Prop) × (Nat → Nat) × Nat × Nat × Nat × Nat × Nat
abbrev FT.A (F : FT) : Nat → Prop := F.1
abbrev FT.ad (F : FT) : Nat → Nat := F.2.1
abbrev FT.n (F : FT) : Nat := F.2.2.1
abbrev FT.c (F : FT) : Nat := F.2.2.2.1
abbrev FT.w (F : FT) : Nat := F.2.2.2.2.1
abbrev FT.uc (F : FT) : Nat := F.2.2.2.2.2.1
abbrev FT.uw (F : FT) : Nat := F.2.2.2.2.2.2
abbrev FT.R (F : FT) (k : Nat) : Room := rmD k (F.c - F.uc) (F.w - F.uw)
def CA (F : FT) (E : EV) (s : State) : Prop := (∀ q, s.heap.size ≤ q → F.A q) ∧ ∀ q, F.A q → E.sz ≤ q
def GL (E : EV) (s : State) (F : FT) (H : Heap) (locs : List Loc) (ad : Nat → Nat) (N : Nat) (S : ZS) (cells slots : Nat) : Prop :=
  va_P E.D vwCl (wd E ad S) H ∧ va_D F.A (wd E ad S) ∧ va_S F.A s.heap H locs ∧ S.n = N ∧ WF S ∧ cells + S.c = F.c ∧ slots + S.w = F.w ∧ GX F.ad F.n ad N ∧ F.uc ≤ S.c ∧ F.uw ≤ S.w
def WL (E : EV) (ad : Nat → Nat) (S : ZS) (U : State) : Prop := E.sz ≤ U.heap.size ∧ va_P E.D vwCl (wd E ad S) U.heap ∧ va_K E.D vwCl E.tys U ∧ AD E ∧ NK U ∧ OO E U U.heap ∧ va_D (fun q => E.sz ≤ q) (wd E ad S) ∧ WF S
def PL (E : EV) (sz : Nat) (ad : Nat → Nat) (av : List Value) (S : ZS) : Array Value → State → Prop := va_Pc av (fun U => U.heap.size = sz ∧ WL E ad S U)
def PU (E : EV) (sz : Nat) (ad : Nat → Nat) (S u : ZS) : (Nat → Nat) → State → Prop := fun ad1 t => va_P E.D vwCl (wd E ad1 u) t.heap ∧ va_D (AL E ad S.n sz) (wd E ad1 u) ∧ WF u ∧ GX ad S.n ad1 u.n ∧ u.c ≤ S.c ∧ u.w ≤ S.w
def QIL (E : EV) (sz : Nat) (ad : Nat → Nat) (S : ZS) (u : Int32 × ZS) : Array Value → State → Outcome → State → Prop := va_Qi (fun (r' : Int32) (_ : Nat → Nat) => r' = u.1) (PU E sz ad S u.2) (AL E ad S.n sz)
def QVL (E : EV) (sz : Nat) (ad : Nat → Nat) (S u : ZS) : Array Value → State → Outcome → State → Prop := va_Qv (fun (_ : Nat → Nat) => True) (PU E sz ad S u) (AL E ad S.n sz)
def QRL (E : EV) (sz : Nat) (ad : Nat → Nat) (S : ZS) (u : Nat × ZS) : Array Value → State → Outcome → State → Prop := va_Qr (fun (_ : Nat → Nat) => True) (fun ad1 a t => RA E ad1 u.2.n u.1 a ∧ PU E sz ad S u.2 ad1 t) (AL E ad S.n sz)
def ML2 (E : EV) (l : Launch) (y : MethodName) (c : ByteArray) (n : Nat) (rt : Option FieldType) (k : Nat) (av : (Nat → Nat) → List Value) (S u : ZS) (QQ : Nat → (Nat → Nat) → Array Value → State → Outcome → State → Prop) : Prop := ∀ sz ad, Met l y (wz y c n rt) (rmD k (S.c - u.c) (S.w - u.w)) (PL E sz ad (av ad) S) (QQ sz ad) (S.c - u.c) (S.w - u.w) (AL E ad S.n sz)
abbrev MIL (E : EV) (l : Launch) (y : MethodName) (c : ByteArray) (n : Nat) (rt : Option FieldType) (k : Nat) (av : (Nat → Nat) → List Value) (S : ZS) (u : Int32 × ZS) : Prop := ML2 E l y c n rt k av S u.2 (fun sz ad => QIL E sz ad S u)
abbrev MVL (E : EV) (l : Launch) (y : MethodName) (c : ByteArray) (n : Nat) (rt : Option FieldType) (k : Nat) (av : (Nat → Nat) → List Value) (S u : ZS) : Prop := ML2 E l y c n rt k av S u (fun sz ad => QVL E sz ad S u)
abbrev MRL (E : EV) (l : Launch) (y : MethodName) (c : ByteArray) (n : Nat) (rt : Option FieldType) (k : Nat) (av : (Nat → Nat) → List Value) (S : ZS) (u : Nat × ZS) : Prop := ML2 E l y c n rt k av S u.2 (fun sz ad => QRL E sz ad S u)
theorem PL_blind {E : EV} {sz : Nat} {ad : Nat → Nat} {av : List Value} {S : ZS} : FrameBlind (PL E sz ad av S) := by
  intro a U f mk h
  obtain ⟨h0, h1, h2, h3, h4, h5, h6, h7, h8, h9⟩ := h
  exact ⟨h0, h1, h2, h3, va_K.moved (u := U) (U := U.calling f mk a) (Vm.Alike.refl U.vm) h4, h5, fun w hw => Nw_same (u := U) rfl hw (h6 w hw), OO.same (u := U) rfl h7, h8, h9⟩
theorem AL_ge {E : EV} {ad : Nat → Nat} {S : ZS} {sz q : Nat} (h : AD E) (hd : va_D (fun q => E.sz ≤ q) (wd E ad S)) (hz : E.sz ≤ sz) (hq : AL E ad S.n sz q) : E.sz ≤ q := by
  rcases hq with ⟨i, hi, rfl⟩ | ⟨i, hi, rfl⟩ | hq
  · exact h.2 i hi
  · exact hd.2 _ _ (wd_at hi)
  · omega
def FTk (E : EV) (s : State) (F : FT) (S u : ZS) : Prop := F.A = AL E F.ad S.n s.heap.size ∧ F.n = S.n ∧ F.c = S.c ∧ F.w = S.w ∧ F.uc = u.c ∧ F.uw = u.w
def FT0 (E : EV) (ad : Nat → Nat) (S u : ZS) (sz : Nat) : FT := (AL E ad S.n sz, ad, S.n, S.c, S.w, u.c, u.w)
/-- a method of the law: its proof begins -/
theorem ML2.of {E : EV} {l : Launch} {y : MethodName} {cc : ByteArray} {n : Nat} {rt : Option FieldType} {k : Nat} {av : (Nat → Nat) → List Value} {S u : ZS} {QQ : Nat → (Nat → Nat) → Array Value → State → Outcome → State → Prop} (hy : plainName y.cls = true) (hn : ∀ ad, (lg_sl (av ad)).length ≤ n) (hcw : u.c ≤ S.c ∧ u.w ≤ S.w)
    (body : ∀ (p : Program) (e : Env) (s : State) (m : MethodId) (args : Array Value) (below : List Frame) (meth : Method) (c : Code) (ad : Nat → Nat) (F : FT), FTk E s F S u → Cx p s m args meth c cc n y.cls E → CA F E s → meth.sig.returnType = rt → meth.name = y.name → ∀ ls : Array Slot, lv_has ls n (lv_args 0 (av ad)) → GL E s F s.heap [] ad S.n S 0 0 →
      W p l e (F.R k) s m args below meth c s.heap [] 0 0 (MQ below (QQ s.heap.size F.ad) args s (F.c - F.uc) (F.w - F.uw) F.A) (F0 m 0 ls [])) : ML2 E l y cc n rt k av S u QQ := by
  intro sz ad
  refine Met.ofW (cc := cc) (maxL := n) (ret := rt) hy rfl ?_
  intro p e s m args below meth c s₁ B hml hv
  obtain ⟨rfl, rfl, h2, h3, h4, h5, h6, h7, h8, h9⟩ := hv
  have hts := atoms_spec (ws := wz y cc n rt) B.pre
  have hown : s.vm.findClass y.cls = some m.cls := findClass_of_methodNamed B.named
  rw [lg_entry_eq]
  refine body p e s m _ below meth c ad (FT0 E ad S u s.heap.size) ⟨rfl, rfl, rfl, rfl, rfl, rfl⟩ ⟨B.exec, B.bytes, hml, hown, fun w hw => hts w (List.mem_cons_of_mem _ hw), h4, h6, B.notSynchronized, h2, h5, h7⟩ ⟨fun q hq => Or.inr (Or.inr hq), fun q hq => AL_ge h5 h8 h2 hq⟩ B.returns (name_of_methodNamed B.named B.method).1 _ (lv_entry (av ad) (hn ad)) ?_
  refine ⟨h3, ⟨h8.1, fun j q hq => ?_⟩, va_S.rf, rfl, h9, Nat.zero_add _, Nat.zero_add _, GX.rf, hcw⟩
  rcases wd_inv hq with ⟨hj, rfl⟩ | ⟨o, ho, -, rfl⟩
  · exact Or.inl ⟨_, hj, rfl⟩
  · exact Or.inr (Or.inl ⟨o, ho, rfl⟩)
end
section
/-! the law's classes; rows over the store -/
def KP (pos : Nat) (C : String) (T : u_T) (n : Nat) (ty : Nat → FieldType) : Prop := vwCl[pos]? = some (C, T, n) ∧ (∀ w ∈ u_ws C T n, w ∈ TB) ∧ (∀ k, k < n → parseFieldDescriptor (T k).2.2.1 = some (ty k)) ∧ (∀ a, a < n → ∀ b, b < n → a ≠ b → (T a).2.1 ≠ (T b).2.1) ∧ dns pos = n
theorem KP0 : KP 0 RJ0 TJ0 4 tyJ0 := ⟨rfl, by decide +kernel, tyJ0_ok, nmJ0, by decide⟩
theorem KP1 : KP 1 RJ4 TJ4 4 tyJ4 := ⟨rfl, by decide +kernel, tyJ4_ok, nmJ4, by decide⟩
theorem KP11 : KP 11 RX9 TX9 1 tyX9 := ⟨rfl, by decide +kernel, tyX9_ok, nmX9, by decide⟩
theorem KP12 : KP 12 RX10 TX10 4 tyX10 := ⟨rfl, by decide +kernel, tyX10_ok, nmX10, by decide⟩
theorem KP13 : KP 13 RX11 TX11 4 tyX11 := ⟨rfl, by decide +kernel, tyX11_ok, nmX11, by decide⟩
theorem KP14 : KP 14 RX12 TX12 9 tyX12 := ⟨rfl, by decide +kernel, tyX12_ok, nmX12, by decide⟩
theorem KP_lt {pos : Nat} {C : String} {T : u_T} {n : Nat} {ty : Nat → FieldType} (h : KP pos C T n ty) : pos < 15 := (List.getElem?_eq_some_iff.mp h.1).1
/-- a field, by the pool's number: md 1 it may be written anywhere, 2 it is final and the class's own -/
def FP (own : String) (index pos k md : Nat) (ty : FieldType) : Prop := ∃ (C : String) (T : u_T) (n : Nat) (tt : Nat → FieldType), KP pos C T n tt ∧ k < n ∧ (md = 1 → (T k).2.2.2 = false) ∧ tt k = ty ∧ (md = 2 → (T k).2.2.2 = true ∧ (T k).1 = own) ∧ Cond.fieldLink own index (T k).1 (T k).2.1 (T k).2.2.1 ∈ TB
/-! the pure side's words over the store: a reference that isn't an object of the wanted kind has no answer -/
def okO (S : ZS) (c kind : Nat) : Bool := c % 2 == 1 && decide (c / 2 < S.n) && S.K (c / 2) == kind
def okA (S : ZS) (c base : Nat) : Bool := c % 2 == 1 && decide (c / 2 < S.n) && decide (base ≤ S.K (c / 2)) && decide (S.K (c / 2) < base + 100000)
def gI {ρ : Type} (S : ZS) (c pos k : Nat) (f : Int32 → Option ρ) : Option ρ := if okO S c pos = true then f (S.i (c / 2) k) else none
def gN {ρ : Type} (S : ZS) (c pos k : Nat) (f : Nat → Option ρ) : Option ρ := if okO S c pos = true ∧ S.r (c / 2) k ≠ 0 then f (S.r (c / 2) k) else none
def gV {ρ : Type} (S : ZS) (c pos k : Nat) (x : Option ρ) (f : Nat → Option ρ) : Option ρ := if okO S c pos = true then (if S.r (c / 2) k = 0 then x else f (S.r (c / 2) k)) else none
def pI {ρ : Type} (S : ZS) (c pos k : Nat) (v : Int32) (f : ZS → Option ρ) : Option ρ := if okO S c pos = true then f (S.wi (c / 2) k v) else none
def pR {ρ : Type} (S : ZS) (c pos k d : Nat) (f : ZS → Option ρ) : Option ρ := if okO S c pos = true then f (S.wr (c / 2) k d) else none
def aL {ρ : Type} (S : ZS) (c base : Nat) (f : Int32 → Option ρ) : Option ρ := if okA S c base = true then f (nI (S.K (c / 2) - base)) else none
def inA (S : ZS) (c base : Nat) (j : Int32) : Bool := okA S c base && decide (¬ (j < 0 ∨ S.K (c / 2) - base ≤ j.toNatClampNeg))
def aG {ρ : Type} (S : ZS) (c base : Nat) (j : Int32) (f : Int32 → Option ρ) : Option ρ := if inA S c base j = true then f (S.i (c / 2) j.toNatClampNeg) else none
def aP {ρ : Type} (S : ZS) (c base : Nat) (j v : Int32) (f : ZS → Option ρ) : Option ρ := if inA S c base j = true then f (S.wi (c / 2) j.toNatClampNeg v) else none
def aN {ρ : Type} (S : ZS) (c base : Nat) (j : Int32) (f : Nat → Option ρ) : Option ρ := if inA S c base j = true ∧ S.r (c / 2) j.toNatClampNeg ≠ 0 then f (S.r (c / 2) j.toNatClampNeg) else none
/-- an element: an object of a class, or (kind 100000) an int row -/
def okE (S : ZS) (d kind : Nat) : Bool := if kind < 15 then okO S d kind else okA S d kind
def aR {ρ : Type} (S : ZS) (c base kind : Nat) (j : Int32) (d : Nat) (f : ZS → Option ρ) : Option ρ := if inA S c base j = true ∧ okE S d kind = true then f (S.wr (c / 2) j.toNatClampNeg d) else none
/-- the room that a method leaves at its end is no more than what is left now -/
def chk {ρ : Type} (pr : ρ → ZS) (S : ZS) (x : Option ρ) : Option ρ := x.bind fun r => if (pr r).c ≤ S.c ∧ (pr r).w ≤ S.w then some r else none
/-- the class's answer, where it answers (a thrown one has no answer here) -/
def clI {α ρ : Type} (S : ZS) (z : Option (α × G)) (f : α → ZS → Option ρ) : Option ρ := z.bind fun u => f u.1 (S.wg u.2)
def clR {ρ : Type} (pr : ρ → ZS) (S : ZS) (a b : Nat) (z : Option XR) (f : Int32 → ZS → Option ρ) : Option ρ := if a ≤ S.c ∧ b ≤ S.w then z.bind fun w => if w.1 = 0 then chk pr ((S.wg w.2.2).use a b) (f w.2.1 ((S.wg w.2.2).use a b)) else none else none
/-- a call of the law's own: its answer, the store behind it -/
def b2 {α ρ : Type} (pr : ρ → ZS) (z : Option (α × ZS)) (f : α → ZS → Option ρ) : Option ρ := z.bind fun u => chk pr u.2 (f u.1 u.2)
def b1 {ρ : Type} (pr : ρ → ZS) (z : Option ZS) (f : ZS → Option ρ) : Option ρ := z.bind fun u => chk pr u (f u)
def rcv {ρ : Type} (S : ZS) (c pos : Nat) (x : Option ρ) : Option ρ := if okO S c pos = true then x else none
theorem ite_inv {ρ : Type} {P : Prop} [Decidable P] {x : Option ρ} {r : ρ} (h : (if P then x else none) = some r) : P ∧ x = some r := by
  by_cases hc : P
  · rw [if_pos hc] at h; exact ⟨hc, h⟩
  · rw [if_neg hc] at h; cases h
theorem chk_inv {ρ : Type} {pr : ρ → ZS} {S : ZS} {x : Option ρ} {r : ρ} (h : chk pr S x = some r) : ((pr r).c ≤ S.c ∧ (pr r).w ≤ S.w) ∧ x = some r := by
  unfold chk at h
  cases x with
  | none => cases h
  | some v =>
    by_cases hc : (pr v).c ≤ S.c ∧ (pr v).w ≤ S.w
    · have h : (if (pr v).c ≤ S.c ∧ (pr v).w ≤ S.w then some v else none) = some r := h
      rw [if_pos hc] at h
      cases h
      exact ⟨hc, rfl⟩
    · have h : (if (pr v).c ≤ S.c ∧ (pr v).w ≤ S.w then some v else none) = some r := h
      rw [if_neg hc] at h
      cases h
theorem okO_inv {S : ZS} {c kind : Nat} (h : okO S c kind = true) : c % 2 = 1 ∧ c / 2 < S.n ∧ S.K (c / 2) = kind := by
  unfold okO at h
  simpa [and_assoc] using h
theorem okA_inv {S : ZS} {c base : Nat} (h : okA S c base = true) : c % 2 = 1 ∧ c / 2 < S.n ∧ ∃ m, S.K (c / 2) = base + m ∧ m < 100000 := by
  unfold okA at h
  simp only [Bool.and_eq_true, beq_iff_eq, decide_eq_true_eq] at h
  obtain ⟨⟨⟨h1, h2⟩, h3⟩, h4⟩ := h
  exact ⟨h1, h2, S.K (c / 2) - base, by omega, by omega⟩
theorem inA_inv {S : ZS} {c base : Nat} {j : Int32} (h : inA S c base j = true) : c % 2 = 1 ∧ c / 2 < S.n ∧ ∃ m, S.K (c / 2) = base + m ∧ m < 100000 ∧ vp_in j m := by
  unfold inA at h
  simp only [Bool.and_eq_true, decide_eq_true_eq] at h
  obtain ⟨h0, h1⟩ := h
  obtain ⟨a, b, m, c1, c2⟩ := okA_inv h0
  refine ⟨a, b, m, c1, c2, ?_⟩
  rw [c1, Nat.add_sub_cancel_left] at h1
  exact h1
theorem as_self (vm : Vm) (c : ClassId) : vm.assignable c c = true := by
  show vm.assignableAux (255 + 1) c c = true
  rw [Vm.assignableAux]
  simp only [beq_self_eq_true, Bool.true_or]
section LROWS
variable {p : Program} {l : Launch} {e : Env} {kf : Nat} {F : FT} {s : State} {m : MethodId} {args : Array Value} {below : List Frame} {meth : Method} {c : Code} {H : Heap} {locs : List Loc} {cells slots : Nat} {Q : State → Prop} {cc : ByteArray} {n : Nat} {own : String} {E : EV} {ad : Nat → Nat} {N : Nat} {S : ZS} {pc : Nat} {ls : Array Slot} {rest st : List Value} {ρ : Type} {r : ρ} {d a : Nat}
theorem GL_at (hG : GL E s F H locs ad N S cells slots) (ha : RA E ad N d a) (h1 : d % 2 = 1) (h2 : d / 2 < S.n) : (wd E ad S)[NC + d / 2]? = some (a, dcel E ad S (d / 2)) := by
  rw [ha.odd h1, wd_at h2]
theorem r2_gI (C : Cx p s m args meth c cc n own E) (hG : GL E s F H locs ad N S cells slots) (ha : RA E ad N d a) {index pos k md : Nat} {ty : FieldType} (f : FP own index pos k md ty) (hs : dsk pos k = 0) (hd : decode cc pc = .ok (.getfield index, 3)) {fn : Int32 → Option ρ} (h : gI S d pos k fn = some r)
    (kk : ∀ x : Int32, fn x = some r → W p l e (F.R kf) s m args below meth c H locs cells slots Q (F0 m (pc + 3) ls (.int x :: rest))) : W p l e (F.R kf) s m args below meth c H locs cells slots Q (F0 m pc ls (.ref a :: rest)) := by
  obtain ⟨hx, hb, -, hown, hts, hK, hN, -⟩ := C
  obtain ⟨cn, T, nn, tt, hKP, hk', -, -, -, hl⟩ := f
  obtain ⟨h0, h⟩ := ite_inv h
  obtain ⟨h1, h2, h3⟩ := okO_inv h0
  have hlt := KP_lt hKP
  obtain ⟨hc, hin, -, -, hn⟩ := hKP
  have he : (wd E ad S)[NC + d / 2]? = some (a, .inr (pos, dfs E ad S (d / 2) pos)) := by rw [GL_at hG ha h1 h2, dcel_o h3 hlt]
  have hv : (dfs E ad S (d / 2) pos)[k]? = some (.int (S.i (d / 2) k)) := by
    rw [dfs_at (by omega)]
    unfold dval
    rw [hs, if_neg (by decide)]
  exact va_get (D := E.D) (ci := pos) (C := cn) (T := T) (N := nn) hx hb hts hin hown hK hG.1 _ he hc k hk' (hts _ hl) (fun _ h9 => h9) hv hd (kk _ h)
theorem r2_gN (C : Cx p s m args meth c cc n own E) (hG : GL E s F H locs ad N S cells slots) (ha : RA E ad N d a) {index pos k md : Nat} {ty : FieldType} (f : FP own index pos k md ty) (hs : dsk pos k = 1) (hd : decode cc pc = .ok (.getfield index, 3)) {fn : Nat → Option ρ} (h : gN S d pos k fn = some r)
    (kk : ∀ x b : Nat, RA E ad N x b → fn x = some r → W p l e (F.R kf) s m args below meth c H locs cells slots Q (F0 m (pc + 3) ls (.ref b :: rest))) : W p l e (F.R kf) s m args below meth c H locs cells slots Q (F0 m pc ls (.ref a :: rest)) := by
  obtain ⟨hx, hb, -, hown, hts, hK, hN, -⟩ := C
  obtain ⟨cn, T, nn, tt, hKP, hk', -, -, -, hl⟩ := f
  obtain ⟨⟨h0, hz⟩, h⟩ := ite_inv h
  obtain ⟨h1, h2, h3⟩ := okO_inv h0
  have hlt := KP_lt hKP
  obtain ⟨hc, hin, -, -, hn⟩ := hKP
  have he : (wd E ad S)[NC + d / 2]? = some (a, .inr (pos, dfs E ad S (d / 2) pos)) := by rw [GL_at hG ha h1 h2, dcel_o h3 hlt]
  have hr : RA E ad N (S.r (d / 2) k) (rA E ad (S.r (d / 2) k)) := RA.of hz (by rw [← hG.2.2.2.1]; exact hG.2.2.2.2.1 _ _ h2)
  have hv : (dfs E ad S (d / 2) pos)[k]? = some (.ref (rA E ad (S.r (d / 2) k))) := by
    rw [dfs_at (by omega)]
    unfold dval
    rw [hs, if_pos rfl, RA_rv hr]
  exact va_get (D := E.D) (ci := pos) (C := cn) (T := T) (N := nn) hx hb hts hin hown hK hG.1 _ he hc k hk' (hts _ hl) (fun _ h9 => h9) hv hd (kk _ _ hr h)
theorem r2_gV (C : Cx p s m args meth c cc n own E) (hG : GL E s F H locs ad N S cells slots) (ha : RA E ad N d a) {index pos k md : Nat} {ty : FieldType} (f : FP own index pos k md ty) (hs : dsk pos k = 1) (hd : decode cc pc = .ok (.getfield index, 3)) {x0 : Option ρ} {fn : Nat → Option ρ} (h : gV S d pos k x0 fn = some r)
    (k0 : x0 = some r → W p l e (F.R kf) s m args below meth c H locs cells slots Q (F0 m (pc + 3) ls (.null :: rest)))
    (kk : ∀ x b : Nat, RA E ad N x b → fn x = some r → W p l e (F.R kf) s m args below meth c H locs cells slots Q (F0 m (pc + 3) ls (.ref b :: rest))) : W p l e (F.R kf) s m args below meth c H locs cells slots Q (F0 m pc ls (.ref a :: rest)) := by
  obtain ⟨hx, hb, -, hown, hts, hK, hN, -⟩ := C
  obtain ⟨cn, T, nn, tt, hKP, hk', -, -, -, hl⟩ := f
  obtain ⟨h0, h⟩ := ite_inv h
  obtain ⟨h1, h2, h3⟩ := okO_inv h0
  have hlt := KP_lt hKP
  obtain ⟨hc, hin, -, -, hn⟩ := hKP
  have he : (wd E ad S)[NC + d / 2]? = some (a, .inr (pos, dfs E ad S (d / 2) pos)) := by rw [GL_at hG ha h1 h2, dcel_o h3 hlt]
  have hv : (dfs E ad S (d / 2) pos)[k]? = some (rv E ad (S.r (d / 2) k)) := by
    rw [dfs_at (by omega)]
    unfold dval
    rw [hs, if_pos rfl]
  refine va_get (D := E.D) (ci := pos) (C := cn) (T := T) (N := nn) hx hb hts hin hown hK hG.1 _ he hc k hk' (hts _ hl) (fun _ h9 => h9) hv hd ?_
  by_cases hz : S.r (d / 2) k = 0
  · rw [if_pos hz] at h
    rw [hz, rv_0]
    exact k0 h
  · rw [if_neg hz] at h
    have hr : RA E ad N (S.r (d / 2) k) (rA E ad (S.r (d / 2) k)) := RA.of hz (by rw [← hG.2.2.2.1]; exact hG.2.2.2.2.1 _ _ h2)
    rw [RA_rv hr]
    exact kk _ _ hr h
theorem GL_set {S1 : ZS} {o : Nat} {y : va_E} {H1 : Heap} {locs1 : List Loc} (hG : GL E s F H locs ad N S cells slots) (hg : S1.g = S.g) (hn : S1.n = S.n) (hcw : S1.c = S.c ∧ S1.w = S.w) (hw : WF S1) (ho : o < S.n) (hy : dcel E ad S1 o = y) (hs : ∀ i, i ≠ o → dcel E ad S1 i = dcel E ad S i)
    (a1 : va_P E.D vwCl ((wd E ad S).set (NC + o) (ad o, y)) H1) (a2 : va_D F.A ((wd E ad S).set (NC + o) (ad o, y))) (a3 : va_S F.A s.heap H1 locs1) : GL E s F H1 locs1 ad N S1 cells slots := by
  rw [wd_cong hg hn ho hy hs] at a1 a2
  obtain ⟨-, -, -, b4, -, b6, b7, b8⟩ := hG
  exact ⟨a1, a2, a3, hn.trans b4, hw, by rw [hcw.1]; exact b6, by rw [hcw.2]; exact b7, b8.1, by rw [hcw.1]; exact b8.2.1, by rw [hcw.2]; exact b8.2.2⟩
theorem r2_pI (C : Cx p s m args meth c cc n own E) (hG : GL E s F H locs ad N S cells slots) (ha : RA E ad N d a) {index pos k md : Nat} {ty : FieldType} {v : Int32} (f : FP own index pos k md ty) (hmd : md = 1 ∨ (md = 2 ∧ meth.name = "<init>")) (hs : dsk pos k = 0) (hnw : narrow ty (.int v) = .int v) (hfit : fits ty (.int v) = true) (hd : decode cc pc = .ok (.putfield index, 3)) {fn : ZS → Option ρ} (h : pI S d pos k v fn = some r)
    (kk : ∀ (H1 : Heap) (locs1 : List Loc) (S1 : ZS), GL E s F H1 locs1 ad N S1 cells slots → fn S1 = some r → W p l e (F.R kf) s m args below meth c H1 locs1 cells slots Q (F0 m (pc + 3) ls rest)) : W p l e (F.R kf) s m args below meth c H locs cells slots Q (F0 m pc ls (.int v :: .ref a :: rest)) := by
  obtain ⟨hx, hb, -, hown, hts, hK, hN, -⟩ := C
  obtain ⟨cn, T, nn, tt, hKP, hk', hf9, htt, hdecl, hl⟩ := f
  obtain ⟨h0, h⟩ := ite_inv h
  obtain ⟨h1, h2, h3⟩ := okO_inv h0
  have hlt := KP_lt hKP
  obtain ⟨hc, hin, hty, hnm, hn⟩ := hKP
  have he : (wd E ad S)[NC + d / 2]? = some (a, .inr (pos, dfs E ad S (d / 2) pos)) := by rw [GL_at hG ha h1 h2, dcel_o h3 hlt]
  have hp9 : parseFieldDescriptor (T k).2.2.1 = some ty := by rw [hty k hk', htt]
  have fin' : ∀ (H1 : Heap) (locs1 : List Loc), va_P E.D vwCl ((wd E ad S).set (NC + d / 2) (a, .inr (pos, (dfs E ad S (d / 2) pos).set k (.int v)))) H1 → va_D F.A ((wd E ad S).set (NC + d / 2) (a, .inr (pos, (dfs E ad S (d / 2) pos).set k (.int v)))) → va_S F.A s.heap H1 locs1 → W p l e (F.R kf) s m args below meth c H1 locs1 cells slots Q (F0 m (pc + 3) ls rest) := by
    intro H1 locs1 a1 a2 a3
    rw [ha.odd h1] at a1 a2
    refine kk H1 locs1 _ (GL_set (S1 := S.wi (d / 2) k v) hG rfl rfl ⟨rfl, rfl⟩ hG.2.2.2.2.1.wi h2 ?_ (fun i hi => dcel_cong rfl (wi_ne hi) rfl) a1 a2 a3) h
    rw [dcel_o (show (S.wi (d / 2) k v).K (d / 2) = pos from h3) hlt, ← dfs_wi hs]
  rcases hmd with h8 | ⟨h8, hi⟩
  · exact va_put (D := E.D) (ci := pos) (C := cn) (T := T) (N := nn) hx hb hts hin tt hty hnm hown hK hG.1 hG.2.1 hG.2.2.1 _ he hc k hk' (hts _ hl) (fun _ h9 => h9) (hf9 h8) hp9 hnw hfit (by rw [dfs_len]; omega) hd fin'
  · exact va_putF (D := E.D) (ci := pos) (C := cn) (T := T) (N := nn) hx hb hts hin tt hty hnm hown hK hG.1 hG.2.1 hG.2.2.1 _ he hc k hk' (hts _ hl) (fun _ h9 => h9) (hdecl h8).1 hi (hdecl h8).2 hp9 hnw hfit (by rw [dfs_len]; omega) hd fin'
/-- a reference put into a field: null (0) or one that leads somewhere -/
def RV (E : EV) (ad : Nat → Nat) (n x : Nat) (v : Value) : Prop := v = rv E ad x ∧ rk n x
theorem RV_0 : RV E ad N 0 .null := ⟨rfl, fun h => by cases h⟩
theorem RA.RV {x b : Nat} (h : RA E ad N x b) : RV E ad N x (.ref b) := ⟨(RA_rv h).symm, h.2.2⟩
theorem r2_pR (C : Cx p s m args meth c cc n own E) (hG : GL E s F H locs ad N S cells slots) (ha : RA E ad N d a) {index pos k x md : Nat} {ty : FieldType} {v : Value} (hv9 : RV E ad N x v) (f : FP own index pos k md ty) (hmd : md = 1 ∨ (md = 2 ∧ meth.name = "<init>")) (hs : dsk pos k = 1) (hnw : narrow ty v = v) (hfit : fits ty v = true) (hd : decode cc pc = .ok (.putfield index, 3)) {fn : ZS → Option ρ} (h : pR S d pos k x fn = some r)
    (kk : ∀ (H1 : Heap) (locs1 : List Loc) (S1 : ZS), GL E s F H1 locs1 ad N S1 cells slots → fn S1 = some r → W p l e (F.R kf) s m args below meth c H1 locs1 cells slots Q (F0 m (pc + 3) ls rest)) : W p l e (F.R kf) s m args below meth c H locs cells slots Q (F0 m pc ls (v :: .ref a :: rest)) := by
  obtain ⟨hx, hb, -, hown, hts, hK, hN, -⟩ := C
  obtain ⟨cn, T, nn, tt, hKP, hk', hf9, htt, hdecl, hl⟩ := f
  obtain ⟨h0, h⟩ := ite_inv h
  obtain ⟨h1, h2, h3⟩ := okO_inv h0
  have hlt := KP_lt hKP
  obtain ⟨hc, hin, hty, hnm, hn⟩ := hKP
  have he : (wd E ad S)[NC + d / 2]? = some (a, .inr (pos, dfs E ad S (d / 2) pos)) := by rw [GL_at hG ha h1 h2, dcel_o h3 hlt]
  have hp9 : parseFieldDescriptor (T k).2.2.1 = some ty := by rw [hty k hk', htt]
  have fin' : ∀ (H1 : Heap) (locs1 : List Loc), va_P E.D vwCl ((wd E ad S).set (NC + d / 2) (a, .inr (pos, (dfs E ad S (d / 2) pos).set k v))) H1 → va_D F.A ((wd E ad S).set (NC + d / 2) (a, .inr (pos, (dfs E ad S (d / 2) pos).set k v))) → va_S F.A s.heap H1 locs1 → W p l e (F.R kf) s m args below meth c H1 locs1 cells slots Q (F0 m (pc + 3) ls rest) := by
    intro H1 locs1 a1 a2 a3
    rw [ha.odd h1] at a1 a2
    refine kk H1 locs1 _ (GL_set (S1 := S.wr (d / 2) k x) hG rfl rfl ⟨rfl, rfl⟩ (hG.2.2.2.2.1.wr (by rw [hG.2.2.2.1]; exact hv9.2)) h2 ?_ (fun i hi => dcel_cong rfl rfl (wr_ne hi)) a1 a2 a3) h
    rw [dcel_o (show (S.wr (d / 2) k x).K (d / 2) = pos from h3) hlt, ← dfs_wr hs, hv9.1]
  rcases hmd with h8 | ⟨h8, hi⟩
  · exact va_put (D := E.D) (ci := pos) (C := cn) (T := T) (N := nn) hx hb hts hin tt hty hnm hown hK hG.1 hG.2.1 hG.2.2.1 _ he hc k hk' (hts _ hl) (fun _ h9 => h9) (hf9 h8) hp9 hnw hfit (by rw [dfs_len]; omega) hd fin'
  · exact va_putF (D := E.D) (ci := pos) (C := cn) (T := T) (N := nn) hx hb hts hin tt hty hnm hown hK hG.1 hG.2.1 hG.2.2.1 _ he hc k hk' (hts _ hl) (fun _ h9 => h9) (hdecl h8).1 hi (hdecl h8).2 hp9 hnw hfit (by rw [dfs_len]; omega) hd fin'
theorem r2_gAI (C : Cx p s m args meth c cc n own E) (hG : GL E s F H locs ad N S cells slots) (ha : RA E ad N d a) {j : Int32} (hd : decode cc pc = .ok (.iaload, 1)) {fn : Int32 → Option ρ} (h : aG S d 100000 j fn = some r)
    (kk : ∀ x : Int32, fn x = some r → W p l e (F.R kf) s m args below meth c H locs cells slots Q (F0 m (pc + 1) ls (.int x :: rest))) : W p l e (F.R kf) s m args below meth c H locs cells slots Q (F0 m pc ls (.int j :: .ref a :: rest)) := by
  obtain ⟨hx, hb, -, hown, hts, hK, -⟩ := C
  obtain ⟨h0, h⟩ := ite_inv h
  obtain ⟨h1, h2, mm, h3, h4, hin⟩ := inA_inv h0
  have he : (wd E ad S)[NC + d / 2]? = some (a, .inl (E.tI, mm, .inl (S.i (d / 2)))) := by rw [GL_at hG ha h1 h2, dcel_i h3 h4]
  exact va_iald hx hb hK hG.1 _ 0 he rfl hin hd (kk _ h)
theorem r2_gAB (C : Cx p s m args meth c cc n own E) (hG : GL E s F H locs ad N S cells slots) (ha : RA E ad N d a) {j : Int32} (hd : decode cc pc = .ok (.baload, 1)) {fn : Int32 → Option ρ} (h : aG S d 200000 j fn = some r)
    (kk : ∀ x : Int32, fn x = some r → W p l e (F.R kf) s m args below meth c H locs cells slots Q (F0 m (pc + 1) ls (.int x :: rest))) : W p l e (F.R kf) s m args below meth c H locs cells slots Q (F0 m pc ls (.int j :: .ref a :: rest)) := by
  obtain ⟨hx, hb, -, hown, hts, hK, -⟩ := C
  obtain ⟨h0, h⟩ := ite_inv h
  obtain ⟨h1, h2, mm, h3, h4, hin⟩ := inA_inv h0
  have he : (wd E ad S)[NC + d / 2]? = some (a, .inl (E.tB, mm, .inl (S.i (d / 2)))) := by rw [GL_at hG ha h1 h2, dcel_b h3 h4]
  exact va_bald hx hb hK hG.1 _ 1 he rfl hin hd (kk _ h)
theorem r2_gAZ (C : Cx p s m args meth c cc n own E) (hG : GL E s F H locs ad N S cells slots) (ha : RA E ad N d a) {j : Int32} (hd : decode cc pc = .ok (.baload, 1)) {fn : Int32 → Option ρ} (h : aG S d 300000 j fn = some r)
    (kk : ∀ x : Int32, fn x = some r → W p l e (F.R kf) s m args below meth c H locs cells slots Q (F0 m (pc + 1) ls (.int x :: rest))) : W p l e (F.R kf) s m args below meth c H locs cells slots Q (F0 m pc ls (.int j :: .ref a :: rest)) := by
  obtain ⟨hx, hb, -, hown, hts, hK, -⟩ := C
  obtain ⟨h0, h⟩ := ite_inv h
  obtain ⟨h1, h2, mm, h3, h4, hin⟩ := inA_inv h0
  have he : (wd E ad S)[NC + d / 2]? = some (a, .inl (E.tX 0, mm, .inl (S.i (d / 2)))) := by rw [GL_at hG ha h1 h2, dcel_z h3 h4]
  exact va_zald hx hb hK hG.1 _ 2 he rfl hin hd (kk _ h)
theorem r2_pAI (C : Cx p s m args meth c cc n own E) (hG : GL E s F H locs ad N S cells slots) (ha : RA E ad N d a) {j v : Int32} (hd : decode cc pc = .ok (.iastore, 1)) {fn : ZS → Option ρ} (h : aP S d 100000 j v fn = some r)
    (kk : ∀ (H1 : Heap) (locs1 : List Loc) (S1 : ZS), GL E s F H1 locs1 ad N S1 cells slots → fn S1 = some r → W p l e (F.R kf) s m args below meth c H1 locs1 cells slots Q (F0 m (pc + 1) ls rest)) : W p l e (F.R kf) s m args below meth c H locs cells slots Q (F0 m pc ls (.int v :: .int j :: .ref a :: rest)) := by
  obtain ⟨hx, hb, -, hown, hts, hK, -⟩ := C
  obtain ⟨h0, h⟩ := ite_inv h
  obtain ⟨h1, h2, mm, h3, h4, hin⟩ := inA_inv h0
  have he : (wd E ad S)[NC + d / 2]? = some (a, .inl (E.tI, mm, .inl (S.i (d / 2)))) := by rw [GL_at hG ha h1 h2, dcel_i h3 h4]
  refine va_iast hx hb hK hG.1 hG.2.1 hG.2.2.1 _ 0 he rfl hin hd (fun H1 locs1 a1 a2 a3 => ?_)
  rw [ha.odd h1] at a1 a2
  refine kk H1 locs1 _ (GL_set (S1 := S.wi (d / 2) j.toNatClampNeg v) hG rfl rfl ⟨rfl, rfl⟩ hG.2.2.2.2.1.wi h2 ?_ (fun i hi => dcel_cong rfl (wi_ne hi) rfl) a1 a2 a3) h
  rw [dcel_i (show (S.wi (d / 2) j.toNatClampNeg v).K (d / 2) = 100000 + mm from h3) h4, wi_eq]
theorem r2_pAB (C : Cx p s m args meth c cc n own E) (hG : GL E s F H locs ad N S cells slots) (ha : RA E ad N d a) {j v : Int32} (hd : decode cc pc = .ok (.bastore, 1)) {fn : ZS → Option ρ} (h : aP S d 200000 j v.toInt8.toInt32 fn = some r)
    (kk : ∀ (H1 : Heap) (locs1 : List Loc) (S1 : ZS), GL E s F H1 locs1 ad N S1 cells slots → fn S1 = some r → W p l e (F.R kf) s m args below meth c H1 locs1 cells slots Q (F0 m (pc + 1) ls rest)) : W p l e (F.R kf) s m args below meth c H locs cells slots Q (F0 m pc ls (.int v :: .int j :: .ref a :: rest)) := by
  obtain ⟨hx, hb, -, hown, hts, hK, -⟩ := C
  obtain ⟨h0, h⟩ := ite_inv h
  obtain ⟨h1, h2, mm, h3, h4, hin⟩ := inA_inv h0
  have he : (wd E ad S)[NC + d / 2]? = some (a, .inl (E.tB, mm, .inl (S.i (d / 2)))) := by rw [GL_at hG ha h1 h2, dcel_b h3 h4]
  refine va_bast hx hb hK hG.1 hG.2.1 hG.2.2.1 _ 1 he rfl hin hd (fun H1 locs1 a1 a2 a3 => ?_)
  rw [ha.odd h1, vp_nar_byte] at a1 a2
  refine kk H1 locs1 _ (GL_set (S1 := S.wi (d / 2) j.toNatClampNeg v.toInt8.toInt32) hG rfl rfl ⟨rfl, rfl⟩ hG.2.2.2.2.1.wi h2 ?_ (fun i hi => dcel_cong rfl (wi_ne hi) rfl) a1 a2 a3) h
  rw [dcel_b (show (S.wi (d / 2) j.toNatClampNeg v.toInt8.toInt32).K (d / 2) = 200000 + mm from h3) h4, wi_eq]
theorem r2_pAZ (C : Cx p s m args meth c cc n own E) (hG : GL E s F H locs ad N S cells slots) (ha : RA E ad N d a) {j v : Int32} (hnz : vp_nar .boolean v = v) (hd : decode cc pc = .ok (.bastore, 1)) {fn : ZS → Option ρ} (h : aP S d 300000 j v fn = some r)
    (kk : ∀ (H1 : Heap) (locs1 : List Loc) (S1 : ZS), GL E s F H1 locs1 ad N S1 cells slots → fn S1 = some r → W p l e (F.R kf) s m args below meth c H1 locs1 cells slots Q (F0 m (pc + 1) ls rest)) : W p l e (F.R kf) s m args below meth c H locs cells slots Q (F0 m pc ls (.int v :: .int j :: .ref a :: rest)) := by
  obtain ⟨hx, hb, -, hown, hts, hK, -⟩ := C
  obtain ⟨h0, h⟩ := ite_inv h
  obtain ⟨h1, h2, mm, h3, h4, hin⟩ := inA_inv h0
  have he : (wd E ad S)[NC + d / 2]? = some (a, .inl (E.tX 0, mm, .inl (S.i (d / 2)))) := by rw [GL_at hG ha h1 h2, dcel_z h3 h4]
  refine va_zast hx hb hK hG.1 hG.2.1 hG.2.2.1 _ 2 he rfl hin hd (fun H1 locs1 a1 a2 a3 => ?_)
  rw [ha.odd h1, hnz] at a1 a2
  refine kk H1 locs1 _ (GL_set (S1 := S.wi (d / 2) j.toNatClampNeg v) hG rfl rfl ⟨rfl, rfl⟩ hG.2.2.2.2.1.wi h2 ?_ (fun i hi => dcel_cong rfl (wi_ne hi) rfl) a1 a2 a3) h
  rw [dcel_z (show (S.wi (d / 2) j.toNatClampNeg v).K (d / 2) = 300000 + mm from h3) h4, wi_eq]
/-- a row's length, of each kind -/
theorem r2_len (C : Cx p s m args meth c cc n own E) (hG : GL E s F H locs ad N S cells slots) (ha : RA E ad N d a) (base : Nat) (hbs : base = 100000 ∨ base = 200000 ∨ base = 300000 ∨ base = 400000 ∨ base = 500000) (hd : decode cc pc = .ok (.arraylength, 1)) {fn : Int32 → Option ρ} (h : aL S d base fn = some r)
    (kk : ∀ x : Int32, fn x = some r → W p l e (F.R kf) s m args below meth c H locs cells slots Q (F0 m (pc + 1) ls (.int x :: rest))) : W p l e (F.R kf) s m args below meth c H locs cells slots Q (F0 m pc ls (.ref a :: rest)) := by
  obtain ⟨hx, hb, -, hown, hts, hK, -⟩ := C
  obtain ⟨h0, h⟩ := ite_inv h
  obtain ⟨h1, h2, mm, h3, h4⟩ := okA_inv h0
  have hv : nI (S.K (d / 2) - base) = Int32.ofNat mm := by rw [h3, Nat.add_sub_cancel_left]; rfl
  have he := GL_at hG ha h1 h2
  have h' : fn (Int32.ofNat mm) = some r := by rw [← hv]; exact h
  rcases hbs with rfl | rfl | rfl | rfl | rfl
  · rw [dcel_i h3 h4] at he
    exact va_alen (v := Int32.ofNat mm) hx hb hK hG.1 _ 0 he rfl rfl hd (kk _ h')
  · rw [dcel_b h3 h4] at he
    exact va_alen (v := Int32.ofNat mm) hx hb hK hG.1 _ 1 he rfl rfl hd (kk _ h')
  · rw [dcel_z h3 h4] at he
    exact va_alen (v := Int32.ofNat mm) hx hb hK hG.1 _ 2 he rfl rfl hd (kk _ h')
  · rw [dcel_a h3 h4] at he
    exact va_alen (v := Int32.ofNat mm) hx hb hK hG.1 _ 3 he rfl rfl hd (kk _ h')
  · rw [dcel_q h3 h4] at he
    exact va_alen (v := Int32.ofNat mm) hx hb hK hG.1 _ 4 he rfl rfl hd (kk _ h')
/-- an element of a row of int rows -/
theorem r2_gAA (C : Cx p s m args meth c cc n own E) (hG : GL E s F H locs ad N S cells slots) (ha : RA E ad N d a) {j : Int32} (hd : decode cc pc = .ok (.aaload, 1)) {fn : Nat → Option ρ} (h : aN S d 400000 j fn = some r)
    (kk : ∀ x b : Nat, RA E ad N x b → fn x = some r → W p l e (F.R kf) s m args below meth c H locs cells slots Q (F0 m (pc + 1) ls (.ref b :: rest))) : W p l e (F.R kf) s m args below meth c H locs cells slots Q (F0 m pc ls (.int j :: .ref a :: rest)) := by
  obtain ⟨hx, hb, -, hown, hts, hK, -⟩ := C
  obtain ⟨⟨h0, hz⟩, h⟩ := ite_inv h
  obtain ⟨h1, h2, mm, h3, h4, hin⟩ := inA_inv h0
  have hr : RA E ad N (S.r (d / 2) j.toNatClampNeg) (rA E ad (S.r (d / 2) j.toNatClampNeg)) := RA.of hz (by rw [← hG.2.2.2.1]; exact hG.2.2.2.2.1 _ _ h2)
  have he : (wd E ad S)[NC + d / 2]? = some (a, .inl (E.tX 1, mm, .inr (.inr (.inr (.inr (fun j => ro E ad (S.r (d / 2) j))))))) := by rw [GL_at hG ha h1 h2, dcel_a h3 h4]
  have hlt : j.toNatClampNeg < mm := Nat.not_le.mp fun q => hin (Or.inr q)
  have hv : va_rf (ro E ad (S.r (d / 2) j.toNatClampNeg)) = .ref (rA E ad (S.r (d / 2) j.toNatClampNeg)) := RA_rv hr
  refine W.aald (v := .ref (rA E ad (S.r (d / 2) j.toNatClampNeg))) (ty := .array .int) hx hb (hG.1 _ _ he) ((hK.2 3 _ rfl).1 mm (fun j => va_rf (ro E ad (S.r (d / 2) j)))) rfl (fun q => by cases q) (by show ¬ (j < 0 ∨ (arrV _ _ _).slots.size ≤ _); rw [arrV_size]; exact hin) (by show (arrV _ _ _).slots[_]? = _; rw [arrV_read _ _ hlt, hv]) rfl rfl hd (kk _ _ hr h)
theorem r2_gAQ (C : Cx p s m args meth c cc n own E) (hG : GL E s F H locs ad N S cells slots) (ha : RA E ad N d a) {j : Int32} (hd : decode cc pc = .ok (.aaload, 1)) {fn : Nat → Option ρ} (h : aN S d 500000 j fn = some r)
    (kk : ∀ x b : Nat, RA E ad N x b → fn x = some r → W p l e (F.R kf) s m args below meth c H locs cells slots Q (F0 m (pc + 1) ls (.ref b :: rest))) : W p l e (F.R kf) s m args below meth c H locs cells slots Q (F0 m pc ls (.int j :: .ref a :: rest)) := by
  obtain ⟨hx, hb, -, hown, hts, hK, -⟩ := C
  obtain ⟨⟨h0, hz⟩, h⟩ := ite_inv h
  obtain ⟨h1, h2, mm, h3, h4, hin⟩ := inA_inv h0
  have hr : RA E ad N (S.r (d / 2) j.toNatClampNeg) (rA E ad (S.r (d / 2) j.toNatClampNeg)) := RA.of hz (by rw [← hG.2.2.2.1]; exact hG.2.2.2.2.1 _ _ h2)
  have he : (wd E ad S)[NC + d / 2]? = some (a, .inl (E.tX 2, mm, .inr (.inr (.inr (.inr (fun j => ro E ad (S.r (d / 2) j))))))) := by rw [GL_at hG ha h1 h2, dcel_q h3 h4]
  have hv : va_rf (ro E ad (S.r (d / 2) j.toNatClampNeg)) = .ref (rA E ad (S.r (d / 2) j.toNatClampNeg)) := RA_rv hr
  refine va_aldq hx hb hK hG.1 _ 4 he rfl hin hd ?_
  rw [hv]
  exact kk _ _ hr h
theorem ra_set {ad : Nat → Nat} {S : ZS} {o k x : Nat} : (fun j => ro E ad ((S.wr o k x).r o j)) = va_up (fun j => ro E ad (S.r o j)) k (ro E ad x) := by
  funext j
  rw [wr_eq]
  by_cases hj : j = k
  · subst hj
    rw [va_up_self, va_up_self]
  · rw [va_up_ne _ _ hj, va_up_ne _ _ hj]
/-- an order into the row of orders -/
theorem r2_pAQ (C : Cx p s m args meth c cc n own E) (hG : GL E s F H locs ad N S cells slots) (ha : RA E ad N d a) {x b : Nat} (hb9 : RA E ad N x b) {j : Int32} (hd : decode cc pc = .ok (.aastore, 1)) {fn : ZS → Option ρ} (h : aR S d 500000 13 j x fn = some r)
    (kk : ∀ (H1 : Heap) (locs1 : List Loc) (S1 : ZS), GL E s F H1 locs1 ad N S1 cells slots → fn S1 = some r → W p l e (F.R kf) s m args below meth c H1 locs1 cells slots Q (F0 m (pc + 1) ls rest)) : W p l e (F.R kf) s m args below meth c H locs cells slots Q (F0 m pc ls (.ref b :: .int j :: .ref a :: rest)) := by
  obtain ⟨hx, hb, -, hown, hts, hK, -⟩ := C
  obtain ⟨⟨h0, hz⟩, h⟩ := ite_inv h
  obtain ⟨h1, h2, mm, h3, h4, hin⟩ := inA_inv h0
  obtain ⟨g1, g2, g3⟩ := okO_inv (show okO S x 13 = true from hz)
  have he : (wd E ad S)[NC + d / 2]? = some (a, .inl (E.tX 2, mm, .inr (.inr (.inr (.inr (fun j => ro E ad (S.r (d / 2) j))))))) := by rw [GL_at hG ha h1 h2, dcel_q h3 h4]
  have hv : (wd E ad S)[NC + x / 2]? = some (b, .inr (13, dfs E ad S (x / 2) 13)) := by rw [GL_at hG hb9 g1 g2, dcel_o g3 (by decide)]
  refine va_astq hx hb hK hG.1 hG.2.1 hG.2.2.1 _ 4 _ 13 he rfl hv KP13.1 hin hd (fun H1 locs1 a1 a2 a3 => ?_)
  rw [ha.odd h1] at a1 a2
  refine kk H1 locs1 _ (GL_set (S1 := S.wr (d / 2) j.toNatClampNeg x) hG rfl rfl ⟨rfl, rfl⟩ (hG.2.2.2.2.1.wr (by rw [hG.2.2.2.1]; exact hb9.2.2)) h2 ?_ (fun i hi => dcel_cong rfl rfl (wr_ne hi)) a1 a2 a3) h
  rw [dcel_q (show (S.wr (d / 2) j.toNatClampNeg x).K (d / 2) = 500000 + mm from h3) h4, ra_set]
  have : ro E ad x = some b := by unfold ro; rw [if_neg hb9.2.1, hb9.1]
  rw [this]
/-- an int row into a row of int rows -/
theorem r2_pAA (C : Cx p s m args meth c cc n own E) (hG : GL E s F H locs ad N S cells slots) (ha : RA E ad N d a) (hao : Cond.arrayOver (.array .int) ∈ TB) {x b : Nat} (hb9 : RA E ad N x b) {j : Int32} (hd : decode cc pc = .ok (.aastore, 1)) {fn : ZS → Option ρ} (h : aR S d 400000 100000 j x fn = some r)
    (kk : ∀ (H1 : Heap) (locs1 : List Loc) (S1 : ZS), GL E s F H1 locs1 ad N S1 cells slots → fn S1 = some r → W p l e (F.R kf) s m args below meth c H1 locs1 cells slots Q (F0 m (pc + 1) ls rest)) : W p l e (F.R kf) s m args below meth c H locs cells slots Q (F0 m pc ls (.ref b :: .int j :: .ref a :: rest)) := by
  obtain ⟨hx, hb, -, hown, hts, hK, -⟩ := C
  obtain ⟨⟨h0, hz⟩, h⟩ := ite_inv h
  obtain ⟨h1, h2, mm, h3, h4, hin⟩ := inA_inv h0
  obtain ⟨g1, g2, mx, g3, g4⟩ := okA_inv (show okA S x 100000 = true from hz)
  have he : (wd E ad S)[NC + d / 2]? = some (a, .inl (E.tX 1, mm, .inr (.inr (.inr (.inr (fun j => ro E ad (S.r (d / 2) j))))))) := by rw [GL_at hG ha h1 h2, dcel_a h3 h4]
  have hv : (wd E ad S)[NC + x / 2]? = some (b, .inl (E.tI, mx, .inl (S.i (x / 2)))) := by rw [GL_at hG hb9 g1 g2, dcel_i g3 g4]
  obtain ⟨comp, cA, kA, hcomp, hidx, hkA, hkindA, hnameA⟩ := arrayOverA_spec (hts _ hao)
  have hnm : s.vm.findClass ("[" ++ (FieldType.array .int).toString) = some (E.tX 1) := (hK.2 3 _ rfl).2
  have hnI : s.vm.findClass ("[" ++ (FieldType.int).toString) = some E.tI := (hK.2 0 _ rfl).2
  have e1 : E.tX 1 = cA := Option.some.inj (hnm.symm.trans hnameA)
  have e2 : E.tI = comp := Option.some.inj (hnI.symm.trans hcomp)
  obtain ⟨kc, hkc, -⟩ := Vm.findClass_spec hnI
  have hlt : j.toNatClampNeg < mm := Nat.not_le.mp fun q => hin (Or.inr q)
  have h00 : ¬ j < 0 := fun q => hin (Or.inl q)
  have hcell : H[a]? = some (vp_cell (E.tX 1) (mm, .inr (.inr (.inr (.inr (fun j => ro E ad (S.r (d / 2) j))))))) := hG.1 _ _ he
  have hvc : H[b]? = some (vp_cell E.tI (mx, .inl (S.i (x / 2)))) := hG.1 _ _ hv
  refine W.aast (t := .array .int) (comp := comp) hx hb hcell (fun q h9 => by cases h9) (fun h9 => by cases h9) (k := kA) (show s.vm.classes[E.tX 1]? = some kA by rw [e1]; exact hkA) hkindA rfl (kcomp := kc) (by rw [← e2]; exact hkc) ⟨h00, by show _ < (arrV _ _ _).slots.size; rw [arrV_size]; exact hlt⟩ hvc (fun q h9 => by cases h9) (kv := kc) hkc (by show s.vm.assignable E.tI comp = true; rw [← e2]; exact as_self s.vm E.tI) rfl rfl hd (fun H1 e9 z oq => ?_)
  have h5 : H1[a]? = some (vp_cell (E.tX 1) (mm, .inr (.inr (.inr (.inr (va_up (fun j => ro E ad (S.r (d / 2) j)) j.toNatClampNeg (some b))))))) := by
    rw [e9, vp_cell_q, vp_cell_q, arrV_store]
    congr 2
    funext q
    by_cases hq : q = j.toNatClampNeg
    · subst hq
      simp [updV, va_up, va_rf]
    · simp [updV, va_up, hq]
  have a1 := hG.1.set (e := .inl (E.tX 1, mm, .inr (.inr (.inr (.inr (va_up (fun j => ro E ad (S.r (d / 2) j)) j.toNatClampNeg (some b))))))) hG.2.1 he h5 oq
  have a2 := hG.2.1.set (e := .inl (E.tX 1, mm, .inr (.inr (.inr (.inr (va_up (fun j => ro E ad (S.r (d / 2) j)) j.toNatClampNeg (some b))))))) he
  have a3 := hG.2.2.1.put (k := j.toNatClampNeg) z oq (hG.2.1.2 _ _ he)
  rw [ha.odd h1] at a1 a2
  refine kk H1 _ _ (GL_set (S1 := S.wr (d / 2) j.toNatClampNeg x) hG rfl rfl ⟨rfl, rfl⟩ (hG.2.2.2.2.1.wr (by rw [hG.2.2.2.1]; exact hb9.2.2)) h2 ?_ (fun i hi => dcel_cong rfl rfl (wr_ne hi)) a1 a2 a3) h
  rw [dcel_a (show (S.wr (d / 2) j.toNatClampNeg x).K (d / 2) = 400000 + mm from h3) h4, ra_set]
  have : ro E ad x = some b := by unfold ro; rw [if_neg hb9.2.1, hb9.1]
  rw [this]
end LROWS
end
section
/-! new objects and rows; calls; ends -/
def nO {ρ : Type} (pr : ρ → ZS) (S : ZS) (kind slots : Nat) (f : Nat → ZS → Option ρ) : Option ρ := if 1 ≤ S.c ∧ slots ≤ S.w then chk pr (S.new kind slots z0) (f (2 * S.n + 1) (S.new kind slots z0)) else none
def nA {ρ : Type} (pr : ρ → ZS) (S : ZS) (base : Nat) (j : Int32) (f : Nat → ZS → Option ρ) : Option ρ := if (¬ j < 0 ∧ j.toNatClampNeg < 100000) ∧ 1 ≤ S.c ∧ j.toNatClampNeg ≤ S.w then chk pr (S.new (base + j.toNatClampNeg) j.toNatClampNeg z0) (f (2 * S.n + 1) (S.new (base + j.toNatClampNeg) j.toNatClampNeg z0)) else none
def dfV (pos : Nat) : List Value := (List.range (dns pos)).map (fun k => if dsk pos k = 1 then .null else .int 0)
theorem dcel_new {E : EV} {ad : Nat → Nat} {S : ZS} {pos slots : Nat} (hp : pos < 15) : dcel E ad (S.new pos slots z0) S.n = .inr (pos, dfV pos) := by
  have hK : (S.new pos slots z0).K S.n = pos := if_pos rfl
  rw [dcel_o hK hp]
  congr 2
  unfold dfs dfV
  apply List.map_congr_left
  intro k _
  have hi : (S.new pos slots z0).i S.n k = 0 := by
    show (if S.n = S.n then z0 else S.i S.n) k = 0
    rw [if_pos rfl]
    rfl
  have hr : (S.new pos slots z0).r S.n k = 0 := by
    show (if S.n = S.n then (fun _ => 0) else S.r S.n) k = 0
    rw [if_pos rfl]
  unfold dval
  rw [hi, hr]
  rfl
theorem new_i {S : ZS} {kind slots : Nat} {f : Nat → Int32} : (S.new kind slots f).i S.n = f := by
  show (if S.n = S.n then f else S.i S.n) = f
  rw [if_pos rfl]
theorem new_r {S : ZS} {kind slots : Nat} {f : Nat → Int32} : (S.new kind slots f).r S.n = fun _ => 0 := by
  show (if S.n = S.n then (fun _ => 0) else S.r S.n) = _
  rw [if_pos rfl]
theorem new_K {S : ZS} {kind slots : Nat} {f : Nat → Int32} : (S.new kind slots f).K S.n = kind := by
  show (if S.n = S.n then kind else S.K S.n) = kind
  rw [if_pos rfl]
def upA (ad : Nat → Nat) (n q : Nat) : Nat → Nat := fun i => if i = n then q else ad i
theorem GX_upA {ad : Nat → Nat} {n q : Nat} : GX ad n (upA ad n q) (n + 1) := ⟨Nat.le_succ n, fun i hi => if_neg (by omega)⟩
section LCALLS
variable {p : Program} {l : Launch} {e : Env} {kf : Nat} {F : FT} {s : State} {m : MethodId} {args : Array Value} {below : List Frame} {meth : Method} {c : Code} {H : Heap} {locs : List Loc} {cells slots : Nat} {Q : State → Prop} {cc : ByteArray} {n : Nat} {own : String} {E : EV} {ad : Nat → Nat} {N : Nat} {S : ZS} {pc : Nat} {ls : Array Slot} {rest st : List Value} {ρ : Type} {r : ρ} {d a : Nat}
theorem GL_new (hG : GL E s F H locs ad N S cells slots) {kind sl q : Nat} {f : Nat → Int32} {y : va_E} {H1 : Heap} {locs1 : List Loc} (h1 : 1 ≤ S.c) (h2 : sl ≤ S.w) (h3 : F.uc ≤ S.c - 1 ∧ F.uw ≤ S.w - sl) (hy : dcel E (upA ad N q) (S.new kind sl f) S.n = y) (a1 : va_P E.D vwCl (wd E ad S ++ [(q, y)]) H1) (a2 : va_D F.A (wd E ad S ++ [(q, y)])) (a3 : va_S F.A s.heap H1 locs1) :
    GL E s F H1 locs1 (upA ad N q) (S.new kind sl f).n (S.new kind sl f) (cells + 1) (slots + sl) ∧ GX ad N (upA ad N q) (S.new kind sl f).n ∧ RA E (upA ad N q) (S.new kind sl f).n (2 * S.n + 1) q := by
  obtain ⟨b1, b2, b3, b4, b5, b6, b7, b8⟩ := hG
  subst b4
  have hx : GX ad S.n (upA ad S.n q) (S.new kind sl f).n := GX_upA
  have hq : upA ad S.n q S.n = q := if_pos rfl
  rw [wd_push b5 hx hq hy] at a1 a2
  have c1 : (S.new kind sl f).c = S.c - 1 := rfl
  have c2 : (S.new kind sl f).w = S.w - sl := rfl
  refine ⟨⟨a1, a2, a3, rfl, b5.new, by rw [c1]; omega, by rw [c2]; omega, b8.1.trans hx, h3⟩, hx, ?_, by omega, fun _ => ?_⟩
  · unfold rA
    rw [if_pos (by omega), show (2 * S.n + 1) / 2 = S.n by omega, hq]
  · show (2 * S.n + 1) / 2 < S.n + 1
    omega
theorem r2_new (C : Cx p s m args meth c cc n own E) (hA : CA F E s) (hG : GL E s F H locs ad N S cells slots) {pos nn idx : Nat} {cn : String} {T : u_T} {tt : Nat → FieldType} (hKP : KP pos cn T nn tt) (h1 : Cond.classLink own idx cn ∈ TB) (h2 : Cond.instantiable cn nn ∈ TB) (h3 : Cond.initialized cn ∈ TB) (hfs : ∀ j, j < nn → defaultValue (tt j) = vp_V (dfV pos) j) (hd : decode cc pc = .ok (.new idx, 3)) {fn : Nat → ZS → Option ρ} {pr : ρ → ZS} (hU : F.uc = (pr r).c ∧ F.uw = (pr r).w) (h : nO pr S pos nn fn = some r)
    (kk : ∀ (q x : Nat) (H1 : Heap) (ad1 : Nat → Nat) (S1 : ZS) (cells1 slots1 : Nat), GL E s F H1 locs ad1 S1.n S1 cells1 slots1 → GX ad N ad1 S1.n → RA E ad1 S1.n x q → fn x S1 = some r → W p l e (F.R kf) s m args below meth c H1 locs cells1 slots1 Q (F0 m (pc + 3) ls (.ref q :: rest))) : W p l e (F.R kf) s m args below meth c H locs cells slots Q (F0 m pc ls rest) := by
  obtain ⟨⟨c1, c2⟩, h⟩ := ite_inv h
  obtain ⟨⟨d1, d2⟩, h⟩ := chk_inv h
  have d1 : (pr r).c ≤ S.c - 1 := d1
  have d2 : (pr r).w ≤ S.w - nn := d2
  have hlt := KP_lt hKP
  obtain ⟨hc, hin, hty, -, -⟩ := hKP
  refine va_new (ci := pos) (fs := dfV pos) (C := cn) (T := T) (N := nn) C.1 C.2.1 C.2.2.2.2.1 hin tt hty C.2.2.2.1 (C.2.2.2.2.1 _ h1) (C.2.2.2.2.1 _ h2) (C.2.2.2.2.1 _ h3) C.2.2.2.2.2.1 hG.1 hG.2.1 hG.2.2.1 hA.1 hc hfs (by show _ ≤ F.c - F.uc; have := hG.2.2.2.2.2.1; omega) (by show _ ≤ F.w - F.uw; have := hG.2.2.2.2.2.2.1; omega) hd (fun q H1 a1 a2 a3 => ?_)
  obtain ⟨g1, g2, g3⟩ := GL_new (kind := pos) (f := z0) hG c1 c2 ⟨by omega, by omega⟩ (dcel_new hlt) a1 a2 a3
  exact kk q _ H1 _ _ _ _ g1 g2 g3 h
theorem tyL (C : Cx p s m args meth c cc n own E) {i : Nat} {t : FieldType} {cB : ClassId} (ht : E.tys[i]? = some (cB, t)) (hn : ∀ U : State, ∀ cA : ClassId, va_RA U cA t → U.vm.findClass ("[" ++ t.toString) = some cA) {cA : ClassId} {tys : List (ClassId × FieldType)} (hK : va_K E.D vwCl (tys ++ [(cA, t)]) s) : cA = cB := by
  have h1 : s.vm.findClass ("[" ++ t.toString) = some cA := hn s cA (hK.2 tys.length (cA, t) (by simp)).2
  have h2 : s.vm.findClass ("[" ++ t.toString) = some cB := hn s cB (C.2.2.2.2.2.1.2 i (cB, t) ht).2
  exact Option.some.inj (h1.symm.trans h2)
theorem r2_newI (C : Cx p s m args meth c cc n own E) (hA : CA F E s) (hG : GL E s F H locs ad N S cells slots) {z : Int32} (hA9 : Cond.arrayClass .int ∈ TB) (hd : decode cc pc = .ok (.newarray .int, 2)) {fn : Nat → ZS → Option ρ} {pr : ρ → ZS} (hU : F.uc = (pr r).c ∧ F.uw = (pr r).w) (h : nA pr S 100000 z fn = some r)
    (kk : ∀ (q x : Nat) (H1 : Heap) (ad1 : Nat → Nat) (S1 : ZS) (cells1 slots1 : Nat), GL E s F H1 locs ad1 S1.n S1 cells1 slots1 → GX ad N ad1 S1.n → RA E ad1 S1.n x q → fn x S1 = some r → W p l e (F.R kf) s m args below meth c H1 locs cells1 slots1 Q (F0 m (pc + 2) ls (.ref q :: rest))) : W p l e (F.R kf) s m args below meth c H locs cells slots Q (F0 m pc ls (.int z :: rest)) := by
  obtain ⟨⟨⟨z1, z2⟩, c1, c2⟩, h⟩ := ite_inv h
  obtain ⟨⟨d1, d2⟩, h⟩ := chk_inv h
  have d1 : (pr r).c ≤ S.c - 1 := d1
  have d2 : (pr r).w ≤ S.w - z.toNatClampNeg := d2
  refine va_newa (atype := .int) (ty := .int) (a0 := (z.toNatClampNeg, .inl z0)) C.1 C.2.1 (C.2.2.2.2.1 _ hA9) rfl C.2.2.2.2.2.1 hG.1 hG.2.1 hG.2.2.1 hA.1 (fun cA => rfl) z1 rfl (by show _ * 4 ≤ 536870912; omega) (by show _ ≤ F.c - F.uc; have := hG.2.2.2.2.2.1; omega) (by show _ ≤ F.w - F.uw; have := hG.2.2.2.2.2.2.1; omega) hd (fun q cA H1 a1 a2 a3 a4 => ?_)
  obtain rfl := tyL (i := 0) C rfl (fun _ _ q => q) a1
  obtain ⟨g1, g2, g3⟩ := GL_new (kind := 100000 + z.toNatClampNeg) (f := z0) hG c1 c2 ⟨by omega, by omega⟩ (by rw [dcel_i new_K z2, new_i]) a2 a3 a4
  exact kk q _ H1 _ _ _ _ g1 g2 g3 h
theorem r2_newB (C : Cx p s m args meth c cc n own E) (hA : CA F E s) (hG : GL E s F H locs ad N S cells slots) {z : Int32} (hA9 : Cond.arrayClass .byte ∈ TB) (hd : decode cc pc = .ok (.newarray .byte, 2)) {fn : Nat → ZS → Option ρ} {pr : ρ → ZS} (hU : F.uc = (pr r).c ∧ F.uw = (pr r).w) (h : nA pr S 200000 z fn = some r)
    (kk : ∀ (q x : Nat) (H1 : Heap) (ad1 : Nat → Nat) (S1 : ZS) (cells1 slots1 : Nat), GL E s F H1 locs ad1 S1.n S1 cells1 slots1 → GX ad N ad1 S1.n → RA E ad1 S1.n x q → fn x S1 = some r → W p l e (F.R kf) s m args below meth c H1 locs cells1 slots1 Q (F0 m (pc + 2) ls (.ref q :: rest))) : W p l e (F.R kf) s m args below meth c H locs cells slots Q (F0 m pc ls (.int z :: rest)) := by
  obtain ⟨⟨⟨z1, z2⟩, c1, c2⟩, h⟩ := ite_inv h
  obtain ⟨⟨d1, d2⟩, h⟩ := chk_inv h
  have d1 : (pr r).c ≤ S.c - 1 := d1
  have d2 : (pr r).w ≤ S.w - z.toNatClampNeg := d2
  refine va_newa (atype := .byte) (ty := .byte) (a0 := (z.toNatClampNeg, .inl z0)) C.1 C.2.1 (C.2.2.2.2.1 _ hA9) rfl C.2.2.2.2.2.1 hG.1 hG.2.1 hG.2.2.1 hA.1 (fun cA => rfl) z1 rfl (by show _ * 1 ≤ 536870912; omega) (by show _ ≤ F.c - F.uc; have := hG.2.2.2.2.2.1; omega) (by show _ ≤ F.w - F.uw; have := hG.2.2.2.2.2.2.1; omega) hd (fun q cA H1 a1 a2 a3 a4 => ?_)
  obtain rfl := tyL (i := 1) C rfl (fun _ _ q => q) a1
  obtain ⟨g1, g2, g3⟩ := GL_new (kind := 200000 + z.toNatClampNeg) (f := z0) hG c1 c2 ⟨by omega, by omega⟩ (by rw [dcel_b new_K z2, new_i]) a2 a3 a4
  exact kk q _ H1 _ _ _ _ g1 g2 g3 h
theorem r2_newZ (C : Cx p s m args meth c cc n own E) (hA : CA F E s) (hG : GL E s F H locs ad N S cells slots) {z : Int32} (hA9 : Cond.arrayClass .boolean ∈ TB) (hd : decode cc pc = .ok (.newarray .boolean, 2)) {fn : Nat → ZS → Option ρ} {pr : ρ → ZS} (hU : F.uc = (pr r).c ∧ F.uw = (pr r).w) (h : nA pr S 300000 z fn = some r)
    (kk : ∀ (q x : Nat) (H1 : Heap) (ad1 : Nat → Nat) (S1 : ZS) (cells1 slots1 : Nat), GL E s F H1 locs ad1 S1.n S1 cells1 slots1 → GX ad N ad1 S1.n → RA E ad1 S1.n x q → fn x S1 = some r → W p l e (F.R kf) s m args below meth c H1 locs cells1 slots1 Q (F0 m (pc + 2) ls (.ref q :: rest))) : W p l e (F.R kf) s m args below meth c H locs cells slots Q (F0 m pc ls (.int z :: rest)) := by
  obtain ⟨⟨⟨z1, z2⟩, c1, c2⟩, h⟩ := ite_inv h
  obtain ⟨⟨d1, d2⟩, h⟩ := chk_inv h
  have d1 : (pr r).c ≤ S.c - 1 := d1
  have d2 : (pr r).w ≤ S.w - z.toNatClampNeg := d2
  refine va_newa (atype := .boolean) (ty := .boolean) (a0 := (z.toNatClampNeg, .inl z0)) C.1 C.2.1 (C.2.2.2.2.1 _ hA9) rfl C.2.2.2.2.2.1 hG.1 hG.2.1 hG.2.2.1 hA.1 (fun cA => rfl) z1 rfl (by show _ * 1 ≤ 536870912; omega) (by show _ ≤ F.c - F.uc; have := hG.2.2.2.2.2.1; omega) (by show _ ≤ F.w - F.uw; have := hG.2.2.2.2.2.2.1; omega) hd (fun q cA H1 a1 a2 a3 a4 => ?_)
  obtain rfl := tyL (i := 2) C rfl (fun _ _ q => q) a1
  obtain ⟨g1, g2, g3⟩ := GL_new (kind := 300000 + z.toNatClampNeg) (f := z0) hG c1 c2 ⟨by omega, by omega⟩ (by rw [dcel_z new_K z2, new_i]) a2 a3 a4
  exact kk q _ H1 _ _ _ _ g1 g2 g3 h
theorem r2_newQ (C : Cx p s m args meth c cc n own E) (hA : CA F E s) (hG : GL E s F H locs ad N S cells slots) {z : Int32} {idx : Nat} (h1 : Cond.classLink own idx "PeriscopeTrainLaw$Order" ∈ TB) (h2 : Cond.arrayOver (.object "PeriscopeTrainLaw$Order") ∈ TB) (hd : decode cc pc = .ok (.anewarray idx, 3)) {fn : Nat → ZS → Option ρ} {pr : ρ → ZS} (hU : F.uc = (pr r).c ∧ F.uw = (pr r).w) (h : nA pr S 500000 z fn = some r)
    (kk : ∀ (q x : Nat) (H1 : Heap) (ad1 : Nat → Nat) (S1 : ZS) (cells1 slots1 : Nat), GL E s F H1 locs ad1 S1.n S1 cells1 slots1 → GX ad N ad1 S1.n → RA E ad1 S1.n x q → fn x S1 = some r → W p l e (F.R kf) s m args below meth c H1 locs cells1 slots1 Q (F0 m (pc + 3) ls (.ref q :: rest))) : W p l e (F.R kf) s m args below meth c H locs cells slots Q (F0 m pc ls (.int z :: rest)) := by
  obtain ⟨⟨⟨z1, z2⟩, c1, c2⟩, h⟩ := ite_inv h
  obtain ⟨⟨d1, d2⟩, h⟩ := chk_inv h
  have d1 : (pr r).c ≤ S.c - 1 := d1
  have d2 : (pr r).w ≤ S.w - z.toNatClampNeg := d2
  refine va_newq (C := "PeriscopeTrainLaw$Order") C.1 C.2.1 C.2.2.2.1 (C.2.2.2.2.1 _ h1) (va_AO.of (C.2.2.2.2.1 _ h2)) C.2.2.2.2.2.1 hG.1 hG.2.1 hG.2.2.1 hA.1 z1 rfl (by omega) (by show _ ≤ F.c - F.uc; have := hG.2.2.2.2.2.1; omega) (by show _ ≤ F.w - F.uw; have := hG.2.2.2.2.2.2.1; omega) hd (fun q cA H1 a1 a2 a3 a4 => ?_)
  obtain rfl := tyL (i := 4) C rfl (fun U cA q => by obtain ⟨kA, comp, -, -, -, q⟩ := q; exact q) a1
  obtain ⟨g1, g2, g3⟩ := GL_new (kind := 500000 + z.toNatClampNeg) (f := z0) hG c1 c2 ⟨by omega, by omega⟩ (by rw [dcel_q new_K z2, new_r]; rfl) a2 a3 a4
  exact kk q _ H1 _ _ _ _ g1 g2 g3 h
theorem r2_newA (C : Cx p s m args meth c cc n own E) (hA : CA F E s) (hG : GL E s F H locs ad N S cells slots) {z : Int32} {idx : Nat} (h1 : Cond.classLink own idx (FieldType.array .int).toString ∈ TB) (h2 : Cond.arrayOver (.array .int) ∈ TB) (hd : decode cc pc = .ok (.anewarray idx, 3)) {fn : Nat → ZS → Option ρ} {pr : ρ → ZS} (hU : F.uc = (pr r).c ∧ F.uw = (pr r).w) (h : nA pr S 400000 z fn = some r)
    (kk : ∀ (q x : Nat) (H1 : Heap) (ad1 : Nat → Nat) (S1 : ZS) (cells1 slots1 : Nat), GL E s F H1 locs ad1 S1.n S1 cells1 slots1 → GX ad N ad1 S1.n → RA E ad1 S1.n x q → fn x S1 = some r → W p l e (F.R kf) s m args below meth c H1 locs cells1 slots1 Q (F0 m (pc + 3) ls (.ref q :: rest))) : W p l e (F.R kf) s m args below meth c H locs cells slots Q (F0 m pc ls (.int z :: rest)) := by
  obtain ⟨⟨⟨z1, z2⟩, c1, c2⟩, h⟩ := ite_inv h
  obtain ⟨⟨d1, d2⟩, h⟩ := chk_inv h
  have d1 : (pr r).c ≤ S.c - 1 := d1
  have d2 : (pr r).w ≤ S.w - z.toNatClampNeg := d2
  refine W.anewA (t := .int) C.1 C.2.1 C.2.2.2.1 (C.2.2.2.2.1 _ h1) (C.2.2.2.2.1 _ h2) rfl hd rfl z1 (by omega) (by show _ ≤ F.c - F.uc; have := hG.2.2.2.2.2.1; omega) (by show _ ≤ F.w - F.uw; have := hG.2.2.2.2.2.2.1; omega) (fun cA kA comp e1 e2 e3 e4 => ?_)
  have hnm : s.vm.findClass ("[" ++ (FieldType.array .int).toString) = some (E.tX 1) := (C.2.2.2.2.2.1.2 3 _ rfl).2
  obtain rfl : cA = E.tX 1 := Option.some.inj (e1.symm.trans hnm)
  have hcell : (H.push { cls := E.tX 1, slots := Array.replicate z.toNatClampNeg .null, vm := .none })[H.size]? = some (vp_cell (E.tX 1) (z.toNatClampNeg, .inr (.inr (.inr (.inr (fun _ => none)))))) := by
    rw [Array.getElem?_push_size]
    rw [vp_cell_q]
    unfold arrV
    congr 2
    apply Array.ext'
    rw [Array.toList_replicate]
    apply List.ext_getElem?
    intro i
    by_cases hi : i < z.toNatClampNeg <;> simp [hi, va_rf]
  have hold : ∀ q, q < H.size → (H.push { cls := E.tX 1, slots := Array.replicate z.toNatClampNeg .null, vm := .none })[q]? = H[q]? := fun q hq => by rw [Array.getElem?_push_lt hq, Array.getElem?_eq_getElem hq]
  have hz : s.heap.size ≤ H.size := hG.2.2.1.1
  have a2 : va_P E.D vwCl (wd E ad S ++ [(H.size, .inl (E.tX 1, z.toNatClampNeg, .inr (.inr (.inr (.inr (fun _ => none))))))]) (H.push { cls := E.tX 1, slots := Array.replicate z.toNatClampNeg .null, vm := .none }) := by
    refine va_P.app (hG.1.kept (fun k q hk => hold _ (hG.1 k q hk).lt)) (fun k q hk => ?_)
    have h0 : k = 0 := by
      have := (List.getElem?_eq_some_iff.mp hk).1
      simp at this
      exact this
    subst h0
    cases hk
    exact hcell
  have a3 : va_D F.A (wd E ad S ++ [(H.size, .inl (E.tX 1, z.toNatClampNeg, .inr (.inr (.inr (.inr (fun _ => none))))))]) := hG.2.1.push hG.1 rfl (hA.1 _ hz)
  have a4 : va_S F.A s.heap (H.push { cls := E.tX 1, slots := Array.replicate z.toNatClampNeg .null, vm := .none }) locs := ⟨by rw [Array.size_push]; omega, fun q h8 h9 => by rw [hold q (by omega)]; exact hG.2.2.1.2.1 q h8 h9, hG.2.2.1.2.2⟩
  obtain ⟨g1, g2, g3⟩ := GL_new (kind := 400000 + z.toNatClampNeg) (f := z0) hG c1 c2 ⟨by omega, by omega⟩ (by rw [dcel_a new_K z2, new_r]; rfl) a2 a3 a4
  exact kk H.size _ _ _ _ _ _ g1 g2 g3 h
/-! calls of the law's own methods -/
theorem pre_okL (C : Cx p s m args meth c cc n own E) (hA : CA F E s) (hG : GL E s F H locs ad N S cells slots) (av : List Value) : ∀ U : State, U.heap = H → s.WarmedH U.vm → PL E H.size ad av S av.toArray U := by
  intro U hU hW
  obtain ⟨-, -, -, -, -, hK, hN, -, hz, hAD, hO⟩ := C
  have hS := hG.2.2.1
  have hsz : E.sz ≤ H.size := Nat.le_trans hz hS.1
  refine ⟨rfl, by rw [hU], by rw [hU]; exact hsz, by rw [hU]; exact hG.1, va_K.moved hW.alike hK, hAD, fun w hw => Nw_warm hW hw (hN w hw), ?_, ⟨hG.2.1.1, fun k q hq => hA.2 _ (hG.2.1.2 k q hq)⟩, hG.2.2.2.2.1⟩
  rw [hU]
  exact OO.step hW hz (fun a ha => hS.2.1 a (Nat.lt_of_lt_of_le ha hz) (fun h => Nat.not_le.mpr ha (hA.2 _ h))) hO
theorem AL_in (hA : CA F E s) (hG : GL E s F H locs ad N S cells slots) : ∀ q, AL E ad S.n H.size q → F.A q := by
  rintro q (⟨i, hi, rfl⟩ | ⟨i, hi, rfl⟩ | h)
  · exact hG.2.1.2 _ _ (wd_cl hi)
  · exact hG.2.1.2 _ _ (wd_at hi)
  · exact hA.1 _ (Nat.le_trans hG.2.2.1.1 h)
theorem GL_back (hA : CA F E s) (hG : GL E s F H locs ad N S cells slots) {u : ZS} {ad1 : Nat → Nat} {t : State} {H1 : Heap} {locs1 : List Loc} (hcu : F.uc ≤ u.c ∧ F.uw ≤ u.w) (hB : PU E H.size ad S u ad1 t) (ht : t.heap = H1) (hS : va_S F.A s.heap H1 locs1) :
    GL E s F H1 locs1 ad1 u.n u (cells + (S.c - u.c)) (slots + (S.w - u.w)) ∧ GX ad N ad1 u.n := by
  obtain ⟨h1, h2, h3, h4, h5, h6⟩ := hB
  have hin := AL_in hA hG
  obtain ⟨b1, b2, b3, b4, b5, b6, b7, b8⟩ := hG
  subst b4
  rw [ht] at h1
  exact ⟨⟨h1, ⟨h2.1, fun k q hq => hin _ (h2.2 k q hq)⟩, hS, rfl, h3, by omega, by omega, b8.1.trans h4, hcu⟩, h4⟩
theorem run2_V (C : Cx p s m args meth c cc n own E) (hA : CA F E s) (hls : ls.size = n) (hG : GL E s F H locs ad N S cells slots) (ha : RA E ad N d a) {y : MethodName} {c' : ByteArray} {n' : Nat} {rt : Option FieldType} {k np idx pos nn : Nat} {As : List Value} {av : (Nat → Nat) → List Value} {u : ZS} (hcu : F.uc ≤ u.c ∧ F.uw ≤ u.w) {QQ : Nat → (Nat → Nat) → Array Value → State → Outcome → State → Prop} {T : u_T} {tt : Nat → FieldType}
    (hM : ML2 E l y c' n' rt k av S u QQ) (hav : av ad = .ref a :: As) (hm : MLV own idx y c' n' rt np) (hKP : KP pos y.cls T nn tt) (ho : okO S d pos = true) (hlen : As.length = np) (hR : k + 1 ≤ kf ∧ 8 + (n' + 11) + 60 * k ≤ 60 * kf) (hrest : (rest.map fun v => v.category).sum ≤ 8) (hst : st = As.reverse ++ .ref a :: rest) (hd : decode cc pc = .ok (.invokevirtual idx, 3)) :
    va_Run p l e (F.R kf) s m args below meth c H locs cells slots (S.c - u.c) (S.w - u.w) (F0 m pc ls st) rest (QQ H.size ad (Value.ref a :: As).toArray) (AL E ad S.n H.size) := by
  have hpre := pre_okL C hA hG (.ref a :: As)
  obtain ⟨hx, hb, hml, hown, hts, hK, hN, -⟩ := id C
  obtain ⟨h1, h2, h3, h4, h5, h6⟩ := hm
  obtain ⟨o1, o2, o3⟩ := okO_inv ho
  have he : (wd E ad S)[NC + d / 2]? = some (a, .inr (pos, dfs E ad S (d / 2) pos)) := by rw [GL_at hG ha o1 o2, dcel_o o3 (KP_lt hKP)]
  have hrecv := va_recv hK hG.1 (ci := pos) hKP.1 he
  have hf : cells + (S.c - u.c) ≤ F.c - F.uc ∧ slots + (S.w - u.w) ≤ F.w - F.uw := by
    obtain ⟨q1, q2⟩ := hcu
    obtain ⟨q3, q4⟩ := hG.2.2.2.2.2.2.2.2
    have e1 := hG.2.2.2.2.2.1
    have e2 := hG.2.2.2.2.2.2.1
    constructor <;> omega
  have hM' := hM H.size ad
  rw [hav] at hM'
  rcases h6 with h6 | ⟨host, h6⟩
  · exact va_runV (C := y.cls) (Ts := TB) ⟨hx, hb, hml, hown, hts⟩ hM' ⟨callB_of np hts (gwz h1) rfl rfl rfl (hts _ h2) (hts _ h6) h5 hR, hts _ h3, hts _ h4⟩ ⟨PL_blind, hrecv, hpre⟩ rfl hlen hls hst (lv_room hrest) hd hf
  · exact va_runVN (C := y.cls) (Ts := TB) (host := host) ⟨hx, hb, hml, hown, hts⟩ hM' ⟨va_cnB np hts (gwz h1) rfl rfl rfl (hN _ h6) (hts _ h2) h5 hR, hts _ h3, hts _ h4⟩ ⟨PL_blind, hrecv, hpre⟩ rfl hlen hls hst (lv_room hrest) hd hf
theorem run2_S (C : Cx p s m args meth c cc n own E) (hA : CA F E s) (hls : ls.size = n) (hG : GL E s F H locs ad N S cells slots) {y : MethodName} {c' : ByteArray} {n' : Nat} {rt : Option FieldType} {k np idx : Nat} {As : List Value} {av : (Nat → Nat) → List Value} {u : ZS} (hcu : F.uc ≤ u.c ∧ F.uw ≤ u.w) {QQ : Nat → (Nat → Nat) → Array Value → State → Outcome → State → Prop}
    (hM : ML2 E l y c' n' rt k av S u QQ) (hav : av ad = As) (hm : MLS own idx y c' n' rt np) (hlen : As.length = np) (hR : k + 1 ≤ kf ∧ 8 + (n' + 11) + 60 * k ≤ 60 * kf) (hrest : (rest.map fun v => v.category).sum ≤ 8) (hst : st = As.reverse ++ rest) (hd : decode cc pc = .ok (.invokestatic idx, 3)) :
    va_Run p l e (F.R kf) s m args below meth c H locs cells slots (S.c - u.c) (S.w - u.w) (F0 m pc ls st) rest (QQ H.size ad As.toArray) (AL E ad S.n H.size) := by
  have hpre := pre_okL C hA hG As
  obtain ⟨hx, hb, hml, hown, hts, hK, hN, -⟩ := id C
  obtain ⟨h1, h2, h3, h5, h6⟩ := hm
  have hf : cells + (S.c - u.c) ≤ F.c - F.uc ∧ slots + (S.w - u.w) ≤ F.w - F.uw := by
    obtain ⟨q1, q2⟩ := hcu
    obtain ⟨q3, q4⟩ := hG.2.2.2.2.2.2.2.2
    have e1 := hG.2.2.2.2.2.1
    have e2 := hG.2.2.2.2.2.2.1
    constructor <;> omega
  have hM' := hM H.size ad
  rw [hav] at hM'
  rcases h6 with h6 | ⟨host, h6⟩
  · exact va_runS (Ts := TB) ⟨hx, hb, hml, hown, hts⟩ hM' ⟨callB_of np hts (gwz h1) rfl rfl rfl (hts _ h2) (hts _ h6) h5 hR, hts _ h3⟩ ⟨PL_blind, hpre⟩ rfl hlen hls hst (lv_room hrest) hd hf
  · exact va_runSN (Ts := TB) (host := host) ⟨hx, hb, hml, hown, hts⟩ hM' ⟨va_cnB np hts (gwz h1) rfl rfl rfl (hN _ h6) (hts _ h2) h5 hR, hts _ h3, trivial⟩ ⟨PL_blind, hpre⟩ rfl hlen hls hst (lv_room hrest) hd hf
def MLI (own : String) (idx : Nat) (y : MethodName) (c : ByteArray) (n : Nat) (np : Nat) : Prop := Cond.code y c n none ∈ TB ∧ Cond.initialized y.cls ∈ TB ∧ Cond.instanceMethod y ∈ TB ∧ y.name = "<init>" ∧ hdOk y np ∧ (Cond.methodLink own idx y ∈ TB ∨ ∃ host, Cond.methodLinkNest own idx y host ∈ NB)
theorem run2_I (C : Cx p s m args meth c cc n own E) (hA : CA F E s) (hls : ls.size = n) (hG : GL E s F H locs ad N S cells slots) {y : MethodName} {c' : ByteArray} {n' k np idx : Nat} {As : List Value} {av : (Nat → Nat) → List Value} {u : ZS} (hcu : F.uc ≤ u.c ∧ F.uw ≤ u.w) {QQ : Nat → (Nat → Nat) → Array Value → State → Outcome → State → Prop}
    (hM : ML2 E l y c' n' none k av S u QQ) (hav : av ad = .ref a :: As) (hm : MLI own idx y c' n' np) (hlen : As.length = np) (hR : k + 1 ≤ kf ∧ 8 + (n' + 11) + 60 * k ≤ 60 * kf) (hrest : (rest.map fun v => v.category).sum ≤ 8) (hst : st = As.reverse ++ .ref a :: rest) (hd : decode cc pc = .ok (.invokespecial idx, 3)) :
    va_Run p l e (F.R kf) s m args below meth c H locs cells slots (S.c - u.c) (S.w - u.w) (F0 m pc ls st) rest (QQ H.size ad (Value.ref a :: As).toArray) (AL E ad S.n H.size) := by
  have hpre := pre_okL C hA hG (.ref a :: As)
  obtain ⟨hx, hb, hml, hown, hts, hK, hN, -⟩ := id C
  obtain ⟨h1, h2, h3, h4, h5, h6⟩ := hm
  have hf : cells + (S.c - u.c) ≤ F.c - F.uc ∧ slots + (S.w - u.w) ≤ F.w - F.uw := by
    obtain ⟨q1, q2⟩ := hcu
    obtain ⟨q3, q4⟩ := hG.2.2.2.2.2.2.2.2
    have e1 := hG.2.2.2.2.2.1
    have e2 := hG.2.2.2.2.2.2.1
    constructor <;> omega
  have hM' := hM H.size ad
  rw [hav] at hM'
  rcases h6 with h6 | ⟨host, h6⟩
  · exact va_runI (Ts := TB) ⟨hx, hb, hml, hown, hts⟩ hM' ⟨callB_of np hts (gwz h1) rfl rfl rfl (hts _ h2) (hts _ h6) h5 hR, h4, hts _ h3⟩ ⟨PL_blind, hpre⟩ rfl hlen hls hst (lv_room hrest) hd hf
  · exact va_runIN (Ts := TB) (host := host) ⟨hx, hb, hml, hown, hts⟩ hM' ⟨va_cnB np hts (gwz h1) rfl rfl rfl (hN _ h6) (hts _ h2) h5 hR, h4, hts _ h3⟩ ⟨PL_blind, hpre⟩ rfl hlen hls hst (lv_room hrest) hd hf
theorem af2_I (hA : CA F E s) (hG : GL E s F H locs ad N S cells slots) {a9 : Array Value} {u : Int32 × ZS} (hcu : F.uc ≤ u.2.c ∧ F.uw ≤ u.2.w) {st0 : List Value} (hr : va_Run p l e (F.R kf) s m args below meth c H locs cells slots (S.c - u.2.c) (S.w - u.2.w) (F0 m pc ls st0) rest (QIL E H.size ad S u a9) (AL E ad S.n H.size))
    (kk : ∀ (H1 : Heap) (locs1 : List Loc) (ad1 : Nat → Nat) (cells1 slots1 : Nat), GL E s F H1 locs1 ad1 u.2.n u.2 cells1 slots1 → GX ad N ad1 u.2.n → W p l e (F.R kf) s m args below meth c H1 locs1 cells1 slots1 Q (F0 m (pc + 3) ls (.int u.1 :: rest))) : W p l e (F.R kf) s m args below meth c H locs cells slots Q (F0 m pc ls st0) := by
  refine va_calli hr hG.2.2.1 (fun q _ h => AL_in hA hG q h) (AL_in hA hG) (fun r9 ad1 t H1 locs1 ht hvm hw hB hz hk hS => ?_)
  have hw : r9 = u.1 := hw
  subst hw
  obtain ⟨g1, g2⟩ := GL_back hA hG hcu hB ht hS
  exact kk H1 locs1 ad1 _ _ g1 g2
theorem af2_V (hA : CA F E s) (hG : GL E s F H locs ad N S cells slots) {a9 : Array Value} {u : ZS} (hcu : F.uc ≤ u.c ∧ F.uw ≤ u.w) {st0 : List Value} (hr : va_Run p l e (F.R kf) s m args below meth c H locs cells slots (S.c - u.c) (S.w - u.w) (F0 m pc ls st0) rest (QVL E H.size ad S u a9) (AL E ad S.n H.size))
    (kk : ∀ (H1 : Heap) (locs1 : List Loc) (ad1 : Nat → Nat) (cells1 slots1 : Nat), GL E s F H1 locs1 ad1 u.n u cells1 slots1 → GX ad N ad1 u.n → W p l e (F.R kf) s m args below meth c H1 locs1 cells1 slots1 Q (F0 m (pc + 3) ls rest)) : W p l e (F.R kf) s m args below meth c H locs cells slots Q (F0 m pc ls st0) := by
  refine va_callv hr hG.2.2.1 (fun q _ h => AL_in hA hG q h) (AL_in hA hG) (fun ad1 t H1 locs1 ht hvm hw hB hz hk hS => ?_)
  obtain ⟨g1, g2⟩ := GL_back hA hG hcu hB ht hS
  exact kk H1 locs1 ad1 _ _ g1 g2
theorem af2_R (hA : CA F E s) (hG : GL E s F H locs ad N S cells slots) {a9 : Array Value} {u : Nat × ZS} (hcu : F.uc ≤ u.2.c ∧ F.uw ≤ u.2.w) {st0 : List Value} (hr : va_Run p l e (F.R kf) s m args below meth c H locs cells slots (S.c - u.2.c) (S.w - u.2.w) (F0 m pc ls st0) rest (QRL E H.size ad S u a9) (AL E ad S.n H.size))
    (kk : ∀ (b : Nat) (H1 : Heap) (locs1 : List Loc) (ad1 : Nat → Nat) (cells1 slots1 : Nat), GL E s F H1 locs1 ad1 u.2.n u.2 cells1 slots1 → GX ad N ad1 u.2.n → RA E ad1 u.2.n u.1 b → W p l e (F.R kf) s m args below meth c H1 locs1 cells1 slots1 Q (F0 m (pc + 3) ls (.ref b :: rest))) : W p l e (F.R kf) s m args below meth c H locs cells slots Q (F0 m pc ls st0) := by
  refine va_callr hr hG.2.2.1 (fun q _ h => AL_in hA hG q h) (AL_in hA hG) (fun ad1 b t H1 locs1 ht hvm hw hB hz hk hS => ?_)
  obtain ⟨g1, g2⟩ := GL_back hA hG hcu hB.2 ht hS
  exact kk b H1 locs1 ad1 _ _ g1 g2 hB.1
/-! ends -/
theorem PU_end {S0 : ZS} (hF : FTk E s F S0 S) (hG : GL E s F H locs ad N S cells slots) : (∀ t : State, t.heap = H → PU E s.heap.size F.ad S0 S ad t) ∧ cells = F.c - F.uc ∧ slots = F.w - F.uw := by
  obtain ⟨f1, f2, f3, f4, f5, f6⟩ := hF
  obtain ⟨b1, b2, b3, b4, b5, b6, b7, b8⟩ := hG
  subst b4
  exact ⟨fun t ht => ⟨by rw [ht]; exact b1, by rw [← f1]; exact b2, b5, by rw [← f2]; exact b8.1, by omega, by omega⟩, by omega, by omega⟩
theorem r2_iret (C : Cx p s m args meth c cc n own E) {S0 : ZS} {u : Int32 × ZS} (hF : FTk E s F S0 u.2) (hG : GL E s F H locs ad N S cells slots) {ty : FieldType} (hr : meth.sig.returnType = some ty) {v : Int32} (hn : narrow ty (.int v) = .int v) (hd : decode cc pc = .ok (.ireturn, 1)) (h : some (v, S) = some u) : W p l e (F.R kf) s m args below meth c H locs cells slots (MQ below (QIL E s.heap.size F.ad S0 u) args s (F.c - F.uc) (F.w - F.uw) F.A) (F0 m pc ls [.int v]) := by
  cases h
  have hl : meth.locks = false := C.2.2.2.2.2.2.2.1
  obtain ⟨e1, rfl, rfl⟩ := PU_end hF hG
  exact W.zret C.1 C.2.1 hr hn (fun t ht hW => ⟨⟨v, ad, rfl, rfl, e1 t ht⟩, by rw [← hF.1]; exact hG.2.2.1.F ht⟩) hG.2.2.1.2.2 hd hl
theorem r2_vret (C : Cx p s m args meth c cc n own E) {S0 u : ZS} (hF : FTk E s F S0 u) (hG : GL E s F H locs ad N S cells slots) (hr : meth.sig.returnType = none) (hd : decode cc pc = .ok (.return_, 1)) (h : some S = some u) : W p l e (F.R kf) s m args below meth c H locs cells slots (MQ below (QVL E s.heap.size F.ad S0 u) args s (F.c - F.uc) (F.w - F.uw) F.A) (F0 m pc ls []) := by
  cases h
  have hl : meth.locks = false := C.2.2.2.2.2.2.2.1
  obtain ⟨e1, rfl, rfl⟩ := PU_end hF hG
  exact W.vret C.1 C.2.1 hr (fun t ht hW => ⟨⟨ad, rfl, trivial, e1 t ht⟩, by rw [← hF.1]; exact hG.2.2.1.F ht⟩) hG.2.2.1.2.2 hd hl
theorem r2_aret (C : Cx p s m args meth c cc n own E) {S0 : ZS} {u : Nat × ZS} (hF : FTk E s F S0 u.2) (hG : GL E s F H locs ad N S cells slots) (ha : RA E ad N d a) {ty : FieldType} (hty : (∃ nm, ty = .object nm) ∨ ∃ t, ty = .array t) (hr : meth.sig.returnType = some ty) (hd : decode cc pc = .ok (.areturn, 1)) (h : some (d, S) = some u) : W p l e (F.R kf) s m args below meth c H locs cells slots (MQ below (QRL E s.heap.size F.ad S0 u) args s (F.c - F.uc) (F.w - F.uw) F.A) (F0 m pc ls [.ref a]) := by
  cases h
  have hl : meth.locks = false := C.2.2.2.2.2.2.2.1
  obtain ⟨e1, rfl, rfl⟩ := PU_end hF hG
  have hn : S.n = N := hG.2.2.2.1
  exact W.aret C.1 C.2.1 hr hty (Or.inr ⟨_, rfl⟩) (fun t ht hW => ⟨⟨ad, a, rfl, trivial, by rw [hn]; exact ha, e1 t ht⟩, by rw [← hF.1]; exact hG.2.2.1.F ht⟩) hG.2.2.1.2.2 hd hl
def zrL (v : Int32) (S : ZS) : Option (Int32 × ZS) := if v = 0 ∨ v = 1 then some (v, S) else none
def zcL (v : Int32) (S : ZS) : Option (Int32 × ZS) := if 0 ≤ v ∧ v ≤ 65535 then some (v, S) else none
theorem r2_zret (C : Cx p s m args meth c cc n own E) {S0 : ZS} {u : Int32 × ZS} (hF : FTk E s F S0 u.2) (hG : GL E s F H locs ad N S cells slots) (hr : meth.sig.returnType = some .boolean) {v : Int32} (hd : decode cc pc = .ok (.ireturn, 1)) (h : zrL v S = some u) : W p l e (F.R kf) s m args below meth c H locs cells slots (MQ below (QIL E s.heap.size F.ad S0 u) args s (F.c - F.uc) (F.w - F.uw) F.A) (F0 m pc ls [.int v]) := by
  obtain ⟨h0, h⟩ := ite_inv h
  exact r2_iret C hF hG hr (by rcases h0 with rfl | rfl <;> rfl) hd h
theorem r2_cret (C : Cx p s m args meth c cc n own E) {S0 : ZS} {u : Int32 × ZS} (hF : FTk E s F S0 u.2) (hG : GL E s F H locs ad N S cells slots) (hr : meth.sig.returnType = some .char) {v : Int32} (hd : decode cc pc = .ok (.ireturn, 1)) (h : zcL v S = some u) : W p l e (F.R kf) s m args below meth c H locs cells slots (MQ below (QIL E s.heap.size F.ad S0 u) args s (F.c - F.uc) (F.w - F.uw) F.A) (F0 m pc ls [.int v]) := by
  obtain ⟨h0, h⟩ := ite_inv h
  have h1 : zcP v = some v := if_pos h0
  exact r2_iret C hF hG hr (zcP_inv h1).1 hd h
/-! calls of the class -/
theorem preCl (C : Cx p s m args meth c cc n own E) (hA : CA F E s) (hG : GL E s F H locs ad N S cells slots) (av : List Value) : ∀ U : State, U.heap = H → s.WarmedH U.vm → PC E H.size av S.g av.toArray U := by
  intro U hU hW
  obtain ⟨-, -, -, -, -, hK, hN, -, hz, hAD, hO⟩ := C
  have hS := hG.2.2.1
  have hsz : E.sz ≤ H.size := Nat.le_trans hz hS.1
  refine ⟨rfl, by rw [hU], by rw [hU]; exact hsz, ?_, va_K.moved hW.alike hK, hAD, fun w hw => Nw_warm hW hw (hN w hw), ?_⟩
  · rw [hU]
    intro k q hq
    refine hG.1 k q ?_
    unfold wd
    rw [List.getElem?_append_left (List.getElem?_eq_some_iff.mp hq).1]
    exact hq
  · rw [hU]
    exact OO.step hW hz (fun a ha => hS.2.1 a (Nat.lt_of_lt_of_le ha hz) (fun h => Nat.not_le.mpr ha (hA.2 _ h))) hO
theorem AA_inL (hA : CA F E s) (hG : GL E s F H locs ad N S cells slots) : ∀ q, AA E H.size q → F.A q := by
  rintro q (⟨i, hi, rfl⟩ | h)
  · exact hG.2.1.2 _ _ (wd_cl hi)
  · exact hA.1 _ (Nat.le_trans hG.2.2.1.1 h)
theorem GL_cls (hG : GL E s F H locs ad N S cells slots) {g1 : G} {c1 w1 : Nat} {H1 : Heap} {locs1 : List Loc} (hc : c1 ≤ S.c ∧ w1 ≤ S.w) (hc2 : F.uc ≤ S.c - c1 ∧ F.uw ≤ S.w - w1) (hB : va_P E.D vwCl (wl E g1) H1) (hk : ∀ q : Nat, q < H.size → ¬ AA E H.size q → H1[q]? = H[q]?) (hS : va_S F.A s.heap H1 locs1) : GL E s F H1 locs1 ad N ((S.wg g1).use c1 w1) (cells + c1) (slots + w1) := by
  obtain ⟨b1, b2, b3, b4, b5, b6, b7, b8⟩ := hG
  have hdl : dl E ad ((S.wg g1).use c1 w1) = dl E ad S := rfl
  have e1 : ((S.wg g1).use c1 w1).c = S.c - c1 := rfl
  have e2 : ((S.wg g1).use c1 w1).w = S.w - w1 := rfl
  refine ⟨?_, ?_, hS, b4, b5, by rw [e1]; omega, by rw [e2]; omega, b8.1, hc2⟩
  · show va_P E.D vwCl (wl E g1 ++ dl E ad S) H1
    refine va_P.app hB (fun k q hq => ?_)
    have hq' : (wd E ad S)[NC + k]? = some q := by
      unfold wd
      rw [wlx_ge (by omega), Nat.add_sub_cancel_left]
      exact hq
    have hat := b1 _ q hq'
    have hlt := hat.lt
    refine hat.kept (hk q.1 hlt ?_)
    rintro (⟨i, hi, e9⟩ | hge)
    · have := b2.1 (NC + k) i q (E.ad i, cel E S.g i) hq' (wd_cl hi) e9
      omega
    · omega
  · exact Gd_D (xs := dl E ad S) b2
/-- a call of the class that returns -/
theorem run2_cl (C : Cx p s m args meth c cc n own E) (hA : CA F E s) (hls : ls.size = n) (hG : GL E s F H locs ad N S cells slots) {y : MethodName} {c' : ByteArray} {n' : Nat} {rt : Option FieldType} {k np idx nn : Nat} {As : List Value} {QQ : Nat → Array Value → State → Outcome → State → Prop} {T : u_T} {tt : Nat → FieldType}
    (hM : MG E l y c' n' rt k 0 0 (.ref (E.ad 0) :: As) S.g QQ) (hm : MLV own idx y c' n' rt np) (h6 : Cond.methodLink own idx y ∈ TB) (hKC : KC 8 y.cls T nn tt) (hlen : As.length = np) (hR : k + 1 ≤ kf ∧ 8 + (n' + 11) + 60 * k ≤ 60 * kf) (hrest : (rest.map fun v => v.category).sum ≤ 8) (hst : st = As.reverse ++ .ref (E.ad 0) :: rest) (hd : decode cc pc = .ok (.invokevirtual idx, 3)) :
    va_Run p l e (F.R kf) s m args below meth c H locs cells slots 0 0 (F0 m pc ls st) rest (QQ H.size (Value.ref (E.ad 0) :: As).toArray) (AA E H.size) := by
  have hpre := preCl C hA hG (.ref (E.ad 0) :: As)
  obtain ⟨hx, hb, hml, hown, hts, hK, hN, -⟩ := id C
  obtain ⟨h1, h2, h3, h4, h5, -⟩ := hm
  have he : (wd E ad S)[0]? = some (E.ad 0, .inr (8 + 2, fsl E S.g 0 8)) := by rw [wd_cl (by decide), cel_o (ci := 8) (by decide) (by decide)]
  have hrecv := va_recv hK hG.1 (ci := 8 + 2) hKC.1 he
  have hf : cells + 0 ≤ F.c - F.uc ∧ slots + 0 ≤ F.w - F.uw := by
    have e1 := hG.2.2.2.2.2.1
    have e2 := hG.2.2.2.2.2.2.1
    obtain ⟨q1, q2⟩ := hG.2.2.2.2.2.2.2.2
    constructor <;> omega
  exact va_runV (C := y.cls) (Ts := TB) ⟨hx, hb, hml, hown, hts⟩ (hM H.size) ⟨callB_of np hts (gwz h1) rfl rfl rfl (hts _ h2) (hts _ h6) h5 hR, hts _ h3, hts _ h4⟩ ⟨PC_blind, hrecv, hpre⟩ rfl hlen hls hst (lv_room hrest) hd hf
theorem r2_clI (C : Cx p s m args meth c cc n own E) (hA : CA F E s) (hls : ls.size = n) (hG : GL E s F H locs ad N S cells slots) {y : MethodName} {c' : ByteArray} {n' : Nat} {rt : Option FieldType} {k np idx nn : Nat} (As : List Value) (rest : List Value) {kz : Option (Int32 × G)} {T : u_T} {tt : Nat → FieldType} (hM : ∀ u, kz = some u → MI E l y c' n' rt k 0 0 (.ref (E.ad 0) :: As) S.g u) (hm : MLV own idx y c' n' rt np) (h6 : Cond.methodLink own idx y ∈ TB) (hKC : KC 8 y.cls T nn tt) (hlen : As.length = np) (hR : k + 1 ≤ kf ∧ 8 + (n' + 11) + 60 * k ≤ 60 * kf) (hrest : (rest.map fun v => v.category).sum ≤ 8) (hst : st = As.reverse ++ .ref (E.ad 0) :: rest) (hd : decode cc pc = .ok (.invokevirtual idx, 3)) {fn : Int32 → ZS → Option ρ} (h : clI S kz fn = some r)
    (kk : ∀ (x : Int32) (S1 : ZS) (H1 : Heap) (locs1 : List Loc), GL E s F H1 locs1 ad N S1 cells slots → fn x S1 = some r → W p l e (F.R kf) s m args below meth c H1 locs1 cells slots Q (F0 m (pc + 3) ls (.int x :: rest))) : W p l e (F.R kf) s m args below meth c H locs cells slots Q (F0 m pc ls st) := by
  obtain ⟨u, hu, h⟩ := bind_inv h
  refine va_calli (run2_cl C hA hls hG (hM u hu) hm h6 hKC hlen hR hrest hst hd) hG.2.2.1 (fun q _ h => AA_inL hA hG q h) (AA_inL hA hG) (fun r9 u9 t H1 locs1 ht hvm hw hB hz hk hS => ?_)
  have hw : r9 = u.1 := hw
  subst hw
  exact kk _ _ H1 locs1 (GL_cls (c1 := 0) (w1 := 0) hG ⟨Nat.zero_le _, Nat.zero_le _⟩ hG.2.2.2.2.2.2.2.2 (by rw [← ht]; exact hB) hk hS) h
theorem r2_clL (C : Cx p s m args meth c cc n own E) (hA : CA F E s) (hls : ls.size = n) (hG : GL E s F H locs ad N S cells slots) {y : MethodName} {c' : ByteArray} {n' : Nat} {rt : Option FieldType} {k np idx nn : Nat} (As : List Value) (rest : List Value) {kz : Option (Int64 × G)} {T : u_T} {tt : Nat → FieldType} (hM : ∀ u, kz = some u → ML E l y c' n' rt k 0 0 (.ref (E.ad 0) :: As) S.g u) (hm : MLV own idx y c' n' rt np) (h6 : Cond.methodLink own idx y ∈ TB) (hKC : KC 8 y.cls T nn tt) (hlen : As.length = np) (hR : k + 1 ≤ kf ∧ 8 + (n' + 11) + 60 * k ≤ 60 * kf) (hrest : (rest.map fun v => v.category).sum ≤ 8) (hst : st = As.reverse ++ .ref (E.ad 0) :: rest) (hd : decode cc pc = .ok (.invokevirtual idx, 3)) {fn : Int64 → ZS → Option ρ} (h : clI S kz fn = some r)
    (kk : ∀ (x : Int64) (S1 : ZS) (H1 : Heap) (locs1 : List Loc), GL E s F H1 locs1 ad N S1 cells slots → fn x S1 = some r → W p l e (F.R kf) s m args below meth c H1 locs1 cells slots Q (F0 m (pc + 3) ls (.long x :: rest))) : W p l e (F.R kf) s m args below meth c H locs cells slots Q (F0 m pc ls st) := by
  obtain ⟨u, hu, h⟩ := bind_inv h
  refine va_calll (run2_cl C hA hls hG (hM u hu) hm h6 hKC hlen hR hrest hst hd) hG.2.2.1 (fun q _ h => AA_inL hA hG q h) (AA_inL hA hG) (fun r9 u9 t H1 locs1 ht hvm hw hB hz hk hS => ?_)
  have hw : r9 = u.1 := hw
  subst hw
  exact kk _ _ H1 locs1 (GL_cls (c1 := 0) (w1 := 0) hG ⟨Nat.zero_le _, Nat.zero_le _⟩ hG.2.2.2.2.2.2.2.2 (by rw [← ht]; exact hB) hk hS) h
theorem r2_clD (C : Cx p s m args meth c cc n own E) (hA : CA F E s) (hls : ls.size = n) (hG : GL E s F H locs ad N S cells slots) {y : MethodName} {c' : ByteArray} {n' : Nat} {rt : Option FieldType} {k np idx nn : Nat} (As : List Value) (rest : List Value) {kz : Option (UInt64 × G)} {T : u_T} {tt : Nat → FieldType} (hM : ∀ u, kz = some u → MD E l y c' n' rt k 0 0 (.ref (E.ad 0) :: As) S.g u) (hm : MLV own idx y c' n' rt np) (h6 : Cond.methodLink own idx y ∈ TB) (hKC : KC 8 y.cls T nn tt) (hlen : As.length = np) (hR : k + 1 ≤ kf ∧ 8 + (n' + 11) + 60 * k ≤ 60 * kf) (hrest : (rest.map fun v => v.category).sum ≤ 8) (hst : st = As.reverse ++ .ref (E.ad 0) :: rest) (hd : decode cc pc = .ok (.invokevirtual idx, 3)) {fn : UInt64 → ZS → Option ρ} (h : clI S kz fn = some r)
    (kk : ∀ (x : UInt64) (S1 : ZS) (H1 : Heap) (locs1 : List Loc), GL E s F H1 locs1 ad N S1 cells slots → fn x S1 = some r → W p l e (F.R kf) s m args below meth c H1 locs1 cells slots Q (F0 m (pc + 3) ls (.double x :: rest))) : W p l e (F.R kf) s m args below meth c H locs cells slots Q (F0 m pc ls st) := by
  obtain ⟨u, hu, h⟩ := bind_inv h
  refine va_calld (run2_cl C hA hls hG (hM u hu) hm h6 hKC hlen hR hrest hst hd) hG.2.2.1 (fun q _ h => AA_inL hA hG q h) (AA_inL hA hG) (fun r9 u9 t H1 locs1 ht hvm hw hB hz hk hS => ?_)
  have hw : r9 = u.1 := hw
  subst hw
  exact kk _ _ H1 locs1 (GL_cls (c1 := 0) (w1 := 0) hG ⟨Nat.zero_le _, Nat.zero_le _⟩ hG.2.2.2.2.2.2.2.2 (by rw [← ht]; exact hB) hk hS) h
/-- .. one that writes nothing -/
theorem r2_clP (C : Cx p s m args meth c cc n own E) (hA : CA F E s) (hls : ls.size = n) (hG : GL E s F H locs ad N S cells slots) {y : MethodName} {c' : ByteArray} {n' : Nat} {rt : Option FieldType} {k np idx nn : Nat} (As : List Value) (rest : List Value) {kz : Option Int32} {T : u_T} {tt : Nat → FieldType} (hM : ∀ u, kz = some u → MI E l y c' n' rt k 0 0 (.ref (E.ad 0) :: As) S.g (u, S.g)) (hm : MLV own idx y c' n' rt np) (h6 : Cond.methodLink own idx y ∈ TB) (hKC : KC 8 y.cls T nn tt) (hlen : As.length = np) (hR : k + 1 ≤ kf ∧ 8 + (n' + 11) + 60 * k ≤ 60 * kf) (hrest : (rest.map fun v => v.category).sum ≤ 8) (hst : st = As.reverse ++ .ref (E.ad 0) :: rest) (hd : decode cc pc = .ok (.invokevirtual idx, 3)) {fn : Int32 → Option ρ} (h : kz.bind fn = some r)
    (kk : ∀ (x : Int32) (H1 : Heap) (locs1 : List Loc), GL E s F H1 locs1 ad N S cells slots → fn x = some r → W p l e (F.R kf) s m args below meth c H1 locs1 cells slots Q (F0 m (pc + 3) ls (.int x :: rest))) : W p l e (F.R kf) s m args below meth c H locs cells slots Q (F0 m pc ls st) := by
  obtain ⟨u, hu, h⟩ := bind_inv h
  refine va_calli (run2_cl C hA hls hG (hM u hu) hm h6 hKC hlen hR hrest hst hd) hG.2.2.1 (fun q _ h => AA_inL hA hG q h) (AA_inL hA hG) (fun r9 u9 t H1 locs1 ht hvm hw hB hz hk hS => ?_)
  have hw : r9 = u := hw
  subst hw
  exact kk _ H1 locs1 (GL_cls (g1 := S.g) (c1 := 0) (w1 := 0) hG ⟨Nat.zero_le _, Nat.zero_le _⟩ hG.2.2.2.2.2.2.2.2 (by rw [← ht]; exact hB) hk hS) h
theorem r2_clLP (C : Cx p s m args meth c cc n own E) (hA : CA F E s) (hls : ls.size = n) (hG : GL E s F H locs ad N S cells slots) {y : MethodName} {c' : ByteArray} {n' : Nat} {rt : Option FieldType} {k np idx nn : Nat} (As : List Value) (rest : List Value) {kz : Option Int64} {T : u_T} {tt : Nat → FieldType} (hM : ∀ u, kz = some u → ML E l y c' n' rt k 0 0 (.ref (E.ad 0) :: As) S.g (u, S.g)) (hm : MLV own idx y c' n' rt np) (h6 : Cond.methodLink own idx y ∈ TB) (hKC : KC 8 y.cls T nn tt) (hlen : As.length = np) (hR : k + 1 ≤ kf ∧ 8 + (n' + 11) + 60 * k ≤ 60 * kf) (hrest : (rest.map fun v => v.category).sum ≤ 8) (hst : st = As.reverse ++ .ref (E.ad 0) :: rest) (hd : decode cc pc = .ok (.invokevirtual idx, 3)) {fn : Int64 → Option ρ} (h : kz.bind fn = some r)
    (kk : ∀ (x : Int64) (H1 : Heap) (locs1 : List Loc), GL E s F H1 locs1 ad N S cells slots → fn x = some r → W p l e (F.R kf) s m args below meth c H1 locs1 cells slots Q (F0 m (pc + 3) ls (.long x :: rest))) : W p l e (F.R kf) s m args below meth c H locs cells slots Q (F0 m pc ls st) := by
  obtain ⟨u, hu, h⟩ := bind_inv h
  refine va_calll (run2_cl C hA hls hG (hM u hu) hm h6 hKC hlen hR hrest hst hd) hG.2.2.1 (fun q _ h => AA_inL hA hG q h) (AA_inL hA hG) (fun r9 u9 t H1 locs1 ht hvm hw hB hz hk hS => ?_)
  have hw : r9 = u := hw
  subst hw
  exact kk _ H1 locs1 (GL_cls (g1 := S.g) (c1 := 0) (w1 := 0) hG ⟨Nat.zero_le _, Nat.zero_le _⟩ hG.2.2.2.2.2.2.2.2 (by rw [← ht]; exact hB) hk hS) h
/-- a call of the class that may throw: what follows a return, what follows a throw -/
theorem r2_clX (C : Cx p s m args meth c cc n own E) (hA : CA F E s) (hls : ls.size = n) (hG : GL E s F H locs ad N S cells slots) {y : MethodName} {c' : ByteArray} {n' : Nat} {rt : Option FieldType} {k mc' ms' np idx nn : Nat} (As : List Value) (rest : List Value) {w : XR} {T : u_T} {tt : Nat → FieldType} (hC : MXr E l y c' n' rt k mc' ms' (.ref (E.ad 0) :: As) S.g w) (hm : MLV own idx y c' n' rt np) (h6 : Cond.methodLink own idx y ∈ TB) (hKC : KC 8 y.cls T nn tt) (hlen : As.length = np) (hR : k + 1 ≤ kf ∧ 8 + (n' + 11) + 60 * k ≤ 60 * kf) (hrest : (rest.map fun v => v.category).sum ≤ 8) (hbud : mc' ≤ S.c ∧ ms' ≤ S.w) (hbu2 : F.uc ≤ S.c - mc' ∧ F.uw ≤ S.w - ms') (hst : st = As.reverse ++ .ref (E.ad 0) :: rest) (hd : decode cc pc = .ok (.invokevirtual idx, 3))
    (kk : w.1 = 0 → ∀ (H1 : Heap) (locs1 : List Loc) (cells1 slots1 : Nat), GL E s F H1 locs1 ad N ((S.wg w.2.2).use mc' ms') cells1 slots1 → W p l e (F.R kf) s m args below meth c H1 locs1 cells1 slots1 Q (F0 m (pc + 3) ls (.int w.2.1 :: rest)))
    (kx : w.1 ≠ 0 → ∀ (H1 : Heap) (locs1 : List Loc) (cells1 slots1 : Nat) (q : Addr) (ce : Cell), GL E s F H1 locs1 ad N ((S.wg w.2.2).use mc' ms') cells1 slots1 → H1[q]? = some ce → ce.vm = .none → s.vm.findClass (exN w.1) = some ce.cls → vx_W p l e (F.R kf) s m args below meth c H1 locs1 cells1 slots1 Q (F0 m pc ls rest) q) : W p l e (F.R kf) s m args below meth c H locs cells slots Q (F0 m pc ls st) := by
  have hpre := preCl C hA hG (.ref (E.ad 0) :: As)
  obtain ⟨hx, hb, hml, hown, hts, hK, hN, -⟩ := id C
  obtain ⟨h1, h2, h3, h4, h5, -⟩ := hm
  have he : (wd E ad S)[0]? = some (E.ad 0, .inr (8 + 2, fsl E S.g 0 8)) := by rw [wd_cl (by decide), cel_o (ci := 8) (by decide) (by decide)]
  have hrecv := va_recv hK hG.1 (ci := 8 + 2) hKC.1 he
  have hf : cells + mc' ≤ F.c - F.uc ∧ slots + ms' ≤ F.w - F.uw := by
    have e1 := hG.2.2.2.2.2.1
    have e2 := hG.2.2.2.2.2.2.1
    constructor <;> omega
  have hr := vx_runV (C := y.cls) (Ts := TB) (p := p) (meth := meth) (e := e) (R := F.R kf) (below := below) (c := c) (locs := locs) (cells := cells) (slots := slots) (g := F0 m pc ls st) (rest := rest) ⟨hx, hb, hml, hown, hts⟩ (hC H.size) ⟨callB_of np hts (gwz h1) rfl rfl rfl (hts _ h2) (hts _ h6) h5 hR, hts _ h3, hts _ h4⟩ ⟨PC_blind, hrecv, hpre⟩ rfl hlen hls hst (lv_room hrest) hd hf
  refine vx_calli hr hG.2.2.1 (fun q _ h => AA_inL hA hG q h) (AA_inL hA hG) (fun q _ h => AA_inL hA hG q h) (fun En ce q9 u9 t H1 locs1 e1 hvm hpx hBX hz hk hS hce hcv hcl => ?_) (fun r9 u9 t H1 locs1 e1 hvm hpost hB hz hk hS => ?_)
  · obtain ⟨rfl, hBX⟩ := hBX
    exact kx hpx H1 locs1 _ _ q9 ce (GL_cls hG hbud hbu2 (by rw [← e1]; exact hBX) hk hS) hce hcv hcl
  · obtain ⟨h0, rfl⟩ := hpost
    exact kk h0 H1 locs1 _ _ (GL_cls hG hbud hbu2 (by rw [← e1]; exact hB) hk hS)
/-- .. where the law has no use for a throw -/
theorem r2_clR (C : Cx p s m args meth c cc n own E) (hA : CA F E s) (hls : ls.size = n) (hG : GL E s F H locs ad N S cells slots) {y : MethodName} {c' : ByteArray} {n' : Nat} {rt : Option FieldType} {k mc' ms' np idx nn : Nat} (As : List Value) (rest : List Value) {kz : Option XR} {T : u_T} {tt : Nat → FieldType} (hC : ∀ w, kz = some w → MXr E l y c' n' rt k mc' ms' (.ref (E.ad 0) :: As) S.g w) (hm : MLV own idx y c' n' rt np) (h6 : Cond.methodLink own idx y ∈ TB) (hKC : KC 8 y.cls T nn tt) (hlen : As.length = np) (hR : k + 1 ≤ kf ∧ 8 + (n' + 11) + 60 * k ≤ 60 * kf) (hrest : (rest.map fun v => v.category).sum ≤ 8) (hst : st = As.reverse ++ .ref (E.ad 0) :: rest) (hd : decode cc pc = .ok (.invokevirtual idx, 3)) {fn : Int32 → ZS → Option ρ} {pr : ρ → ZS} (hU : F.uc = (pr r).c ∧ F.uw = (pr r).w) (h : clR pr S mc' ms' kz fn = some r)
    (kk : ∀ (x : Int32) (S1 : ZS) (H1 : Heap) (locs1 : List Loc) (cells1 slots1 : Nat), GL E s F H1 locs1 ad N S1 cells1 slots1 → fn x S1 = some r → W p l e (F.R kf) s m args below meth c H1 locs1 cells1 slots1 Q (F0 m (pc + 3) ls (.int x :: rest))) : W p l e (F.R kf) s m args below meth c H locs cells slots Q (F0 m pc ls st) := by
  obtain ⟨hbud, h⟩ := ite_inv h
  obtain ⟨w, hw, h⟩ := bind_inv h
  obtain ⟨h0, h⟩ := ite_inv h
  obtain ⟨⟨d1, d2⟩, h⟩ := chk_inv h
  exact r2_clX C hA hls hG As rest (hC w hw) hm h6 hKC hlen hR hrest hbud ⟨by rw [hU.1]; exact d1, by rw [hU.2]; exact d2⟩ hst hd (fun _ H1 locs1 cells1 slots1 hG1 => kk _ _ H1 locs1 cells1 slots1 hG1 h) (fun hx => absurd h0 hx)
end LCALLS
end
section
/-! calls, put together; methods that the builder inherits; rows of bytes -/
theorem LSEL : Cond.selects RJ4 yJ5_isLatin1_aae02 yJ5_isLatin1_aae02 ∈ TB := (mTBi 1356 (by decide +kernel) rfl)
section LCALLS2
variable {p : Program} {l : Launch} {e : Env} {kf : Nat} {F : FT} {s : State} {m : MethodId} {args : Array Value} {below : List Frame} {meth : Method} {c : Code} {H : Heap} {locs : List Loc} {cells slots : Nat} {Q : State → Prop} {cc : ByteArray} {n : Nat} {own : String} {E : EV} {ad : Nat → Nat} {N : Nat} {S : ZS} {pc : Nat} {ls : Array Slot} {rest st : List Value} {ρ : Type} {r : ρ} {d a : Nat}
theorem rm2 {k K n : Nat} (h : k < K) (hn : n ≤ 41) : k + 1 ≤ K ∧ 8 + (n + 11) + 60 * k ≤ 60 * K := ⟨h, by omega⟩
theorem RAq {x b : Nat} (hG : GL E s F H locs ad N S cells slots) (h : RA E ad N x b) : x ≠ 0 ∧ rk S.n x := ⟨h.2.1, by rw [hG.2.2.2.1]; exact h.2.2⟩
/-- private methods of the builder's superclass, called on a builder -/
theorem sel_priv {y : MethodName} (hy : y.cls = RJ5) (hts : ∀ w ∈ TB, w.before args s = true) (h1 : Cond.privateMethod y ∈ TB) (h2 : Cond.instanceMethod y ∈ TB) : (Cond.selects RJ4 y y).before args s = true := by
  have hmh : y.cls ≠ "java/lang/invoke/MethodHandle" ∧ y.cls ≠ "java/lang/invoke/VarHandle" := by rw [hy]; decide
  obtain ⟨cS, r0, m0, hcS, -, q3, -, kP, hkP, hkPi⟩ := Cond.selects_spec (hts _ LSEL)
  obtain ⟨mk, methM, hnamed, hmethM, -, -⟩ := Cond.instanceMethod_spec (hts _ h2)
  have hfound : s.methodFound? y.cls y.name y.desc = some mk := State.methodFound?_of_named hnamed hmh
  have e1 : s.vm.findClass y.cls = some mk.cls := findClass_of_methodNamed hnamed
  have e2 : s.vm.findClass RJ5 = some m0.cls := findClass_of_methodNamed q3
  have hcls : mk.cls = m0.cls := by
    rw [hy] at e1
    exact Option.some.inj (e1.symm.trans e2)
  have hsel : selectMethod {} s.vm cS mk = .method mk := selectMethod_private hmethM (Cond.privateMethod_at (hts _ h1) mk methM hnamed hmethM)
  have hkP' : s.vm.classes[mk.cls]? = some kP := by rw [hcls]; exact hkP
  simp only [Cond.before, Cond.holds, Cond.value, hcS, hfound, hnamed, hsel, hkP']
  simp [hkPi]
/-- what a call of an inherited method asks -/
def MLU (own : String) (idx : Nat) (x y : MethodName) (c : ByteArray) (n : Nat) (rt : Option FieldType) (np : Nat) : Prop := Cond.code y c n rt ∈ TB ∧ Cond.initialized y.cls ∈ TB ∧ Cond.instanceMethod y ∈ TB ∧ Cond.instanceMethod x ∈ TB ∧ x.cls = RJ5 ∧ Cond.sameMethod x.cls RJ5 x.name x.desc ∈ TB ∧ (Cond.selects RJ4 x y ∈ TB ∨ (x = y ∧ Cond.privateMethod y ∈ TB)) ∧ hdOk x np ∧ Cond.methodLink own idx x ∈ TB ∧ (x = y ∨ ∃ (b0 : ByteArray) (m0 : Nat) (r0 : Option FieldType), Cond.code x b0 m0 r0 ∈ TB)
theorem run2_U (C : Cx p s m args meth c cc n own E) (hA : CA F E s) (hls : ls.size = n) (hG : GL E s F H locs ad N S cells slots) (ha : RA E ad N d a) {x y : MethodName} {c' : ByteArray} {n' : Nat} {rt : Option FieldType} {k np idx : Nat} {As : List Value} {av : (Nat → Nat) → List Value} {u : ZS} (hcu : F.uc ≤ u.c ∧ F.uw ≤ u.w) {QQ : Nat → (Nat → Nat) → Array Value → State → Outcome → State → Prop}
    (hM : ML2 E l y c' n' rt k av S u QQ) (hav : av ad = .ref a :: As) (hm : MLU own idx x y c' n' rt np) (ho : okO S d 1 = true) (hlen : As.length = np) (hR : k + 1 ≤ kf ∧ 8 + (n' + 11) + 60 * k ≤ 60 * kf) (hrest : (rest.map fun v => v.category).sum ≤ 8) (hst : st = As.reverse ++ .ref a :: rest) (hd : decode cc pc = .ok (.invokevirtual idx, 3)) :
    va_Run p l e (F.R kf) s m args below meth c H locs cells slots (S.c - u.c) (S.w - u.w) (F0 m pc ls st) rest (QQ H.size ad (Value.ref a :: As).toArray) (AL E ad S.n H.size) := by
  have hpre := pre_okL C hA hG (.ref a :: As)
  obtain ⟨hx, hb, hml, hown, hts, hK, hN, -⟩ := id C
  obtain ⟨h1, h2, h3, h3x, hxc, h4, h5, h6, h7, h8⟩ := hm
  obtain ⟨o1, o2, o3⟩ := okO_inv ho
  have he : (wd E ad S)[NC + d / 2]? = some (a, .inr (1, dfs E ad S (d / 2) 1)) := by rw [GL_at hG ha o1 o2, dcel_o o3 (by decide)]
  have hrecv := va_recv hK hG.1 (ci := 1) KP1.1 he
  have hf : cells + (S.c - u.c) ≤ F.c - F.uc ∧ slots + (S.w - u.w) ≤ F.w - F.uw := by
    obtain ⟨q1, q2⟩ := hcu
    obtain ⟨q3, q4⟩ := hG.2.2.2.2.2.2.2.2
    have e1 := hG.2.2.2.2.2.1
    have e2 := hG.2.2.2.2.2.2.1
    constructor <;> omega
  have hM' := hM H.size ad
  rw [hav] at hM'
  have hsel : (Cond.selects RJ4 x y).before args s = true := by
    rcases h5 with h5 | ⟨h5, h9⟩
    · exact hts _ h5
    · rw [h5] at hxc ⊢
      exact sel_priv hxc hts h9 h3
  have hts' : ∀ w ∈ Cond.selects RJ4 x y :: TB, w.before args s = true := fun w hw => by
    rcases List.mem_cons.mp hw with rfl | hw
    · exact hsel
    · exact hts w hw
  have gm : ∀ w, w ∈ TB → w ∈ Cond.selects RJ4 x y :: TB ∧ ((w.onTables && w.keeps) = true ∨ ∃ ty, w = .arrayClass ty) := fun w hw => ⟨List.mem_cons_of_mem _ hw, good_of_word (goodTB hw)⟩
  have gw : GoodIn (Cond.selects RJ4 x y :: TB) (wz y c' n' rt) := fun w hw => by
    rcases List.mem_cons.mp hw with rfl | hw
    · exact gm _ h1
    · exact gm _ hw
  have gs : Cond.selects RJ4 x y ∈ Cond.selects RJ4 x y :: TB ∧ (((Cond.selects RJ4 x y).onTables && (Cond.selects RJ4 x y).keeps) = true ∨ ∃ ty, Cond.selects RJ4 x y = .arrayClass ty) := ⟨List.mem_cons_self, good_of_word rfl⟩
  have hd6 : RJ5 ≠ "java/lang/invoke/MethodHandle" ∧ RJ5 ≠ "java/lang/invoke/VarHandle" ∧ (parseMethodDescriptor x.desc).map (fun d => d.parameters.length) = some np := ⟨by decide, by decide, h6.2.2⟩
  have hcw : va_CU (F.R kf) s args own RJ4 RJ5 idx x y c' n' rt (wz y c' n' rt) (rmD k (S.c - u.c) (S.w - u.w)) (S.c - u.c) (S.w - u.w) np := by
    rcases h8 with h8 | ⟨b0, m0, r0, h8⟩
    · refine va_cwU (Ts := Cond.selects RJ4 x y :: TB) np hts' (fun w hw => ?_) rfl rfl rfl (by rw [← h8, ← hxc]) hd6 hR
      unfold va_wsU at hw
      rcases List.mem_append.mp hw with hw | hw
      · simp only [List.mem_cons, List.not_mem_nil, or_false] at hw
        rcases hw with rfl | rfl | rfl | rfl | rfl
        · exact gm _ h7
        · exact gm _ h4
        · exact gs
        · exact gm _ h3
        · exact gm _ h2
      · exact gw w hw
    · have ex : (⟨RJ5, x.name, x.desc⟩ : MethodName) = x := by rw [← hxc]
      refine va_cwO (Ts := Cond.selects RJ4 x y :: TB) np hts' (fun w hw => ?_) rfl rfl rfl (b0 := b0) (m0 := m0) (r0 := r0) (by rw [ex]; exact List.mem_cons_of_mem _ h8) hd6 hR
      unfold va_wsO at hw
      rw [ex] at hw
      rcases List.mem_append.mp hw with hw | hw
      · simp only [List.mem_cons, List.not_mem_nil, or_false] at hw
        rcases hw with rfl | rfl | rfl | rfl | rfl | rfl
        · exact gm _ h7
        · exact gm _ h4
        · exact gm _ h3x
        · exact gs
        · exact gm _ h3
        · exact gm _ h2
      · exact gw w hw
  exact va_runU (C := RJ4) (owner := RJ5) (Ts := TB) ⟨hx, hb, hml, hown, hts⟩ hM' hcw ⟨PL_blind, hrecv, hpre⟩ rfl hlen hls hst (lv_room hrest) hd hf
/-- super.m(..) of the builder -/
def MLP (idx : Nat) (y : MethodName) (c : ByteArray) (n : Nat) (rt : Option FieldType) (np : Nat) : Prop := Cond.code y c n rt ∈ TB ∧ Cond.initialized y.cls ∈ TB ∧ Cond.instanceMethod y ∈ TB ∧ Cond.sameMethod y.cls y.cls y.name y.desc ∈ TB ∧ Cond.superclass RJ4 y.cls ∈ TB ∧ y.name ≠ "<init>" ∧ (parseMethodDescriptor y.desc).map (fun d => d.parameters.length) = some np ∧ Cond.methodLink RJ4 idx y ∈ TB
theorem run2_P (C : Cx p s m args meth c cc n RJ4 E) (hA : CA F E s) (hls : ls.size = n) (hG : GL E s F H locs ad N S cells slots) (ha : RA E ad N d a) {y : MethodName} {c' : ByteArray} {n' : Nat} {rt : Option FieldType} {k np idx : Nat} {As : List Value} {av : (Nat → Nat) → List Value} {u : ZS} (hcu : F.uc ≤ u.c ∧ F.uw ≤ u.w) {QQ : Nat → (Nat → Nat) → Array Value → State → Outcome → State → Prop}
    (hM : ML2 E l y c' n' rt k av S u QQ) (hav : av ad = .ref a :: As) (hm : MLP idx y c' n' rt np) (ho : okO S d 1 = true) (hlen : As.length = np) (hR : k + 1 ≤ kf ∧ 8 + (n' + 11) + 60 * k ≤ 60 * kf) (hrest : (rest.map fun v => v.category).sum ≤ 8) (hst : st = As.reverse ++ .ref a :: rest) (hd : decode cc pc = .ok (.invokespecial idx, 3)) :
    va_Run p l e (F.R kf) s m args below meth c H locs cells slots (S.c - u.c) (S.w - u.w) (F0 m pc ls st) rest (QQ H.size ad (Value.ref a :: As).toArray) (AL E ad S.n H.size) := by
  have hpre := pre_okL C hA hG (.ref a :: As)
  obtain ⟨hx, hb, hml, hown, hts, hK, hN, -⟩ := id C
  obtain ⟨h1, h2, h3, h4, h5, h6, h7, h8⟩ := hm
  obtain ⟨o1, o2, o3⟩ := okO_inv ho
  have he : (wd E ad S)[NC + d / 2]? = some (a, .inr (1, dfs E ad S (d / 2) 1)) := by rw [GL_at hG ha o1 o2, dcel_o o3 (by decide)]
  have hrecv := va_recv hK hG.1 (ci := 1) KP1.1 he
  have hf : cells + (S.c - u.c) ≤ F.c - F.uc ∧ slots + (S.w - u.w) ≤ F.w - F.uw := by
    obtain ⟨q1, q2⟩ := hcu
    obtain ⟨q3, q4⟩ := hG.2.2.2.2.2.2.2.2
    have e1 := hG.2.2.2.2.2.1
    have e2 := hG.2.2.2.2.2.2.1
    constructor <;> omega
  have hM' := hM H.size ad
  rw [hav] at hM'
  have gm : ∀ w, w ∈ TB → w ∈ TB ∧ ((w.onTables && w.keeps) = true ∨ ∃ ty, w = .arrayClass ty) := fun w hw => ⟨hw, good_of_word (goodTB hw)⟩
  refine va_runSU (C := RJ4) (Ts := TB) (hK.1 1 _ KP1.1).2 ⟨hx, hb, hml, hown, hts⟩ hM' (va_cwSU (Ts := TB) np hts (fun w hw => ?_) rfl rfl rfl ⟨h6, h7⟩ hR) ⟨PL_blind, hrecv, hpre⟩ rfl hlen hls hst (lv_room hrest) hd hf
  unfold va_wsSU at hw
  rcases List.mem_append.mp hw with hw | hw
  · simp only [List.mem_cons, List.not_mem_nil, or_false] at hw
    rcases hw with rfl | rfl | rfl | rfl | rfl
    · exact gm _ h8
    · exact gm _ h4
    · exact gm _ h5
    · exact gm _ h3
    · exact gm _ h2
  · exact gwz h1 w hw
end LCALLS2
end
section
/-! calls, put together; rows of bytes; static rows; the methods of String constants -/
section COMBO
variable {p : Program} {l : Launch} {e : Env} {kf : Nat} {F : FT} {s : State} {m : MethodId} {args : Array Value} {below : List Frame} {meth : Method} {c : Code} {H : Heap} {locs : List Loc} {cells slots : Nat} {Q : State → Prop} {cc : ByteArray} {n : Nat} {own : String} {E : EV} {ad : Nat → Nat} {N : Nat} {S : ZS} {pc : Nat} {ls : Array Slot} {rest st : List Value} {ρ : Type} {r : ρ} {d a : Nat}
theorem r2_cVI (C : Cx p s m args meth c cc n own E) (hA : CA F E s) (hls : ls.size = n) (hG : GL E s F H locs ad N S cells slots) (ha : RA E ad N d a) {y : MethodName} {c' : ByteArray} {n' : Nat} {rt : Option FieldType} {k np idx pos nn : Nat} {T : u_T} {tt : Nat → FieldType} (As rest : List Value) {av : (Nat → Nat) → List Value} {kz : Option (Int32 × ZS)} (hM : ∀ u, kz = some u → MIL E l y c' n' rt k av S u) (hav : av ad = .ref a :: As) (hm : MLV own idx y c' n' rt np) (hKP : KP pos y.cls T nn tt) (hlen : As.length = np) (hR : k + 1 ≤ kf ∧ 8 + (n' + 11) + 60 * k ≤ 60 * kf) (hrest : (rest.map fun v => v.category).sum ≤ 8) (hst : st = As.reverse ++ .ref a :: rest) (hd : decode cc pc = .ok (.invokevirtual idx, 3)) {fn : Int32 → ZS → Option ρ} {pr : ρ → ZS} (hU : F.uc = (pr r).c ∧ F.uw = (pr r).w) (h : rcv S d pos (b2 pr kz fn) = some r)
    (kk : ∀ (x : Int32) (S1 : ZS) (H1 : Heap) (locs1 : List Loc) (ad1 : Nat → Nat) (cells1 slots1 : Nat), GL E s F H1 locs1 ad1 S1.n S1 cells1 slots1 → GX ad N ad1 S1.n → fn x S1 = some r → W p l e (F.R kf) s m args below meth c H1 locs1 cells1 slots1 Q (F0 m (pc + 3) ls (.int x :: rest))) : W p l e (F.R kf) s m args below meth c H locs cells slots Q (F0 m pc ls st) := by
  obtain ⟨ho, h⟩ := ite_inv h
  obtain ⟨u, hu, h⟩ := bind_inv h
  obtain ⟨⟨d1, d2⟩, h⟩ := chk_inv h
  have hcu : F.uc ≤ u.2.c ∧ F.uw ≤ u.2.w := ⟨by rw [hU.1]; exact d1, by rw [hU.2]; exact d2⟩
  exact af2_I hA hG hcu (run2_V C hA hls hG ha hcu (hM u hu) hav hm hKP ho hlen hR hrest hst hd) (fun H1 locs1 ad1 cells1 slots1 g1 g2 => kk u.1 u.2 H1 locs1 ad1 cells1 slots1 g1 g2 h)
theorem r2_cVR (C : Cx p s m args meth c cc n own E) (hA : CA F E s) (hls : ls.size = n) (hG : GL E s F H locs ad N S cells slots) (ha : RA E ad N d a) {y : MethodName} {c' : ByteArray} {n' : Nat} {rt : Option FieldType} {k np idx pos nn : Nat} {T : u_T} {tt : Nat → FieldType} (As rest : List Value) {av : (Nat → Nat) → List Value} {kz : Option (Nat × ZS)} (hM : ∀ u, kz = some u → MRL E l y c' n' rt k av S u) (hav : av ad = .ref a :: As) (hm : MLV own idx y c' n' rt np) (hKP : KP pos y.cls T nn tt) (hlen : As.length = np) (hR : k + 1 ≤ kf ∧ 8 + (n' + 11) + 60 * k ≤ 60 * kf) (hrest : (rest.map fun v => v.category).sum ≤ 8) (hst : st = As.reverse ++ .ref a :: rest) (hd : decode cc pc = .ok (.invokevirtual idx, 3)) {fn : Nat → ZS → Option ρ} {pr : ρ → ZS} (hU : F.uc = (pr r).c ∧ F.uw = (pr r).w) (h : rcv S d pos (b2 pr kz fn) = some r)
    (kk : ∀ (b x : Nat) (S1 : ZS) (H1 : Heap) (locs1 : List Loc) (ad1 : Nat → Nat) (cells1 slots1 : Nat), GL E s F H1 locs1 ad1 S1.n S1 cells1 slots1 → GX ad N ad1 S1.n → RA E ad1 S1.n x b → fn x S1 = some r → W p l e (F.R kf) s m args below meth c H1 locs1 cells1 slots1 Q (F0 m (pc + 3) ls (.ref b :: rest))) : W p l e (F.R kf) s m args below meth c H locs cells slots Q (F0 m pc ls st) := by
  obtain ⟨ho, h⟩ := ite_inv h
  obtain ⟨u, hu, h⟩ := bind_inv h
  obtain ⟨⟨d1, d2⟩, h⟩ := chk_inv h
  have hcu : F.uc ≤ u.2.c ∧ F.uw ≤ u.2.w := ⟨by rw [hU.1]; exact d1, by rw [hU.2]; exact d2⟩
  exact af2_R hA hG hcu (run2_V C hA hls hG ha hcu (hM u hu) hav hm hKP ho hlen hR hrest hst hd) (fun b H1 locs1 ad1 cells1 slots1 g1 g2 g3 => kk b u.1 u.2 H1 locs1 ad1 cells1 slots1 g1 g2 g3 h)
theorem r2_cVV (C : Cx p s m args meth c cc n own E) (hA : CA F E s) (hls : ls.size = n) (hG : GL E s F H locs ad N S cells slots) (ha : RA E ad N d a) {y : MethodName} {c' : ByteArray} {n' : Nat} {rt : Option FieldType} {k np idx pos nn : Nat} {T : u_T} {tt : Nat → FieldType} (As rest : List Value) {av : (Nat → Nat) → List Value} {kz : Option ZS} (hM : ∀ u, kz = some u → MVL E l y c' n' rt k av S u) (hav : av ad = .ref a :: As) (hm : MLV own idx y c' n' rt np) (hKP : KP pos y.cls T nn tt) (hlen : As.length = np) (hR : k + 1 ≤ kf ∧ 8 + (n' + 11) + 60 * k ≤ 60 * kf) (hrest : (rest.map fun v => v.category).sum ≤ 8) (hst : st = As.reverse ++ .ref a :: rest) (hd : decode cc pc = .ok (.invokevirtual idx, 3)) {fn : ZS → Option ρ} {pr : ρ → ZS} (hU : F.uc = (pr r).c ∧ F.uw = (pr r).w) (h : rcv S d pos (b1 pr kz fn) = some r)
    (kk : ∀ (S1 : ZS) (H1 : Heap) (locs1 : List Loc) (ad1 : Nat → Nat) (cells1 slots1 : Nat), GL E s F H1 locs1 ad1 S1.n S1 cells1 slots1 → GX ad N ad1 S1.n → fn S1 = some r → W p l e (F.R kf) s m args below meth c H1 locs1 cells1 slots1 Q (F0 m (pc + 3) ls rest)) : W p l e (F.R kf) s m args below meth c H locs cells slots Q (F0 m pc ls st) := by
  obtain ⟨ho, h⟩ := ite_inv h
  obtain ⟨u, hu, h⟩ := bind_inv h
  obtain ⟨⟨d1, d2⟩, h⟩ := chk_inv h
  have hcu : F.uc ≤ u.c ∧ F.uw ≤ u.w := ⟨by rw [hU.1]; exact d1, by rw [hU.2]; exact d2⟩
  exact af2_V hA hG hcu (run2_V C hA hls hG ha hcu (hM u hu) hav hm hKP ho hlen hR hrest hst hd) (fun H1 locs1 ad1 cells1 slots1 g1 g2 => kk u H1 locs1 ad1 cells1 slots1 g1 g2 h)
theorem r2_cUI (C : Cx p s m args meth c cc n own E) (hA : CA F E s) (hls : ls.size = n) (hG : GL E s F H locs ad N S cells slots) (ha : RA E ad N d a) {x y : MethodName} {c' : ByteArray} {n' : Nat} {rt : Option FieldType} {k np idx pos nn : Nat} (As rest : List Value) {av : (Nat → Nat) → List Value} {kz : Option (Int32 × ZS)} (hM : ∀ u, kz = some u → MIL E l y c' n' rt k av S u) (hav : av ad = .ref a :: As) (hm : MLU own idx x y c' n' rt np) (hlen : As.length = np) (hR : k + 1 ≤ kf ∧ 8 + (n' + 11) + 60 * k ≤ 60 * kf) (hrest : (rest.map fun v => v.category).sum ≤ 8) (hst : st = As.reverse ++ .ref a :: rest) (hd : decode cc pc = .ok (.invokevirtual idx, 3)) {fn : Int32 → ZS → Option ρ} {pr : ρ → ZS} (hU : F.uc = (pr r).c ∧ F.uw = (pr r).w) (h : rcv S d 1 (b2 pr kz fn) = some r)
    (kk : ∀ (x : Int32) (S1 : ZS) (H1 : Heap) (locs1 : List Loc) (ad1 : Nat → Nat) (cells1 slots1 : Nat), GL E s F H1 locs1 ad1 S1.n S1 cells1 slots1 → GX ad N ad1 S1.n → fn x S1 = some r → W p l e (F.R kf) s m args below meth c H1 locs1 cells1 slots1 Q (F0 m (pc + 3) ls (.int x :: rest))) : W p l e (F.R kf) s m args below meth c H locs cells slots Q (F0 m pc ls st) := by
  obtain ⟨ho, h⟩ := ite_inv h
  obtain ⟨u, hu, h⟩ := bind_inv h
  obtain ⟨⟨d1, d2⟩, h⟩ := chk_inv h
  have hcu : F.uc ≤ u.2.c ∧ F.uw ≤ u.2.w := ⟨by rw [hU.1]; exact d1, by rw [hU.2]; exact d2⟩
  exact af2_I hA hG hcu (run2_U C hA hls hG ha hcu (hM u hu) hav hm ho hlen hR hrest hst hd) (fun H1 locs1 ad1 cells1 slots1 g1 g2 => kk u.1 u.2 H1 locs1 ad1 cells1 slots1 g1 g2 h)
theorem r2_cUR (C : Cx p s m args meth c cc n own E) (hA : CA F E s) (hls : ls.size = n) (hG : GL E s F H locs ad N S cells slots) (ha : RA E ad N d a) {x y : MethodName} {c' : ByteArray} {n' : Nat} {rt : Option FieldType} {k np idx pos nn : Nat} (As rest : List Value) {av : (Nat → Nat) → List Value} {kz : Option (Nat × ZS)} (hM : ∀ u, kz = some u → MRL E l y c' n' rt k av S u) (hav : av ad = .ref a :: As) (hm : MLU own idx x y c' n' rt np) (hlen : As.length = np) (hR : k + 1 ≤ kf ∧ 8 + (n' + 11) + 60 * k ≤ 60 * kf) (hrest : (rest.map fun v => v.category).sum ≤ 8) (hst : st = As.reverse ++ .ref a :: rest) (hd : decode cc pc = .ok (.invokevirtual idx, 3)) {fn : Nat → ZS → Option ρ} {pr : ρ → ZS} (hU : F.uc = (pr r).c ∧ F.uw = (pr r).w) (h : rcv S d 1 (b2 pr kz fn) = some r)
    (kk : ∀ (b x : Nat) (S1 : ZS) (H1 : Heap) (locs1 : List Loc) (ad1 : Nat → Nat) (cells1 slots1 : Nat), GL E s F H1 locs1 ad1 S1.n S1 cells1 slots1 → GX ad N ad1 S1.n → RA E ad1 S1.n x b → fn x S1 = some r → W p l e (F.R kf) s m args below meth c H1 locs1 cells1 slots1 Q (F0 m (pc + 3) ls (.ref b :: rest))) : W p l e (F.R kf) s m args below meth c H locs cells slots Q (F0 m pc ls st) := by
  obtain ⟨ho, h⟩ := ite_inv h
  obtain ⟨u, hu, h⟩ := bind_inv h
  obtain ⟨⟨d1, d2⟩, h⟩ := chk_inv h
  have hcu : F.uc ≤ u.2.c ∧ F.uw ≤ u.2.w := ⟨by rw [hU.1]; exact d1, by rw [hU.2]; exact d2⟩
  exact af2_R hA hG hcu (run2_U C hA hls hG ha hcu (hM u hu) hav hm ho hlen hR hrest hst hd) (fun b H1 locs1 ad1 cells1 slots1 g1 g2 g3 => kk b u.1 u.2 H1 locs1 ad1 cells1 slots1 g1 g2 g3 h)
theorem r2_cUV (C : Cx p s m args meth c cc n own E) (hA : CA F E s) (hls : ls.size = n) (hG : GL E s F H locs ad N S cells slots) (ha : RA E ad N d a) {x y : MethodName} {c' : ByteArray} {n' : Nat} {rt : Option FieldType} {k np idx pos nn : Nat} (As rest : List Value) {av : (Nat → Nat) → List Value} {kz : Option ZS} (hM : ∀ u, kz = some u → MVL E l y c' n' rt k av S u) (hav : av ad = .ref a :: As) (hm : MLU own idx x y c' n' rt np) (hlen : As.length = np) (hR : k + 1 ≤ kf ∧ 8 + (n' + 11) + 60 * k ≤ 60 * kf) (hrest : (rest.map fun v => v.category).sum ≤ 8) (hst : st = As.reverse ++ .ref a :: rest) (hd : decode cc pc = .ok (.invokevirtual idx, 3)) {fn : ZS → Option ρ} {pr : ρ → ZS} (hU : F.uc = (pr r).c ∧ F.uw = (pr r).w) (h : rcv S d 1 (b1 pr kz fn) = some r)
    (kk : ∀ (S1 : ZS) (H1 : Heap) (locs1 : List Loc) (ad1 : Nat → Nat) (cells1 slots1 : Nat), GL E s F H1 locs1 ad1 S1.n S1 cells1 slots1 → GX ad N ad1 S1.n → fn S1 = some r → W p l e (F.R kf) s m args below meth c H1 locs1 cells1 slots1 Q (F0 m (pc + 3) ls rest)) : W p l e (F.R kf) s m args below meth c H locs cells slots Q (F0 m pc ls st) := by
  obtain ⟨ho, h⟩ := ite_inv h
  obtain ⟨u, hu, h⟩ := bind_inv h
  obtain ⟨⟨d1, d2⟩, h⟩ := chk_inv h
  have hcu : F.uc ≤ u.c ∧ F.uw ≤ u.w := ⟨by rw [hU.1]; exact d1, by rw [hU.2]; exact d2⟩
  exact af2_V hA hG hcu (run2_U C hA hls hG ha hcu (hM u hu) hav hm ho hlen hR hrest hst hd) (fun H1 locs1 ad1 cells1 slots1 g1 g2 => kk u H1 locs1 ad1 cells1 slots1 g1 g2 h)
theorem r2_cPI (C : Cx p s m args meth c cc n RJ4 E) (hA : CA F E s) (hls : ls.size = n) (hG : GL E s F H locs ad N S cells slots) (ha : RA E ad N d a) {y : MethodName} {c' : ByteArray} {n' : Nat} {rt : Option FieldType} {k np idx pos nn : Nat} (As rest : List Value) {av : (Nat → Nat) → List Value} {kz : Option (Int32 × ZS)} (hM : ∀ u, kz = some u → MIL E l y c' n' rt k av S u) (hav : av ad = .ref a :: As) (hm : MLP idx y c' n' rt np) (hlen : As.length = np) (hR : k + 1 ≤ kf ∧ 8 + (n' + 11) + 60 * k ≤ 60 * kf) (hrest : (rest.map fun v => v.category).sum ≤ 8) (hst : st = As.reverse ++ .ref a :: rest) (hd : decode cc pc = .ok (.invokespecial idx, 3)) {fn : Int32 → ZS → Option ρ} {pr : ρ → ZS} (hU : F.uc = (pr r).c ∧ F.uw = (pr r).w) (h : rcv S d 1 (b2 pr kz fn) = some r)
    (kk : ∀ (x : Int32) (S1 : ZS) (H1 : Heap) (locs1 : List Loc) (ad1 : Nat → Nat) (cells1 slots1 : Nat), GL E s F H1 locs1 ad1 S1.n S1 cells1 slots1 → GX ad N ad1 S1.n → fn x S1 = some r → W p l e (F.R kf) s m args below meth c H1 locs1 cells1 slots1 Q (F0 m (pc + 3) ls (.int x :: rest))) : W p l e (F.R kf) s m args below meth c H locs cells slots Q (F0 m pc ls st) := by
  obtain ⟨ho, h⟩ := ite_inv h
  obtain ⟨u, hu, h⟩ := bind_inv h
  obtain ⟨⟨d1, d2⟩, h⟩ := chk_inv h
  have hcu : F.uc ≤ u.2.c ∧ F.uw ≤ u.2.w := ⟨by rw [hU.1]; exact d1, by rw [hU.2]; exact d2⟩
  exact af2_I hA hG hcu (run2_P C hA hls hG ha hcu (hM u hu) hav hm ho hlen hR hrest hst hd) (fun H1 locs1 ad1 cells1 slots1 g1 g2 => kk u.1 u.2 H1 locs1 ad1 cells1 slots1 g1 g2 h)
theorem r2_cPR (C : Cx p s m args meth c cc n RJ4 E) (hA : CA F E s) (hls : ls.size = n) (hG : GL E s F H locs ad N S cells slots) (ha : RA E ad N d a) {y : MethodName} {c' : ByteArray} {n' : Nat} {rt : Option FieldType} {k np idx pos nn : Nat} (As rest : List Value) {av : (Nat → Nat) → List Value} {kz : Option (Nat × ZS)} (hM : ∀ u, kz = some u → MRL E l y c' n' rt k av S u) (hav : av ad = .ref a :: As) (hm : MLP idx y c' n' rt np) (hlen : As.length = np) (hR : k + 1 ≤ kf ∧ 8 + (n' + 11) + 60 * k ≤ 60 * kf) (hrest : (rest.map fun v => v.category).sum ≤ 8) (hst : st = As.reverse ++ .ref a :: rest) (hd : decode cc pc = .ok (.invokespecial idx, 3)) {fn : Nat → ZS → Option ρ} {pr : ρ → ZS} (hU : F.uc = (pr r).c ∧ F.uw = (pr r).w) (h : rcv S d 1 (b2 pr kz fn) = some r)
    (kk : ∀ (b x : Nat) (S1 : ZS) (H1 : Heap) (locs1 : List Loc) (ad1 : Nat → Nat) (cells1 slots1 : Nat), GL E s F H1 locs1 ad1 S1.n S1 cells1 slots1 → GX ad N ad1 S1.n → RA E ad1 S1.n x b → fn x S1 = some r → W p l e (F.R kf) s m args below meth c H1 locs1 cells1 slots1 Q (F0 m (pc + 3) ls (.ref b :: rest))) : W p l e (F.R kf) s m args below meth c H locs cells slots Q (F0 m pc ls st) := by
  obtain ⟨ho, h⟩ := ite_inv h
  obtain ⟨u, hu, h⟩ := bind_inv h
  obtain ⟨⟨d1, d2⟩, h⟩ := chk_inv h
  have hcu : F.uc ≤ u.2.c ∧ F.uw ≤ u.2.w := ⟨by rw [hU.1]; exact d1, by rw [hU.2]; exact d2⟩
  exact af2_R hA hG hcu (run2_P C hA hls hG ha hcu (hM u hu) hav hm ho hlen hR hrest hst hd) (fun b H1 locs1 ad1 cells1 slots1 g1 g2 g3 => kk b u.1 u.2 H1 locs1 ad1 cells1 slots1 g1 g2 g3 h)
theorem r2_cPV (C : Cx p s m args meth c cc n RJ4 E) (hA : CA F E s) (hls : ls.size = n) (hG : GL E s F H locs ad N S cells slots) (ha : RA E ad N d a) {y : MethodName} {c' : ByteArray} {n' : Nat} {rt : Option FieldType} {k np idx pos nn : Nat} (As rest : List Value) {av : (Nat → Nat) → List Value} {kz : Option ZS} (hM : ∀ u, kz = some u → MVL E l y c' n' rt k av S u) (hav : av ad = .ref a :: As) (hm : MLP idx y c' n' rt np) (hlen : As.length = np) (hR : k + 1 ≤ kf ∧ 8 + (n' + 11) + 60 * k ≤ 60 * kf) (hrest : (rest.map fun v => v.category).sum ≤ 8) (hst : st = As.reverse ++ .ref a :: rest) (hd : decode cc pc = .ok (.invokespecial idx, 3)) {fn : ZS → Option ρ} {pr : ρ → ZS} (hU : F.uc = (pr r).c ∧ F.uw = (pr r).w) (h : rcv S d 1 (b1 pr kz fn) = some r)
    (kk : ∀ (S1 : ZS) (H1 : Heap) (locs1 : List Loc) (ad1 : Nat → Nat) (cells1 slots1 : Nat), GL E s F H1 locs1 ad1 S1.n S1 cells1 slots1 → GX ad N ad1 S1.n → fn S1 = some r → W p l e (F.R kf) s m args below meth c H1 locs1 cells1 slots1 Q (F0 m (pc + 3) ls rest)) : W p l e (F.R kf) s m args below meth c H locs cells slots Q (F0 m pc ls st) := by
  obtain ⟨ho, h⟩ := ite_inv h
  obtain ⟨u, hu, h⟩ := bind_inv h
  obtain ⟨⟨d1, d2⟩, h⟩ := chk_inv h
  have hcu : F.uc ≤ u.c ∧ F.uw ≤ u.w := ⟨by rw [hU.1]; exact d1, by rw [hU.2]; exact d2⟩
  exact af2_V hA hG hcu (run2_P C hA hls hG ha hcu (hM u hu) hav hm ho hlen hR hrest hst hd) (fun H1 locs1 ad1 cells1 slots1 g1 g2 => kk u H1 locs1 ad1 cells1 slots1 g1 g2 h)
theorem r2_cSI (C : Cx p s m args meth c cc n own E) (hA : CA F E s) (hls : ls.size = n) (hG : GL E s F H locs ad N S cells slots) {y : MethodName} {c' : ByteArray} {n' : Nat} {rt : Option FieldType} {k np idx pos nn : Nat} (As rest : List Value) {av : (Nat → Nat) → List Value} {kz : Option (Int32 × ZS)} (hM : ∀ u, kz = some u → MIL E l y c' n' rt k av S u) (hav : av ad = As) (hm : MLS own idx y c' n' rt np) (hlen : As.length = np) (hR : k + 1 ≤ kf ∧ 8 + (n' + 11) + 60 * k ≤ 60 * kf) (hrest : (rest.map fun v => v.category).sum ≤ 8) (hst : st = As.reverse ++ rest) (hd : decode cc pc = .ok (.invokestatic idx, 3)) {fn : Int32 → ZS → Option ρ} {pr : ρ → ZS} (hU : F.uc = (pr r).c ∧ F.uw = (pr r).w) (h : b2 pr kz fn = some r)
    (kk : ∀ (x : Int32) (S1 : ZS) (H1 : Heap) (locs1 : List Loc) (ad1 : Nat → Nat) (cells1 slots1 : Nat), GL E s F H1 locs1 ad1 S1.n S1 cells1 slots1 → GX ad N ad1 S1.n → fn x S1 = some r → W p l e (F.R kf) s m args below meth c H1 locs1 cells1 slots1 Q (F0 m (pc + 3) ls (.int x :: rest))) : W p l e (F.R kf) s m args below meth c H locs cells slots Q (F0 m pc ls st) := by
  obtain ⟨u, hu, h⟩ := bind_inv h
  obtain ⟨⟨d1, d2⟩, h⟩ := chk_inv h
  have hcu : F.uc ≤ u.2.c ∧ F.uw ≤ u.2.w := ⟨by rw [hU.1]; exact d1, by rw [hU.2]; exact d2⟩
  exact af2_I hA hG hcu (run2_S C hA hls hG hcu (hM u hu) hav hm hlen hR hrest hst hd) (fun H1 locs1 ad1 cells1 slots1 g1 g2 => kk u.1 u.2 H1 locs1 ad1 cells1 slots1 g1 g2 h)
theorem r2_cSR (C : Cx p s m args meth c cc n own E) (hA : CA F E s) (hls : ls.size = n) (hG : GL E s F H locs ad N S cells slots) {y : MethodName} {c' : ByteArray} {n' : Nat} {rt : Option FieldType} {k np idx pos nn : Nat} (As rest : List Value) {av : (Nat → Nat) → List Value} {kz : Option (Nat × ZS)} (hM : ∀ u, kz = some u → MRL E l y c' n' rt k av S u) (hav : av ad = As) (hm : MLS own idx y c' n' rt np) (hlen : As.length = np) (hR : k + 1 ≤ kf ∧ 8 + (n' + 11) + 60 * k ≤ 60 * kf) (hrest : (rest.map fun v => v.category).sum ≤ 8) (hst : st = As.reverse ++ rest) (hd : decode cc pc = .ok (.invokestatic idx, 3)) {fn : Nat → ZS → Option ρ} {pr : ρ → ZS} (hU : F.uc = (pr r).c ∧ F.uw = (pr r).w) (h : b2 pr kz fn = some r)
    (kk : ∀ (b x : Nat) (S1 : ZS) (H1 : Heap) (locs1 : List Loc) (ad1 : Nat → Nat) (cells1 slots1 : Nat), GL E s F H1 locs1 ad1 S1.n S1 cells1 slots1 → GX ad N ad1 S1.n → RA E ad1 S1.n x b → fn x S1 = some r → W p l e (F.R kf) s m args below meth c H1 locs1 cells1 slots1 Q (F0 m (pc + 3) ls (.ref b :: rest))) : W p l e (F.R kf) s m args below meth c H locs cells slots Q (F0 m pc ls st) := by
  obtain ⟨u, hu, h⟩ := bind_inv h
  obtain ⟨⟨d1, d2⟩, h⟩ := chk_inv h
  have hcu : F.uc ≤ u.2.c ∧ F.uw ≤ u.2.w := ⟨by rw [hU.1]; exact d1, by rw [hU.2]; exact d2⟩
  exact af2_R hA hG hcu (run2_S C hA hls hG hcu (hM u hu) hav hm hlen hR hrest hst hd) (fun b H1 locs1 ad1 cells1 slots1 g1 g2 g3 => kk b u.1 u.2 H1 locs1 ad1 cells1 slots1 g1 g2 g3 h)
theorem r2_cSV (C : Cx p s m args meth c cc n own E) (hA : CA F E s) (hls : ls.size = n) (hG : GL E s F H locs ad N S cells slots) {y : MethodName} {c' : ByteArray} {n' : Nat} {rt : Option FieldType} {k np idx pos nn : Nat} (As rest : List Value) {av : (Nat → Nat) → List Value} {kz : Option ZS} (hM : ∀ u, kz = some u → MVL E l y c' n' rt k av S u) (hav : av ad = As) (hm : MLS own idx y c' n' rt np) (hlen : As.length = np) (hR : k + 1 ≤ kf ∧ 8 + (n' + 11) + 60 * k ≤ 60 * kf) (hrest : (rest.map fun v => v.category).sum ≤ 8) (hst : st = As.reverse ++ rest) (hd : decode cc pc = .ok (.invokestatic idx, 3)) {fn : ZS → Option ρ} {pr : ρ → ZS} (hU : F.uc = (pr r).c ∧ F.uw = (pr r).w) (h : b1 pr kz fn = some r)
    (kk : ∀ (S1 : ZS) (H1 : Heap) (locs1 : List Loc) (ad1 : Nat → Nat) (cells1 slots1 : Nat), GL E s F H1 locs1 ad1 S1.n S1 cells1 slots1 → GX ad N ad1 S1.n → fn S1 = some r → W p l e (F.R kf) s m args below meth c H1 locs1 cells1 slots1 Q (F0 m (pc + 3) ls rest)) : W p l e (F.R kf) s m args below meth c H locs cells slots Q (F0 m pc ls st) := by
  obtain ⟨u, hu, h⟩ := bind_inv h
  obtain ⟨⟨d1, d2⟩, h⟩ := chk_inv h
  have hcu : F.uc ≤ u.c ∧ F.uw ≤ u.w := ⟨by rw [hU.1]; exact d1, by rw [hU.2]; exact d2⟩
  exact af2_V hA hG hcu (run2_S C hA hls hG hcu (hM u hu) hav hm hlen hR hrest hst hd) (fun H1 locs1 ad1 cells1 slots1 g1 g2 => kk u H1 locs1 ad1 cells1 slots1 g1 g2 h)
theorem r2_cIV (C : Cx p s m args meth c cc n own E) (hA : CA F E s) (hls : ls.size = n) (hG : GL E s F H locs ad N S cells slots) {y : MethodName} {c' : ByteArray} {n' : Nat} {k np idx pos nn : Nat} (As rest : List Value) {av : (Nat → Nat) → List Value} {kz : Option ZS} (hM : ∀ u, kz = some u → MVL E l y c' n' none k av S u) (hav : av ad = .ref a :: As) (hm : MLI own idx y c' n' np) (hlen : As.length = np) (hR : k + 1 ≤ kf ∧ 8 + (n' + 11) + 60 * k ≤ 60 * kf) (hrest : (rest.map fun v => v.category).sum ≤ 8) (hst : st = As.reverse ++ .ref a :: rest) (hd : decode cc pc = .ok (.invokespecial idx, 3)) {fn : ZS → Option ρ} {pr : ρ → ZS} (hU : F.uc = (pr r).c ∧ F.uw = (pr r).w) (h : b1 pr kz fn = some r)
    (kk : ∀ (S1 : ZS) (H1 : Heap) (locs1 : List Loc) (ad1 : Nat → Nat) (cells1 slots1 : Nat), GL E s F H1 locs1 ad1 S1.n S1 cells1 slots1 → GX ad N ad1 S1.n → fn S1 = some r → W p l e (F.R kf) s m args below meth c H1 locs1 cells1 slots1 Q (F0 m (pc + 3) ls rest)) : W p l e (F.R kf) s m args below meth c H locs cells slots Q (F0 m pc ls st) := by
  obtain ⟨u, hu, h⟩ := bind_inv h
  obtain ⟨⟨d1, d2⟩, h⟩ := chk_inv h
  have hcu : F.uc ≤ u.c ∧ F.uw ≤ u.w := ⟨by rw [hU.1]; exact d1, by rw [hU.2]; exact d2⟩
  exact af2_V hA hG hcu (run2_I C hA hls hG hcu (hM u hu) hav hm hlen hR hrest hst hd) (fun H1 locs1 ad1 cells1 slots1 g1 g2 => kk u H1 locs1 ad1 cells1 slots1 g1 g2 h)
/-! bytes -/
def fitB (v : Int32) : Bool := fits .byte (.int v)
def fitR (f : Nat → Int32) (sp n : Nat) : Bool := (List.range n).all (fun i => fitB (f (sp + i)))
theorem fitR_at {f : Nat → Int32} {sp n : Nat} (h : fitR f sp n = true) : ∀ i, i < n → fits .byte (.int (f (sp + i))) = true := fun i hi => List.all_eq_true.mp h i (List.mem_range.mpr hi)
/-- bytes copied: from a row x of bytes, from sp on, to a row y, from dp on, q of them -/
def cpB {ρ : Type} (S : ZS) (x : Nat) (sp : Int32) (y : Nat) (dp q : Int32) (f : ZS → Option ρ) : Option ρ := if (okA S x 200000 = true ∧ okA S y 200000 = true) ∧ (¬ sp < 0 ∧ ¬ dp < 0 ∧ ¬ q < 0) ∧ (sp.toNatClampNeg + q.toNatClampNeg ≤ S.K (x / 2) - 200000 ∧ dp.toNatClampNeg + q.toNatClampNeg ≤ S.K (y / 2) - 200000) ∧ fitR (S.i (x / 2)) sp.toNatClampNeg q.toNatClampNeg = true then f (S.wa (y / 2) (va_cpy (S.i (x / 2)) (S.i (y / 2)) sp.toNatClampNeg dp.toNatClampNeg q.toNatClampNeg)) else none
def sF (k : Nat) : Nat → Int32 := fun j => (sB k).getD j 0
def cpS {ρ : Type} (S : ZS) (k : Nat) (sp : Int32) (y : Nat) (dp q : Int32) (f : ZS → Option ρ) : Option ρ := if (k < NS ∧ okA S y 200000 = true) ∧ (¬ sp < 0 ∧ ¬ dp < 0 ∧ ¬ q < 0) ∧ (sp.toNatClampNeg + q.toNatClampNeg ≤ sL k ∧ dp.toNatClampNeg + q.toNatClampNeg ≤ S.K (y / 2) - 200000) ∧ fitR (sF k) sp.toNatClampNeg q.toNatClampNeg = true then f (S.wa (y / 2) (va_cpy (sF k) (S.i (y / 2)) sp.toNatClampNeg dp.toNatClampNeg q.toNatClampNeg)) else none
theorem wa_ne {S : ZS} {o : Nat} {f : Nat → Int32} {i : Nat} (h : i ≠ o) : (S.wa o f).i i = S.i i := if_neg h
theorem wa_eq {S : ZS} {o : Nat} {f : Nat → Int32} : (S.wa o f).i o = f := if_pos rfl
theorem r2_cpB (C : Cx p s m args meth c cc n own E) (hls : ls.size = n) (hG : GL E s F H locs ad N S cells slots) {i x y b : Nat} (hm : LCpy own i) (hax : RA E ad N x b) (hay : RA E ad N y a) {sp dp q : Int32} (hR : 1 ≤ (F.R kf).frames ∧ (rest.map fun v => v.category).sum + (nativeFrameWords "java/lang/System" "arraycopy" 5 + 11) ≤ (F.R kf).locals) (hd : decode cc pc = .ok (.invokestatic i, 3)) {fn : ZS → Option ρ} (h : cpB S x sp y dp q fn = some r)
    (kk : ∀ (H1 : Heap) (locs1 : List Loc) (S1 : ZS), GL E s F H1 locs1 ad N S1 cells slots → fn S1 = some r → W p l e (F.R kf) s m args below meth c H1 locs1 cells slots Q (F0 m (pc + 3) ls rest)) : W p l e (F.R kf) s m args below meth c H locs cells slots Q (F0 m pc ls (.int q :: .int dp :: .ref a :: .int sp :: .ref b :: rest)) := by
  obtain ⟨hx, hb, hml, hown, hts, hK, -⟩ := C
  obtain ⟨⟨⟨o1, o2⟩, ⟨n1, n2, n3⟩, ⟨l1, l2⟩, hf⟩, h⟩ := ite_inv h
  obtain ⟨x1, x2, mx, x3, x4⟩ := okA_inv o1
  obtain ⟨y1, y2, my, y3, y4⟩ := okA_inv o2
  rw [x3, Nat.add_sub_cancel_left] at l1
  rw [y3, Nat.add_sub_cancel_left] at l2
  have hex : (wd E ad S)[NC + x / 2]? = some (b, .inl (E.tB, mx, .inl (S.i (x / 2)))) := by rw [GL_at hG hax x1 x2, dcel_b x3 x4]
  have hey : (wd E ad S)[NC + y / 2]? = some (a, .inl (E.tB, my, .inl (S.i (y / 2)))) := by rw [GL_at hG hay y1 y2, dcel_b y3 y4]
  refine va_copyi hx hb (hml.trans hls.symm) hown (hts _ hm.1) (hts _ hm.2.1) (hts _ hm.2.2.1) (hts _ hm.2.2.2) hK hG.1 hG.2.1 hG.2.2.1 _ _ 1 1 hex hey rfl rfl rfl n1 n2 n3 l1 l2 (fitR_at hf) hR.1 hR.2 hd (fun H1 locs1 a1 a2 a3 => ?_)
  rw [hay.odd y1] at a1 a2
  refine kk H1 locs1 _ (GL_set (S1 := S.wa (y / 2) (va_cpy (S.i (x / 2)) (S.i (y / 2)) sp.toNatClampNeg dp.toNatClampNeg q.toNatClampNeg)) hG rfl rfl ⟨rfl, rfl⟩ hG.2.2.2.2.1.wa y2 ?_ (fun i hi => dcel_cong rfl (wa_ne hi) rfl) a1 a2 a3) h
  rw [dcel_b (show (S.wa (y / 2) _).K (y / 2) = 200000 + my from y3) y4, wa_eq]
theorem r2_cpS (C : Cx p s m args meth c cc n own E) (hA : CA F E s) (hls : ls.size = n) (hG : GL E s F H locs ad N S cells slots) {i k y : Nat} (hm : LCpy own i) (hay : RA E ad N y a) {sp dp q : Int32} (hR : 1 ≤ (F.R kf).frames ∧ (rest.map fun v => v.category).sum + (nativeFrameWords "java/lang/System" "arraycopy" 5 + 11) ≤ (F.R kf).locals) (hd : decode cc pc = .ok (.invokestatic i, 3)) {fn : ZS → Option ρ} (h : cpS S k sp y dp q fn = some r)
    (kk : ∀ (H1 : Heap) (locs1 : List Loc) (S1 : ZS), GL E s F H1 locs1 ad N S1 cells slots → fn S1 = some r → W p l e (F.R kf) s m args below meth c H1 locs1 cells slots Q (F0 m (pc + 3) ls rest)) : W p l e (F.R kf) s m args below meth c H locs cells slots Q (F0 m pc ls (.int q :: .int dp :: .ref a :: .int sp :: .ref (E.aV k) :: rest)) := by
  obtain ⟨⟨⟨hk, o2⟩, ⟨n1, n2, n3⟩, ⟨l1, l2⟩, hf⟩, h⟩ := ite_inv h
  have hT := ((C.so hk).2.2.2.narrow hA.2).kept hG.2.2.1.2.1
  obtain ⟨hx, hb, hml, hown, hts, hK, -⟩ := C
  obtain ⟨y1, y2, my, y3, y4⟩ := okA_inv o2
  rw [y3, Nat.add_sub_cancel_left] at l2
  have e9 := hay.odd y1
  subst e9
  have hey : (wd E ad S)[NC + y / 2]? = some (ad (y / 2), .inl (E.tB, my, .inl (S.i (y / 2)))) := by rw [GL_at hG hay y1 y2, dcel_b y3 y4]
  obtain ⟨scr, s1, s2, s3, s4, -, s5, -⟩ := hT
  have s5 : ∀ j, j < sL k → scr.slots[j]? = some (.int (sF k j)) := s5
  have nn : ∀ z : Int32, ¬ z < 0 → z.toInt = (z.toNatClampNeg : Int) := fun z hz => by
    have h0 := Int32.le_iff_toInt_le.mp (Int32.not_lt.mp hz)
    have h1 : (0 : Int32).toInt = 0 := by decide
    show z.toInt = ((z.toInt.toNat : Nat) : Int)
    omega
  have hc1 : H[ad (y / 2)]? = some (vp_cell E.tB (my, .inl (S.i (y / 2)))) := hG.1 _ _ hey
  have e1 : copied scr (vp_cell E.tB (my, .inl (S.i (y / 2)))) sp dp q = vp_cell E.tB (my, .inl (va_cpy (sF k) (S.i (y / 2)) sp.toNatClampNeg dp.toNatClampNeg q.toNatClampNeg)) := va_copiedX (fun z => .int z) scr E.tB (sF k) (S.i (y / 2)) s5 l1
  have hl9 : ad (y / 2) < H.size := (Array.getElem?_eq_some_iff.mp hc1).1
  have key : ∀ L : List Loc, (∀ z ∈ L, z.base = ad (y / 2)) → W p l e (F.R kf) s m args below meth c (H.setIfInBounds (ad (y / 2)) (vp_cell E.tB (my, .inl (va_cpy (sF k) (S.i (y / 2)) sp.toNatClampNeg dp.toNatClampNeg q.toNatClampNeg)))) (locs ++ L) cells slots Q (F0 m (pc + 3) ls rest) := by
    intro L hL
    have oq : ∀ z : Nat, z ≠ ad (y / 2) → (H.setIfInBounds (ad (y / 2)) (vp_cell E.tB (my, .inl (va_cpy (sF k) (S.i (y / 2)) sp.toNatClampNeg dp.toNatClampNeg q.toNatClampNeg))))[z]? = H[z]? := fun z hz => by simp [Array.getElem?_setIfInBounds, Ne.symm hz]
    have a1 := hG.1.set (e := .inl (E.tB, my, .inl (va_cpy (sF k) (S.i (y / 2)) sp.toNatClampNeg dp.toNatClampNeg q.toNatClampNeg))) hG.2.1 hey (show (H.setIfInBounds (ad (y / 2)) _)[ad (y / 2)]? = some _ by simp [Array.getElem?_setIfInBounds, hl9]) oq
    have a2 := hG.2.1.set (e := .inl (E.tB, my, .inl (va_cpy (sF k) (S.i (y / 2)) sp.toNatClampNeg dp.toNatClampNeg q.toNatClampNeg))) hey
    refine kk _ _ _ (GL_set (S1 := S.wa (y / 2) (va_cpy (sF k) (S.i (y / 2)) sp.toNatClampNeg dp.toNatClampNeg q.toNatClampNeg)) hG rfl rfl ⟨rfl, rfl⟩ hG.2.2.2.2.1.wa y2 ?_ (fun i hi => dcel_cong rfl (wa_ne hi) rfl) a1 a2 ?_) h
    · rw [dcel_b (show (S.wa (y / 2) _).K (y / 2) = 200000 + my from y3) y4, wa_eq]
    · refine ⟨by simp; exact hG.2.2.1.1, fun z g1 g2 => ?_, fun z hz => ?_⟩
      · rw [oq z (fun e => g2 (by rw [e]; exact hG.2.1.2 _ _ hey))]
        exact hG.2.2.1.2.1 z g1 g2
      · rcases List.mem_append.mp hz with h | h
        · exact hG.2.2.1.2.2 z h
        · rw [hL z h]
          exact hG.2.1.2 _ _ hey
  intro T hT X
  obtain ⟨hs6, k0, hk0, cm0, hkk0⟩ := s2
  obtain ⟨-, k1, hk1, cm1, hkk1⟩ := (hK.2 1 _ rfl).1 my (fun j => .int (S.i (y / 2) j))
  obtain ⟨vm', X', step⟩ := X.arraycopy hx hown (hts _ hm.1) (hts _ hm.2.1) (hts _ hm.2.2.1) (hts _ hm.2.2.2) (src := E.aV k) (dst := ad (y / 2)) (cs := scr) (cd := vp_cell E.tB (my, .inl (S.i (y / 2)))) (srcPos := sp) (destPos := dp) (n := q) (by rw [hT]; exact s1) (by rw [hT]; exact hc1)
    hs6 (fun _ h => by cases h) s3 (fun h => by cases h) hk0 hk1 hkk0 hkk1 rfl n1 n2 n3
    (by rw [nn sp n1, nn q n3]; omega)
    (by rw [nn dp n2, nn q n3]; show ¬ _ > ((arrV E.tB my (fun j => .int (S.i (y / 2) j))).slots.size : Int); rw [arrV_size]; omega)
    (fun vm₁ _ i hi => by
      have e : scr.slots.getD (sp.toNatClampNeg + i) .null = .int (sF k (sp.toNatClampNeg + i)) := by
        rw [Array.getD_eq_getD_getElem?, s5 _ (by omega)]
        rfl
      refine ⟨?_, ?_⟩
      · rw [e]
        exact fitR_at hf i hi
      · rw [e]
        exact trivial)
    (g := F0 m pc ls (.int q :: .int dp :: .ref (ad (y / 2)) :: .int sp :: .ref (E.aV k) :: rest)) rfl (by show ls.size = _; rw [hml, hls]) (rest := rest) rfl (by rw [hb]; exact hd) hR.1 (by have := hR.2; show 2 * 0 + _ + _ ≤ _; omega)
  rw [e1] at X' step
  have hheap : ((T.setVm vm').setCell (ad (y / 2)) (vp_cell E.tB (my, .inl (va_cpy (sF k) (S.i (y / 2)) sp.toNatClampNeg dp.toNatClampNeg q.toNatClampNeg)))).heap = H.setIfInBounds (ad (y / 2)) (vp_cell E.tB (my, .inl (va_cpy (sF k) (S.i (y / 2)) sp.toNatClampNeg dp.toNatClampNeg q.toNatClampNeg))) := by rw [← hT]; rfl
  obtain ⟨t, a1, b1⟩ := key _ (fun z hz => by obtain ⟨w, -, hw⟩ := List.mem_map.mp hz; rw [← hw]) _ hheap X'
  exact ⟨t, step t a1, b1⟩
/-! a row of bytes, made again -/
def clB {ρ : Type} (pr : ρ → ZS) (S : ZS) (x : Nat) (f : Nat → ZS → Option ρ) : Option ρ := if okA S x 200000 = true ∧ (1 ≤ S.c ∧ S.K (x / 2) - 200000 ≤ S.w) ∧ fitR (S.i (x / 2)) 0 (S.K (x / 2) - 200000) = true then chk pr (S.new (S.K (x / 2)) (S.K (x / 2) - 200000) (S.i (x / 2))) (f (2 * S.n + 1) (S.new (S.K (x / 2)) (S.K (x / 2) - 200000) (S.i (x / 2)))) else none
theorem r2_clone (C : Cx p s m args meth c cc n own E) (hA : CA F E s) (hls : ls.size = n) (hG : GL E s F H locs ad N S cells slots) (ha : RA E ad N d a) {i : Nat} (h1 : Cond.methodLink own i ⟨"[B", "clone", "()Ljava/lang/Object;"⟩ ∈ TB) (h2 : Cond.sameMethod "[B" "java/lang/Object" "clone" "()Ljava/lang/Object;" ∈ TB) (h3 : Cond.native ⟨"java/lang/Object", "clone", "()Ljava/lang/Object;"⟩ ∈ TB) (h4 : Cond.instanceMethod ⟨"java/lang/Object", "clone", "()Ljava/lang/Object;"⟩ ∈ TB) (h5 : Cond.selects "[B" ⟨"[B", "clone", "()Ljava/lang/Object;"⟩ ⟨"java/lang/Object", "clone", "()Ljava/lang/Object;"⟩ ∈ TB) (h6 : Cond.castable "[B" "java/lang/Cloneable" ∈ NB)
    (hR : 1 ≤ (F.R kf).frames ∧ (rest.map fun v => v.category).sum + 14 ≤ (F.R kf).locals) (hd : decode cc pc = .ok (.invokevirtual i, 3)) {fn : Nat → ZS → Option ρ} {pr : ρ → ZS} (hU : F.uc = (pr r).c ∧ F.uw = (pr r).w) (h : clB pr S d fn = some r)
    (kk : ∀ (q x : Nat) (H1 : Heap) (ad1 : Nat → Nat) (S1 : ZS) (cells1 slots1 : Nat), GL E s F H1 locs ad1 S1.n S1 cells1 slots1 → GX ad N ad1 S1.n → RA E ad1 S1.n x q → fn x S1 = some r → W p l e (F.R kf) s m args below meth c H1 locs cells1 slots1 Q (F0 m (pc + 3) ls (.ref q :: rest))) : W p l e (F.R kf) s m args below meth c H locs cells slots Q (F0 m pc ls (.ref a :: rest)) := by
  obtain ⟨⟨o1, ⟨c1, c2⟩, hf⟩, h⟩ := ite_inv h
  obtain ⟨⟨d1, d2⟩, h⟩ := chk_inv h
  obtain ⟨x1, x2, mx, x3, x4⟩ := okA_inv o1
  have e9 : S.K (d / 2) - 200000 = mx := by rw [x3, Nat.add_sub_cancel_left]
  rw [e9] at c2 hf d1 d2 h
  have d1 : (pr r).c ≤ S.c - 1 := d1
  have d2 : (pr r).w ≤ S.w - mx := d2
  have hex : (wd E ad S)[NC + d / 2]? = some (a, .inl (E.tB, mx, .inl (S.i (d / 2)))) := by rw [GL_at hG ha x1 x2, dcel_b x3 x4]
  obtain ⟨hx, hb, hml, hown, hts, hK, hN, -⟩ := C
  have hnm : s.vm.findClass "[B" = some E.tB := (hK.2 1 _ rfl).2
  refine va_clone hx hb (hml.trans hls.symm) hown (hts _ h1) (hts _ h2) (hts _ h3) (hts _ h4) (hts _ h5) (hN _ h6) hK hG.1 hG.2.1 hG.2.2.1 hA.1 _ 1 hex rfl hnm (fun i v hv => ?_) hR.1 hR.2 (by show _ ≤ F.c - F.uc; have := hG.2.2.2.2.2.1; omega) (by show slots + mx ≤ F.w - F.uw; have := hG.2.2.2.2.2.2.1; omega) hd (fun q H1 a1 a2 a3 a4 => ?_)
  · have hi : i < mx := by
      have := (Array.getElem?_eq_some_iff.mp hv).1
      rwa [show (vp_cell E.tB (mx, .inl (S.i (d / 2)))).slots.size = mx from arrV_size _ _ _] at this
    have hv' : (arrV E.tB mx (fun j => .int (S.i (d / 2) j))).slots[i]? = some v := hv
    rw [arrV_read _ _ hi] at hv'
    cases hv'
    have := fitR_at hf i hi
    rwa [Nat.zero_add] at this
  · obtain ⟨g1, g2, g3⟩ := GL_new (kind := S.K (d / 2)) (sl := mx) (f := S.i (d / 2)) hG c1 c2 ⟨by omega, by omega⟩ (by rw [dcel_b (new_K.trans x3) x4, new_i]) a2 a3 a4
    exact kk q _ H1 _ _ _ _ g1 g2 g3 h
theorem r2_castB (C : Cx p s m args meth c cc n own E) (hG : GL E s F H locs ad N S cells slots) (ha : RA E ad N d a) {i : Nat} (h1 : Cond.classLink own i "[B" ∈ TB) (hd : decode cc pc = .ok (.checkcast i, 3)) {x0 : Option ρ} (h : (if okA S d 200000 = true then x0 else none) = some r) (kk : x0 = some r → W p l e (F.R kf) s m args below meth c H locs cells slots Q (F0 m (pc + 3) ls (.ref a :: rest))) : W p l e (F.R kf) s m args below meth c H locs cells slots Q (F0 m pc ls (.ref a :: rest)) := by
  obtain ⟨o1, h⟩ := ite_inv h
  obtain ⟨x1, x2, mx, x3, x4⟩ := okA_inv o1
  have hex : (wd E ad S)[NC + d / 2]? = some (a, .inl (E.tB, mx, .inl (S.i (d / 2)))) := by rw [GL_at hG ha x1 x2, dcel_b x3 x4]
  exact va_castA C.1 C.2.1 C.2.2.2.1 (C.2.2.2.2.1 _ h1) hG.1 _ hex (C.2.2.2.2.2.1.2 1 _ rfl).2 hd (kk h)
/-! static rows, the script, String constants -/
theorem r2_gCS (C : Cx p s m args meth c cc n own E) (hA : CA F E s) (hG : GL E s F H locs ad N S cells slots) {idx : Nat} (hl : Cond.fieldLink own idx "java/lang/String" "COMPACT_STRINGS" "Z" ∈ TB) (hd : decode cc pc = .ok (.getstatic idx, 3)) (kk : W p l e (F.R kf) s m args below meth c H locs cells slots Q (F0 m (pc + 3) ls (.int 1 :: rest))) : W p l e (F.R kf) s m args below meth c H locs cells slots Q (F0 m pc ls rest) :=
  va_gets C.1 C.2.1 (C.oo.1.narrow hA.2) hG.2.2.1 C.2.2.2.1 (C.2.2.2.2.1 _ hl) (fun _ h9 => h9) hd kk
theorem r2_gST (C : Cx p s m args meth c cc n own E) (hA : CA F E s) (hG : GL E s F H locs ad N S cells slots) (j : Nat) (hj : j < 3) {idx : Nat} (hl : Cond.fieldLink own idx (stG j).1 (stG j).2.1 "[Ljava/lang/String;" ∈ TB ∨ ∃ host, Cond.fieldLinkNest own idx (stG j).1 (stG j).2.1 "[Ljava/lang/String;" host ∈ NB) (hd : decode cc pc = .ok (.getstatic idx, 3)) (kk : W p l e (F.R kf) s m args below meth c H locs cells slots Q (F0 m (pc + 3) ls (.ref (E.tW j) :: rest))) : W p l e (F.R kf) s m args below meth c H locs cells slots Q (F0 m pc ls rest) := by
  rcases hl with hl | ⟨host, hl⟩
  · exact va_gets C.1 C.2.1 ((C.oo.2.2.2.2.1 j hj).1.narrow hA.2) hG.2.2.1 C.2.2.2.1 (C.2.2.2.2.1 _ hl) (fun _ h9 => h9) hd kk
  · exact va_getsN C.1 C.2.1 ((C.oo.2.2.2.2.1 j hj).1.narrow hA.2) hG.2.2.1 C.2.2.2.1 (va_Nw.use rfl (C.2.2.2.2.2.2.1 _ hl)) (fun _ h9 => h9) hd kk
/-- a word of a static row: the number of the String -/
def stN {ρ : Type} (j : Nat) (i : Int32) (f : Nat → Option ρ) : Option ρ := if ¬ (i < 0 ∨ (stG j).2.2.1 ≤ i.toNatClampNeg) then f ((stG j).2.2.2 + i.toNatClampNeg) else none
theorem r2_aST (C : Cx p s m args meth c cc n own E) (hA : CA F E s) (hG : GL E s F H locs ad N S cells slots) {j : Nat} (hj : j < 3) {i : Int32} (hd : decode cc pc = .ok (.aaload, 1)) {fn : Nat → Option ρ} (h : stN j i fn = some r) (kk : ∀ x : Nat, fn x = some r → W p l e (F.R kf) s m args below meth c H locs cells slots Q (F0 m (pc + 1) ls (.ref (E.aK x) :: rest))) : W p l e (F.R kf) s m args below meth c H locs cells slots Q (F0 m pc ls (.int i :: .ref (E.tW j) :: rest)) := by
  obtain ⟨hin, h⟩ := ite_inv h
  exact vb_tq C.1 C.2.1 ((C.oo.2.2.2.2.1 j hj).2.narrow hA.2) hG.2.2.1 hin rfl hd (kk _ h)
theorem r2_gDO (C : Cx p s m args meth c cc n own E) (hA : CA F E s) (hG : GL E s F H locs ad N S cells slots) {idx : Nat} (hl : Cond.fieldLink own idx "java/lang/Integer" "DigitOnes" "[B" ∈ TB) (hd : decode cc pc = .ok (.getstatic idx, 3)) (kk : W p l e (F.R kf) s m args below meth c H locs cells slots Q (F0 m (pc + 3) ls (.ref (E.tW 3) :: rest))) : W p l e (F.R kf) s m args below meth c H locs cells slots Q (F0 m pc ls rest) :=
  va_gets C.1 C.2.1 (C.oo.2.2.2.2.2.1.1.1.narrow hA.2) hG.2.2.1 C.2.2.2.1 (C.2.2.2.2.1 _ hl) (fun _ h9 => h9) hd kk
theorem r2_gDT (C : Cx p s m args meth c cc n own E) (hA : CA F E s) (hG : GL E s F H locs ad N S cells slots) {idx : Nat} (hl : Cond.fieldLink own idx "java/lang/Integer" "DigitTens" "[B" ∈ TB) (hd : decode cc pc = .ok (.getstatic idx, 3)) (kk : W p l e (F.R kf) s m args below meth c H locs cells slots Q (F0 m (pc + 3) ls (.ref (E.tW 4) :: rest))) : W p l e (F.R kf) s m args below meth c H locs cells slots Q (F0 m pc ls rest) :=
  va_gets C.1 C.2.1 (C.oo.2.2.2.2.2.1.2.1.narrow hA.2) hG.2.2.1 C.2.2.2.1 (C.2.2.2.2.1 _ hl) (fun _ h9 => h9) hd kk
def dgO {ρ : Type} (i : Int32) (f : Int32 → Option ρ) : Option ρ := if ¬ (i < 0 ∨ 100 ≤ i.toNatClampNeg) then f (nI (48 + i.toNatClampNeg % 10)) else none
def dgT {ρ : Type} (i : Int32) (f : Int32 → Option ρ) : Option ρ := if ¬ (i < 0 ∨ 100 ≤ i.toNatClampNeg) then f (nI (48 + i.toNatClampNeg / 10)) else none
theorem r2_dgO (C : Cx p s m args meth c cc n own E) (hA : CA F E s) (hG : GL E s F H locs ad N S cells slots) {i : Int32} (hd : decode cc pc = .ok (.baload, 1)) {fn : Int32 → Option ρ} (h : dgO i fn = some r) (kk : ∀ x : Int32, fn x = some r → W p l e (F.R kf) s m args below meth c H locs cells slots Q (F0 m (pc + 1) ls (.int x :: rest))) : W p l e (F.R kf) s m args below meth c H locs cells slots Q (F0 m pc ls (.int i :: .ref (E.tW 3) :: rest)) := by
  obtain ⟨hin, h⟩ := ite_inv h
  exact va_tb C.1 C.2.1 (C.oo.2.2.2.2.2.1.1.2.narrow hA.2) hG.2.2.1 hin rfl hd (kk _ h)
theorem r2_dgT (C : Cx p s m args meth c cc n own E) (hA : CA F E s) (hG : GL E s F H locs ad N S cells slots) {i : Int32} (hd : decode cc pc = .ok (.baload, 1)) {fn : Int32 → Option ρ} (h : dgT i fn = some r) (kk : ∀ x : Int32, fn x = some r → W p l e (F.R kf) s m args below meth c H locs cells slots Q (F0 m (pc + 1) ls (.int x :: rest))) : W p l e (F.R kf) s m args below meth c H locs cells slots Q (F0 m pc ls (.int i :: .ref (E.tW 4) :: rest)) := by
  obtain ⟨hin, h⟩ := ite_inv h
  exact va_tb C.1 C.2.1 (C.oo.2.2.2.2.2.1.2.2.narrow hA.2) hG.2.2.1 hin rfl hd (kk _ h)
theorem r2_sval (C : Cx p s m args meth c cc n own E) (hA : CA F E s) (hG : GL E s F H locs ad N S cells slots) {i idx : Nat} (hl : Cond.fieldLink own idx "java/lang/String" "value" "[B" ∈ TB) (hd : decode cc pc = .ok (.getfield idx, 3)) {x : Option ρ} (h : ckS i x = some r) (kk : x = some r → W p l e (F.R kf) s m args below meth c H locs cells slots Q (F0 m (pc + 3) ls (.ref (E.aV i) :: rest))) : W p l e (F.R kf) s m args below meth c H locs cells slots Q (F0 m pc ls (.ref (E.aK i) :: rest)) := by
  obtain ⟨hi, h⟩ := ckS_inv h
  exact vk_getf C.1 C.2.1 ((C.so hi).2.2.1.narrow hA.2) hG.2.2.1 C.2.2.2.1 (C.2.2.2.2.1 _ hl) (fun _ h9 => h9) hd (kk h)
theorem r2_slen (C : Cx p s m args meth c cc n own E) (hA : CA F E s) (hG : GL E s F H locs ad N S cells slots) {i : Nat} (hd : decode cc pc = .ok (.arraylength, 1)) {x : Option ρ} (h : ckS i x = some r) (kk : x = some r → W p l e (F.R kf) s m args below meth c H locs cells slots Q (F0 m (pc + 1) ls (.int (nI (sL i)) :: rest))) : W p l e (F.R kf) s m args below meth c H locs cells slots Q (F0 m pc ls (.ref (E.aV i) :: rest)) := by
  obtain ⟨hi, h⟩ := ckS_inv h
  exact va_tlen C.1 C.2.1 ((C.so hi).2.2.2.narrow hA.2) hG.2.2.1 rfl hd (kk h)
theorem r2_xld (C : Cx p s m args meth c cc n own E) (hA : CA F E s) (hG : GL E s F H locs ad N S cells slots) {i : Int32} (hd : decode cc pc = .ok (.iaload, 1)) {fn : Int32 → Option ρ} (h : (if ¬ (i < 0 ∨ E.sL ≤ i.toNatClampNeg) then fn (E.sx i.toNatClampNeg) else none) = some r) (kk : ∀ x : Int32, fn x = some r → W p l e (F.R kf) s m args below meth c H locs cells slots Q (F0 m (pc + 1) ls (.int x :: rest))) : W p l e (F.R kf) s m args below meth c H locs cells slots Q (F0 m pc ls (.int i :: .ref E.sb :: rest)) := by
  obtain ⟨hin, h⟩ := ite_inv h
  have hz : E.sz ≤ s.heap.size := C.2.2.2.2.2.2.2.2.1
  exact va_sld C.1 C.2.1 C.ox.1 (Nat.lt_of_lt_of_le C.ox.2 hz) (fun q => Nat.not_le.mpr C.ox.2 (hA.2 _ q)) hG.2.2.1 hin hd (kk _ h)
theorem r2_xlen (C : Cx p s m args meth c cc n own E) (hA : CA F E s) (hG : GL E s F H locs ad N S cells slots) (hd : decode cc pc = .ok (.arraylength, 1)) (kk : W p l e (F.R kf) s m args below meth c H locs cells slots Q (F0 m (pc + 1) ls (.int (nI E.sL) :: rest))) : W p l e (F.R kf) s m args below meth c H locs cells slots Q (F0 m pc ls (.ref E.sb :: rest)) := by
  have hz : E.sz ≤ s.heap.size := C.2.2.2.2.2.2.2.2.1
  exact va_slen C.1 C.2.1 C.ox.1 (Nat.lt_of_lt_of_le C.ox.2 hz) (fun q => Nat.not_le.mpr C.ox.2 (hA.2 _ q)) hG.2.2.1 hd kk
theorem r2_ldcw (C : Cx p s m args meth c cc n own E) {R : Room} {idx : Nat} (i : Nat) (hi : i < NS) (ho : (sG i).1 = own ∧ (sG i).2.1 = idx) (hd : decode cc pc = .ok (.ldc_w idx, 3)) (kk : W p l e R s m args below meth c H locs cells slots Q (F0 m (pc + 3) ls (.ref (E.aK i) :: rest))) : W p l e R s m args below meth c H locs cells slots Q (F0 m pc ls rest) := by
  obtain ⟨rfl, rfl⟩ := ho
  have hZ := (C.oo.2.2.2.2.2.2 i hi).2
  intro T hT X
  obtain ⟨t, a1, b1⟩ := kk T hT X
  refine ⟨t, ?_, b1⟩
  obtain ⟨k, cf, i9, a', hk, hcf, hcp, -, hr, hev'⟩ := Cond.stringRef_spec C.2.2.2.1 hZ.1
  cases hZ.2.symm.trans hev'
  obtain ⟨k', hk', he⟩ := X.warmed.alike.2.2 _ _ hk
  have hr' : k'.resolved[(sG i).2.1]? = some (some (.string (E.aK i))) := by
    rcases X.warmed.entry hk hk' (sG i).2.1 with h | ⟨h, -⟩
    · rw [h]; exact hr
    · rw [hr] at h; cases h
  have hexec := C.1
  have hdg : decode c.code pc = .ok (.ldc_w (sG i).2.1, 3) := by rw [C.2.1]; exact hd
  jvm_step X.here [hexec, hdg, ldc_w.wp_string (e := e) (s := T) (f := F0 m pc ls rest) X.here.top hk' (by rw [he]; exact hcf) hcp hr']
  exact a1
/-- a method of a String constant that writes nothing -/
theorem r2_csI (C : Cx p s m args meth c cc n own E) (hA : CA F E s) (hls : ls.size = n) (hG : GL E s F H locs ad N S cells slots) {y : MethodName} {c' : ByteArray} {n' : Nat} {rt : Option FieldType} {k np i idx : Nat} (As rest : List Value) {kz : Option Int32} (hM : ∀ u, kz = some u → MI E l y c' n' rt k 0 0 (.ref (E.aK i) :: As) S.g (u, S.g)) (hm : MLV own idx y c' n' rt np) (h6 : Cond.methodLink own idx y ∈ TB) (hy : y.cls = "java/lang/String") (hlen : As.length = np) (hR : k + 1 ≤ kf ∧ 8 + (n' + 11) + 60 * k ≤ 60 * kf) (hrest : (rest.map fun v => v.category).sum ≤ 8) (hst : st = As.reverse ++ .ref (E.aK i) :: rest) (hd : decode cc pc = .ok (.invokevirtual idx, 3)) {fn : Int32 → Option ρ} (h : ckS i (kz.bind fn) = some r)
    (kk : ∀ (x : Int32) (H1 : Heap) (locs1 : List Loc), GL E s F H1 locs1 ad N S cells slots → fn x = some r → W p l e (F.R kf) s m args below meth c H1 locs1 cells slots Q (F0 m (pc + 3) ls (.int x :: rest))) : W p l e (F.R kf) s m args below meth c H locs cells slots Q (F0 m pc ls st) := by
  obtain ⟨hi, h⟩ := ckS_inv h
  obtain ⟨u, hu, h⟩ := bind_inv h
  have hpre := preCl C hA hG (.ref (E.aK i) :: As)
  have hrecv : ∃ cell : Cell, H[E.aK i]? = some cell ∧ cell.vm.isStatics = false ∧ s.vm.findClass y.cls = some cell.cls := by
    obtain ⟨cell, h1, h2, h3, -⟩ := ((C.so hi).1.narrow hA.2).kept hG.2.2.1.2.1
    exact ⟨cell, h1, h2, by rw [hy]; exact h3⟩
  obtain ⟨hx, hb, hml, hown, hts, hK, hN, -⟩ := id C
  obtain ⟨h1, h2, h3, h4, h5, -⟩ := hm
  have hf : cells + 0 ≤ F.c - F.uc ∧ slots + 0 ≤ F.w - F.uw := by
    have e1 := hG.2.2.2.2.2.1
    have e2 := hG.2.2.2.2.2.2.1
    obtain ⟨q1, q2⟩ := hG.2.2.2.2.2.2.2.2
    constructor <;> omega
  have hr : va_Run p l e (F.R kf) s m args below meth c H locs cells slots 0 0 (F0 m pc ls st) rest (QI E H.size u S.g (Value.ref (E.aK i) :: As).toArray) (AA E H.size) := va_runV (C := y.cls) (Ts := TB) ⟨hx, hb, hml, hown, hts⟩ (hM u hu H.size) ⟨callB_of np hts (gwz h1) rfl rfl rfl (hts _ h2) (hts _ h6) h5 hR, hts _ h3, hts _ h4⟩ ⟨PC_blind, hrecv, hpre⟩ rfl hlen hls hst (lv_room hrest) hd hf
  refine va_calli hr hG.2.2.1 (fun q _ h => AA_inL hA hG q h) (AA_inL hA hG) (fun r9 u9 t H1 locs1 ht hvm hw hB hz hk hS => ?_)
  have hw : r9 = u := hw
  subst hw
  exact kk _ H1 locs1 (GL_cls (g1 := S.g) (c1 := 0) (w1 := 0) hG ⟨Nat.zero_le _, Nat.zero_le _⟩ hG.2.2.2.2.2.2.2.2 (by rw [← ht]; exact hB) hk hS) h
/-- a static method of numbers alone, as the class's side knows it -/
theorem r2_csV (C : Cx p s m args meth c cc n own E) (hA : CA F E s) (hls : ls.size = n) (hG : GL E s F H locs ad N S cells slots) {y : MethodName} {c' : ByteArray} {n' : Nat} {rt : Option FieldType} {k np idx : Nat} (As rest : List Value) {kz : Option Unit} (hM : ∀ u, kz = some u → MV E l y c' n' rt k 0 0 As S.g S.g) (hm : MLS own idx y c' n' rt np) (h6 : Cond.methodLink own idx y ∈ TB) (hlen : As.length = np) (hR : k + 1 ≤ kf ∧ 8 + (n' + 11) + 60 * k ≤ 60 * kf) (hrest : (rest.map fun v => v.category).sum ≤ 8) (hst : st = As.reverse ++ rest) (hd : decode cc pc = .ok (.invokestatic idx, 3)) {fn : Unit → Option ρ} (h : kz.bind fn = some r)
    (kk : ∀ (x : Unit) (H1 : Heap) (locs1 : List Loc), GL E s F H1 locs1 ad N S cells slots → fn x = some r → W p l e (F.R kf) s m args below meth c H1 locs1 cells slots Q (F0 m (pc + 3) ls rest)) : W p l e (F.R kf) s m args below meth c H locs cells slots Q (F0 m pc ls st) := by
  obtain ⟨u, hu, h⟩ := bind_inv h
  have hpre := preCl C hA hG As
  obtain ⟨hx, hb, hml, hown, hts, hK, hN, -⟩ := id C
  obtain ⟨h1, h2, h3, h5, -⟩ := hm
  have hf : cells + 0 ≤ F.c - F.uc ∧ slots + 0 ≤ F.w - F.uw := by
    have e1 := hG.2.2.2.2.2.1
    have e2 := hG.2.2.2.2.2.2.1
    obtain ⟨q1, q2⟩ := hG.2.2.2.2.2.2.2.2
    constructor <;> omega
  have hr : va_Run p l e (F.R kf) s m args below meth c H locs cells slots 0 0 (F0 m pc ls st) rest (QV E H.size S.g As.toArray) (AA E H.size) := va_runS (Ts := TB) ⟨hx, hb, hml, hown, hts⟩ (hM u hu H.size) ⟨callB_of np hts (gwz h1) rfl rfl rfl (hts _ h2) (hts _ h6) h5 hR, hts _ h3⟩ ⟨PC_blind, hpre⟩ rfl hlen hls hst (lv_room hrest) hd hf
  refine va_callv hr hG.2.2.1 (fun q _ h => AA_inL hA hG q h) (AA_inL hA hG) (fun u9 t H1 locs1 ht hvm hw hB hz hk hS => ?_)
  exact kk u H1 locs1 (GL_cls (g1 := S.g) (c1 := 0) (w1 := 0) hG ⟨Nat.zero_le _, Nat.zero_le _⟩ hG.2.2.2.2.2.2.2.2 (by rw [← ht]; exact hB) hk hS) h
end COMBO
end
