-- ===== PART A: goes FIRST, ahead of the names: the tables' words, and 'selects' of the private methods out of them =====
/-- a private method of a class that the tables say can be made, by its rows of tables_1 -/
def lw_okq (q : MethodName × Nat) : Prop := (q.1.cls ≠ "java/lang/invoke/MethodHandle" ∧ q.1.cls ≠ "java/lang/invoke/VarHandle") ∧ Cond.instantiable q.1.cls q.2 ∈ tables_1 ∧ Cond.privateMethod q.1 ∈ tables_1 ∧ Cond.instanceMethod q.1 ∈ tables_1
theorem lw_p0 : lw_okq (⟨"PeriscopeTrain$Row", "shine", "()V"⟩, 14) := ⟨⟨by decide +kernel, by decide +kernel⟩, List.mem_of_getElem? (i := 176) (by decide +kernel), List.mem_of_getElem? (i := 317) (by decide +kernel), List.mem_of_getElem? (i := 318) (by decide +kernel)⟩
theorem lw_p1 : lw_okq (⟨"PeriscopeTrain$Row", "has", "(I)Z"⟩, 14) := ⟨⟨by decide +kernel, by decide +kernel⟩, List.mem_of_getElem? (i := 176) (by decide +kernel), List.mem_of_getElem? (i := 325) (by decide +kernel), List.mem_of_getElem? (i := 326) (by decide +kernel)⟩
theorem lw_p2 : lw_okq (⟨"PeriscopeTrain$Row", "isWithinWidth", "(I)Z"⟩, 14) := ⟨⟨by decide +kernel, by decide +kernel⟩, List.mem_of_getElem? (i := 176) (by decide +kernel), List.mem_of_getElem? (i := 329) (by decide +kernel), List.mem_of_getElem? (i := 330) (by decide +kernel)⟩
theorem lw_p3 : lw_okq (⟨"java/lang/Throwable", "fillInStackTrace", "(I)Ljava/lang/Throwable;"⟩, 6) := ⟨⟨by decide +kernel, by decide +kernel⟩, List.mem_of_getElem? (i := 391) (by decide +kernel), List.mem_of_getElem? (i := 389) (by decide +kernel), List.mem_of_getElem? (i := 390) (by decide +kernel)⟩
theorem lw_p4 : lw_okq (⟨"PeriscopeTrain", "checkMirror", "(I)V"⟩, 9) := ⟨⟨by decide +kernel, by decide +kernel⟩, List.mem_of_getElem? (i := 33) (by decide +kernel), List.mem_of_getElem? (i := 428) (by decide +kernel), List.mem_of_getElem? (i := 429) (by decide +kernel)⟩
theorem lw_p5 : lw_okq (⟨"PeriscopeTrain", "checkJob", "(I)V"⟩, 9) := ⟨⟨by decide +kernel, by decide +kernel⟩, List.mem_of_getElem? (i := 33) (by decide +kernel), List.mem_of_getElem? (i := 502) (by decide +kernel), List.mem_of_getElem? (i := 503) (by decide +kernel)⟩
theorem lw_p6 : lw_okq (⟨"PeriscopeTrain$World", "follow", "(II)V"⟩, 6) := ⟨⟨by decide +kernel, by decide +kernel⟩, List.mem_of_getElem? (i := 170) (by decide +kernel), List.mem_of_getElem? (i := 574) (by decide +kernel), List.mem_of_getElem? (i := 575) (by decide +kernel)⟩
theorem lw_p7 : lw_okq (⟨"PeriscopeTrain$World", "carryOut", "(II)V"⟩, 6) := ⟨⟨by decide +kernel, by decide +kernel⟩, List.mem_of_getElem? (i := 170) (by decide +kernel), List.mem_of_getElem? (i := 581) (by decide +kernel), List.mem_of_getElem? (i := 582) (by decide +kernel)⟩
theorem lw_p8 : lw_okq (⟨"PeriscopeTrain$World", "pop", "()I"⟩, 6) := ⟨⟨by decide +kernel, by decide +kernel⟩, List.mem_of_getElem? (i := 170) (by decide +kernel), List.mem_of_getElem? (i := 585) (by decide +kernel), List.mem_of_getElem? (i := 586) (by decide +kernel)⟩
theorem lw_p9 : lw_okq (⟨"PeriscopeTrain$World", "push", "(I)V"⟩, 6) := ⟨⟨by decide +kernel, by decide +kernel⟩, List.mem_of_getElem? (i := 170) (by decide +kernel), List.mem_of_getElem? (i := 615) (by decide +kernel), List.mem_of_getElem? (i := 616) (by decide +kernel)⟩
theorem lw_p10 : lw_okq (⟨"PeriscopeTrain$World", "valueOf", "(II)I"⟩, 6) := ⟨⟨by decide +kernel, by decide +kernel⟩, List.mem_of_getElem? (i := 170) (by decide +kernel), List.mem_of_getElem? (i := 631) (by decide +kernel), List.mem_of_getElem? (i := 632) (by decide +kernel)⟩
theorem lw_p11 : lw_okq (⟨"PeriscopeTrain$World", "work", "()V"⟩, 6) := ⟨⟨by decide +kernel, by decide +kernel⟩, List.mem_of_getElem? (i := 170) (by decide +kernel), List.mem_of_getElem? (i := 642) (by decide +kernel), List.mem_of_getElem? (i := 643) (by decide +kernel)⟩
theorem lw_p12 : lw_okq (⟨"PeriscopeTrain$World", "minutesFor", "(II)I"⟩, 6) := ⟨⟨by decide +kernel, by decide +kernel⟩, List.mem_of_getElem? (i := 170) (by decide +kernel), List.mem_of_getElem? (i := 648) (by decide +kernel), List.mem_of_getElem? (i := 649) (by decide +kernel)⟩
theorem lw_p13 : lw_okq (⟨"PeriscopeTrain$World", "finish", "(II)V"⟩, 6) := ⟨⟨by decide +kernel, by decide +kernel⟩, List.mem_of_getElem? (i := 170) (by decide +kernel), List.mem_of_getElem? (i := 667) (by decide +kernel), List.mem_of_getElem? (i := 668) (by decide +kernel)⟩
theorem lw_p14 : lw_okq (⟨"PeriscopeTrain", "lightIfTurned", "(II)I"⟩, 9) := ⟨⟨by decide +kernel, by decide +kernel⟩, List.mem_of_getElem? (i := 33) (by decide +kernel), List.mem_of_getElem? (i := 719) (by decide +kernel), List.mem_of_getElem? (i := 720) (by decide +kernel)⟩
theorem lw_p15 : lw_okq (⟨"PeriscopeTrain", "digestOfMirror", "(JI)J"⟩, 9) := ⟨⟨by decide +kernel, by decide +kernel⟩, List.mem_of_getElem? (i := 33) (by decide +kernel), List.mem_of_getElem? (i := 745) (by decide +kernel), List.mem_of_getElem? (i := 746) (by decide +kernel)⟩
def lw_privs_1 : List (MethodName × Nat) := [(⟨"PeriscopeTrain$Row", "shine", "()V"⟩, 14), (⟨"PeriscopeTrain$Row", "has", "(I)Z"⟩, 14), (⟨"PeriscopeTrain$Row", "isWithinWidth", "(I)Z"⟩, 14), (⟨"java/lang/Throwable", "fillInStackTrace", "(I)Ljava/lang/Throwable;"⟩, 6), (⟨"PeriscopeTrain", "checkMirror", "(I)V"⟩, 9), (⟨"PeriscopeTrain", "checkJob", "(I)V"⟩, 9), (⟨"PeriscopeTrain$World", "follow", "(II)V"⟩, 6), (⟨"PeriscopeTrain$World", "carryOut", "(II)V"⟩, 6), (⟨"PeriscopeTrain$World", "pop", "()I"⟩, 6), (⟨"PeriscopeTrain$World", "push", "(I)V"⟩, 6), (⟨"PeriscopeTrain$World", "valueOf", "(II)I"⟩, 6), (⟨"PeriscopeTrain$World", "work", "()V"⟩, 6), (⟨"PeriscopeTrain$World", "minutesFor", "(II)I"⟩, 6), (⟨"PeriscopeTrain$World", "finish", "(II)V"⟩, 6), (⟨"PeriscopeTrain", "lightIfTurned", "(II)I"⟩, 9), (⟨"PeriscopeTrain", "digestOfMirror", "(JI)J"⟩, 9)]
theorem lw_r1 : ∀ q ∈ lw_privs_1, lw_okq q := List.forall_mem_cons.mpr ⟨lw_p0, List.forall_mem_cons.mpr ⟨lw_p1, List.forall_mem_cons.mpr ⟨lw_p2, List.forall_mem_cons.mpr ⟨lw_p3, List.forall_mem_cons.mpr ⟨lw_p4, List.forall_mem_cons.mpr ⟨lw_p5, List.forall_mem_cons.mpr ⟨lw_p6, List.forall_mem_cons.mpr ⟨lw_p7, List.forall_mem_cons.mpr ⟨lw_p8, List.forall_mem_cons.mpr ⟨lw_p9, List.forall_mem_cons.mpr ⟨lw_p10, List.forall_mem_cons.mpr ⟨lw_p11, List.forall_mem_cons.mpr ⟨lw_p12, List.forall_mem_cons.mpr ⟨lw_p13, List.forall_mem_cons.mpr ⟨lw_p14, List.forall_mem_cons.mpr ⟨lw_p15, fun _ h => absurd h List.not_mem_nil⟩⟩⟩⟩⟩⟩⟩⟩⟩⟩⟩⟩⟩⟩⟩⟩
theorem lw_p16 : lw_okq (⟨"PeriscopeTrain$Tokens", "readToken", "(I)I"⟩, 6) := ⟨⟨by decide +kernel, by decide +kernel⟩, List.mem_of_getElem? (i := 57) (by decide +kernel), List.mem_of_getElem? (i := 951) (by decide +kernel), List.mem_of_getElem? (i := 952) (by decide +kernel)⟩
theorem lw_p17 : lw_okq (⟨"PeriscopeTrain$Tokens", "readWord", "(I)I"⟩, 6) := ⟨⟨by decide +kernel, by decide +kernel⟩, List.mem_of_getElem? (i := 57) (by decide +kernel), List.mem_of_getElem? (i := 959) (by decide +kernel), List.mem_of_getElem? (i := 960) (by decide +kernel)⟩
theorem lw_p18 : lw_okq (⟨"PeriscopeTrain$Tokens", "add", "(III)V"⟩, 6) := ⟨⟨by decide +kernel, by decide +kernel⟩, List.mem_of_getElem? (i := 57) (by decide +kernel), List.mem_of_getElem? (i := 1007) (by decide +kernel), List.mem_of_getElem? (i := 1008) (by decide +kernel)⟩
theorem lw_p19 : lw_okq (⟨"PeriscopeTrain$Tokens", "readNumber", "(I)I"⟩, 6) := ⟨⟨by decide +kernel, by decide +kernel⟩, List.mem_of_getElem? (i := 57) (by decide +kernel), List.mem_of_getElem? (i := 1012) (by decide +kernel), List.mem_of_getElem? (i := 1013) (by decide +kernel)⟩
theorem lw_p20 : lw_okq (⟨"PeriscopeTrain$Tokens", "readSymbol", "(II)I"⟩, 6) := ⟨⟨by decide +kernel, by decide +kernel⟩, List.mem_of_getElem? (i := 57) (by decide +kernel), List.mem_of_getElem? (i := 1024) (by decide +kernel), List.mem_of_getElem? (i := 1025) (by decide +kernel)⟩
theorem lw_p21 : lw_okq (⟨"PeriscopeTrain$Grammar", "isNext", "(I)Z"⟩, 3) := ⟨⟨by decide +kernel, by decide +kernel⟩, List.mem_of_getElem? (i := 131) (by decide +kernel), List.mem_of_getElem? (i := 1092) (by decide +kernel), List.mem_of_getElem? (i := 1093) (by decide +kernel)⟩
theorem lw_p22 : lw_okq (⟨"PeriscopeTrain$Grammar", "line", "()Z"⟩, 3) := ⟨⟨by decide +kernel, by decide +kernel⟩, List.mem_of_getElem? (i := 131) (by decide +kernel), List.mem_of_getElem? (i := 1100) (by decide +kernel), List.mem_of_getElem? (i := 1101) (by decide +kernel)⟩
theorem lw_p23 : lw_okq (⟨"PeriscopeTrain$Grammar", "take", "(I)Z"⟩, 3) := ⟨⟨by decide +kernel, by decide +kernel⟩, List.mem_of_getElem? (i := 131) (by decide +kernel), List.mem_of_getElem? (i := 1104) (by decide +kernel), List.mem_of_getElem? (i := 1105) (by decide +kernel)⟩
theorem lw_p24 : lw_okq (⟨"PeriscopeTrain$Grammar", "mirror", "()Z"⟩, 3) := ⟨⟨by decide +kernel, by decide +kernel⟩, List.mem_of_getElem? (i := 131) (by decide +kernel), List.mem_of_getElem? (i := 1108) (by decide +kernel), List.mem_of_getElem? (i := 1109) (by decide +kernel)⟩
theorem lw_p25 : lw_okq (⟨"PeriscopeTrain$Grammar", "order", "(I)Z"⟩, 3) := ⟨⟨by decide +kernel, by decide +kernel⟩, List.mem_of_getElem? (i := 131) (by decide +kernel), List.mem_of_getElem? (i := 1112) (by decide +kernel), List.mem_of_getElem? (i := 1113) (by decide +kernel)⟩
theorem lw_p26 : lw_okq (⟨"PeriscopeTrain$Grammar", "sum", "(I)Z"⟩, 3) := ⟨⟨by decide +kernel, by decide +kernel⟩, List.mem_of_getElem? (i := 131) (by decide +kernel), List.mem_of_getElem? (i := 1118) (by decide +kernel), List.mem_of_getElem? (i := 1119) (by decide +kernel)⟩
theorem lw_p27 : lw_okq (⟨"PeriscopeTrain$Grammar", "product", "(I)Z"⟩, 3) := ⟨⟨by decide +kernel, by decide +kernel⟩, List.mem_of_getElem? (i := 131) (by decide +kernel), List.mem_of_getElem? (i := 1122) (by decide +kernel), List.mem_of_getElem? (i := 1123) (by decide +kernel)⟩
theorem lw_p28 : lw_okq (⟨"PeriscopeTrain$Grammar", "value", "(I)Z"⟩, 3) := ⟨⟨by decide +kernel, by decide +kernel⟩, List.mem_of_getElem? (i := 131) (by decide +kernel), List.mem_of_getElem? (i := 1126) (by decide +kernel), List.mem_of_getElem? (i := 1127) (by decide +kernel)⟩
theorem lw_p29 : lw_okq (⟨"PeriscopeTrain$Grammar", "pair", "(II)Z"⟩, 3) := ⟨⟨by decide +kernel, by decide +kernel⟩, List.mem_of_getElem? (i := 131) (by decide +kernel), List.mem_of_getElem? (i := 1134) (by decide +kernel), List.mem_of_getElem? (i := 1135) (by decide +kernel)⟩
theorem lw_p30 : lw_okq (⟨"PeriscopeTrain$Grammar", "test", "(I)Z"⟩, 3) := ⟨⟨by decide +kernel, by decide +kernel⟩, List.mem_of_getElem? (i := 131) (by decide +kernel), List.mem_of_getElem? (i := 1138) (by decide +kernel), List.mem_of_getElem? (i := 1139) (by decide +kernel)⟩
theorem lw_p31 : lw_okq (⟨"PeriscopeTrain$Grammar", "both", "(I)Z"⟩, 3) := ⟨⟨by decide +kernel, by decide +kernel⟩, List.mem_of_getElem? (i := 131) (by decide +kernel), List.mem_of_getElem? (i := 1142) (by decide +kernel), List.mem_of_getElem? (i := 1143) (by decide +kernel)⟩
def lw_privs_2 : List (MethodName × Nat) := [(⟨"PeriscopeTrain$Tokens", "readToken", "(I)I"⟩, 6), (⟨"PeriscopeTrain$Tokens", "readWord", "(I)I"⟩, 6), (⟨"PeriscopeTrain$Tokens", "add", "(III)V"⟩, 6), (⟨"PeriscopeTrain$Tokens", "readNumber", "(I)I"⟩, 6), (⟨"PeriscopeTrain$Tokens", "readSymbol", "(II)I"⟩, 6), (⟨"PeriscopeTrain$Grammar", "isNext", "(I)Z"⟩, 3), (⟨"PeriscopeTrain$Grammar", "line", "()Z"⟩, 3), (⟨"PeriscopeTrain$Grammar", "take", "(I)Z"⟩, 3), (⟨"PeriscopeTrain$Grammar", "mirror", "()Z"⟩, 3), (⟨"PeriscopeTrain$Grammar", "order", "(I)Z"⟩, 3), (⟨"PeriscopeTrain$Grammar", "sum", "(I)Z"⟩, 3), (⟨"PeriscopeTrain$Grammar", "product", "(I)Z"⟩, 3), (⟨"PeriscopeTrain$Grammar", "value", "(I)Z"⟩, 3), (⟨"PeriscopeTrain$Grammar", "pair", "(II)Z"⟩, 3), (⟨"PeriscopeTrain$Grammar", "test", "(I)Z"⟩, 3), (⟨"PeriscopeTrain$Grammar", "both", "(I)Z"⟩, 3)]
theorem lw_r2 : ∀ q ∈ lw_privs_2, lw_okq q := List.forall_mem_cons.mpr ⟨lw_p16, List.forall_mem_cons.mpr ⟨lw_p17, List.forall_mem_cons.mpr ⟨lw_p18, List.forall_mem_cons.mpr ⟨lw_p19, List.forall_mem_cons.mpr ⟨lw_p20, List.forall_mem_cons.mpr ⟨lw_p21, List.forall_mem_cons.mpr ⟨lw_p22, List.forall_mem_cons.mpr ⟨lw_p23, List.forall_mem_cons.mpr ⟨lw_p24, List.forall_mem_cons.mpr ⟨lw_p25, List.forall_mem_cons.mpr ⟨lw_p26, List.forall_mem_cons.mpr ⟨lw_p27, List.forall_mem_cons.mpr ⟨lw_p28, List.forall_mem_cons.mpr ⟨lw_p29, List.forall_mem_cons.mpr ⟨lw_p30, List.forall_mem_cons.mpr ⟨lw_p31, fun _ h => absurd h List.not_mem_nil⟩⟩⟩⟩⟩⟩⟩⟩⟩⟩⟩⟩⟩⟩⟩⟩
theorem lw_p32 : lw_okq (⟨"PeriscopeTrain$Grammar", "single", "(I)Z"⟩, 3) := ⟨⟨by decide +kernel, by decide +kernel⟩, List.mem_of_getElem? (i := 131) (by decide +kernel), List.mem_of_getElem? (i := 1146) (by decide +kernel), List.mem_of_getElem? (i := 1147) (by decide +kernel)⟩
theorem lw_p33 : lw_okq (⟨"PeriscopeTrain$Meaning", "errorOf", "(I)I"⟩, 5) := ⟨⟨by decide +kernel, by decide +kernel⟩, List.mem_of_getElem? (i := 147) (by decide +kernel), List.mem_of_getElem? (i := 1154) (by decide +kernel), List.mem_of_getElem? (i := 1155) (by decide +kernel)⟩
theorem lw_p34 : lw_okq (⟨"PeriscopeTrain$Meaning", "errorOfNewName", "(I)I"⟩, 5) := ⟨⟨by decide +kernel, by decide +kernel⟩, List.mem_of_getElem? (i := 147) (by decide +kernel), List.mem_of_getElem? (i := 1159) (by decide +kernel), List.mem_of_getElem? (i := 1160) (by decide +kernel)⟩
theorem lw_p35 : lw_okq (⟨"PeriscopeTrain$Meaning", "mirrorNamed", "(I)I"⟩, 5) := ⟨⟨by decide +kernel, by decide +kernel⟩, List.mem_of_getElem? (i := 147) (by decide +kernel), List.mem_of_getElem? (i := 1163) (by decide +kernel), List.mem_of_getElem? (i := 1164) (by decide +kernel)⟩
theorem lw_p36 : lw_okq (⟨"PeriscopeTrain$Meaning", "errorOfName", "(I)I"⟩, 5) := ⟨⟨by decide +kernel, by decide +kernel⟩, List.mem_of_getElem? (i := 147) (by decide +kernel), List.mem_of_getElem? (i := 1175) (by decide +kernel), List.mem_of_getElem? (i := 1176) (by decide +kernel)⟩
theorem lw_p37 : lw_okq (⟨"PeriscopeTrain$Meaning", "errorOfNumber", "(I)I"⟩, 5) := ⟨⟨by decide +kernel, by decide +kernel⟩, List.mem_of_getElem? (i := 147) (by decide +kernel), List.mem_of_getElem? (i := 1180) (by decide +kernel), List.mem_of_getElem? (i := 1181) (by decide +kernel)⟩
theorem lw_p38 : lw_okq (⟨"PeriscopeTrain$Meaning", "errorOfOrder", "()I"⟩, 5) := ⟨⟨by decide +kernel, by decide +kernel⟩, List.mem_of_getElem? (i := 147) (by decide +kernel), List.mem_of_getElem? (i := 1197) (by decide +kernel), List.mem_of_getElem? (i := 1198) (by decide +kernel)⟩
def lw_privs_3 : List (MethodName × Nat) := [(⟨"PeriscopeTrain$Grammar", "single", "(I)Z"⟩, 3), (⟨"PeriscopeTrain$Meaning", "errorOf", "(I)I"⟩, 5), (⟨"PeriscopeTrain$Meaning", "errorOfNewName", "(I)I"⟩, 5), (⟨"PeriscopeTrain$Meaning", "mirrorNamed", "(I)I"⟩, 5), (⟨"PeriscopeTrain$Meaning", "errorOfName", "(I)I"⟩, 5), (⟨"PeriscopeTrain$Meaning", "errorOfNumber", "(I)I"⟩, 5), (⟨"PeriscopeTrain$Meaning", "errorOfOrder", "()I"⟩, 5)]
theorem lw_r3 : ∀ q ∈ lw_privs_3, lw_okq q := List.forall_mem_cons.mpr ⟨lw_p32, List.forall_mem_cons.mpr ⟨lw_p33, List.forall_mem_cons.mpr ⟨lw_p34, List.forall_mem_cons.mpr ⟨lw_p35, List.forall_mem_cons.mpr ⟨lw_p36, List.forall_mem_cons.mpr ⟨lw_p37, List.forall_mem_cons.mpr ⟨lw_p38, fun _ h => absurd h List.not_mem_nil⟩⟩⟩⟩⟩⟩⟩
def lw_privs : List (MethodName × Nat) := lw_privs_1 ++ (lw_privs_2 ++ (lw_privs_3))
def lw_tbl : List Cond := k2_sels lw_privs ++ tables_1
theorem lw_privs_ok : ∀ q ∈ lw_privs, lw_okq q := by
  show ∀ q ∈ lw_privs_1 ++ (lw_privs_2 ++ (lw_privs_3)), lw_okq q
  exact List.forall_mem_append.mpr ⟨lw_r1, List.forall_mem_append.mpr ⟨lw_r2, lw_r3⟩⟩
/-- the streams that the claim lets the run draw from -/
abbrev lw_cs : List Choice := [Jvm.Choice.named "NaN.bits"]
theorem lw_bits : nanBits ∈ lw_cs := by first | decide | exact List.mem_cons_self | simp [lw_cs, nanBits]
-- ===== end of PART A; then your names; then what follows =====
def RX0 : String := "PeriscopeTrain$Grammar"
def TX0 : u_T := fun k => match k with
  | 0 => ("PeriscopeTrain$Grammar", "tokens", "LPeriscopeTrain$Tokens;", true)
  | 1 => ("PeriscopeTrain$Grammar", "draft", "LPeriscopeTrain$Plan;", true)
  | _ => ("PeriscopeTrain$Grammar", "at", "I", false)
def tyX0 : Nat → FieldType := fun k => match k with
  | 0 => .object "PeriscopeTrain$Tokens"
  | 1 => .object "PeriscopeTrain$Plan"
  | _ => .int
theorem nmX0 : ∀ a, a < 3 → ∀ b, b < 3 → a ≠ b → (TX0 a).2.1 ≠ (TX0 b).2.1 := by decide +kernel
theorem tyX0_ok : ∀ k, k < 3 → parseFieldDescriptor (TX0 k).2.2.1 = some (tyX0 k) := by decide +kernel
abbrev cX0_init : ByteArray := prog_2_method_1_code
def yX0_init : MethodName := ⟨RX0, "<init>", "(LPeriscopeTrain$Tokens;LPeriscopeTrain$Plan;)V"⟩
abbrev cX0_firstMisfit : ByteArray := prog_2_method_2_code
def yX0_firstMisfit : MethodName := ⟨RX0, "firstMisfit", "()I"⟩
abbrev cX0_isNext : ByteArray := prog_2_method_3_code
def yX0_isNext : MethodName := ⟨RX0, "isNext", "(I)Z"⟩
abbrev cX0_take : ByteArray := prog_2_method_4_code
def yX0_take : MethodName := ⟨RX0, "take", "(I)Z"⟩
abbrev cX0_line : ByteArray := prog_2_method_5_code
def yX0_line : MethodName := ⟨RX0, "line", "()Z"⟩
abbrev cX0_mirror : ByteArray := prog_2_method_6_code
def yX0_mirror : MethodName := ⟨RX0, "mirror", "()Z"⟩
abbrev cX0_order : ByteArray := prog_2_method_7_code
def yX0_order : MethodName := ⟨RX0, "order", "(I)Z"⟩
abbrev cX0_test : ByteArray := prog_2_method_8_code
def yX0_test : MethodName := ⟨RX0, "test", "(I)Z"⟩
abbrev cX0_both : ByteArray := prog_2_method_9_code
def yX0_both : MethodName := ⟨RX0, "both", "(I)Z"⟩
abbrev cX0_single : ByteArray := prog_2_method_10_code
def yX0_single : MethodName := ⟨RX0, "single", "(I)Z"⟩
abbrev cX0_sum : ByteArray := prog_2_method_11_code
def yX0_sum : MethodName := ⟨RX0, "sum", "(I)Z"⟩
abbrev cX0_product : ByteArray := prog_2_method_12_code
def yX0_product : MethodName := ⟨RX0, "product", "(I)Z"⟩
abbrev cX0_value : ByteArray := prog_2_method_13_code
def yX0_value : MethodName := ⟨RX0, "value", "(I)Z"⟩
abbrev cX0_pair : ByteArray := prog_2_method_14_code
def yX0_pair : MethodName := ⟨RX0, "pair", "(II)Z"⟩
def RX1 : String := "PeriscopeTrain$Meaning"
def TX1 : u_T := fun k => match k with
  | 0 => ("PeriscopeTrain$Meaning", "tape", "LPeriscopeTrain$Tape;", true)
  | 1 => ("PeriscopeTrain$Meaning", "tokens", "LPeriscopeTrain$Tokens;", true)
  | 2 => ("PeriscopeTrain$Meaning", "draft", "LPeriscopeTrain$Plan;", true)
  | 3 => ("PeriscopeTrain$Meaning", "names", "[I", true)
  | _ => ("PeriscopeTrain$Meaning", "error", "I", false)
def tyX1 : Nat → FieldType := fun k => match k with
  | 0 => .object "PeriscopeTrain$Tape"
  | 1 => .object "PeriscopeTrain$Tokens"
  | 2 => .object "PeriscopeTrain$Plan"
  | 3 => .array .int
  | _ => .int
theorem nmX1 : ∀ a, a < 5 → ∀ b, b < 5 → a ≠ b → (TX1 a).2.1 ≠ (TX1 b).2.1 := by decide +kernel
theorem tyX1_ok : ∀ k, k < 5 → parseFieldDescriptor (TX1 k).2.2.1 = some (tyX1 k) := by decide +kernel
abbrev cX1_init : ByteArray := prog_3_method_1_code
def yX1_init : MethodName := ⟨RX1, "<init>", "(LPeriscopeTrain$Tape;LPeriscopeTrain$Tokens;LPeriscopeTrain$Plan;)V"⟩
abbrev cX1_firstMistake : ByteArray := prog_3_method_2_code
def yX1_firstMistake : MethodName := ⟨RX1, "firstMistake", "()I"⟩
abbrev cX1_errorOf : ByteArray := prog_3_method_3_code
def yX1_errorOf : MethodName := ⟨RX1, "errorOf", "(I)I"⟩
abbrev cX1_errorOfNewName : ByteArray := prog_3_method_4_code
def yX1_errorOfNewName : MethodName := ⟨RX1, "errorOfNewName", "(I)I"⟩
abbrev cX1_errorOfName : ByteArray := prog_3_method_5_code
def yX1_errorOfName : MethodName := ⟨RX1, "errorOfName", "(I)I"⟩
abbrev cX1_mirrorNamed : ByteArray := prog_3_method_6_code
def yX1_mirrorNamed : MethodName := ⟨RX1, "mirrorNamed", "(I)I"⟩
abbrev cX1_errorOfOrder : ByteArray := prog_3_method_7_code
def yX1_errorOfOrder : MethodName := ⟨RX1, "errorOfOrder", "()I"⟩
abbrev cX1_errorOfNumber : ByteArray := prog_3_method_8_code
def yX1_errorOfNumber : MethodName := ⟨RX1, "errorOfNumber", "(I)I"⟩
def RX2 : String := "PeriscopeTrain$Plan"
def TX2 : u_T := fun k => match k with
  | 0 => ("PeriscopeTrain$Plan", "clarity", "[I", true)
  | 1 => ("PeriscopeTrain$Plan", "offset", "[I", true)
  | 2 => ("PeriscopeTrain$Plan", "step", "[I", true)
  | 3 => ("PeriscopeTrain$Plan", "value", "[I", true)
  | 4 => ("PeriscopeTrain$Plan", "mirrors", "I", false)
  | 5 => ("PeriscopeTrain$Plan", "orders", "I", false)
  | 6 => ("PeriscopeTrain$Plan", "width", "I", false)
  | 7 => ("PeriscopeTrain$Plan", "limit", "I", false)
  | _ => ("PeriscopeTrain$Plan", "length", "I", false)
def tyX2 : Nat → FieldType := fun k => match k with
  | 0 => .array .int
  | 1 => .array .int
  | 2 => .array .int
  | 3 => .array .int
  | 4 => .int
  | 5 => .int
  | 6 => .int
  | 7 => .int
  | _ => .int
theorem nmX2 : ∀ a, a < 9 → ∀ b, b < 9 → a ≠ b → (TX2 a).2.1 ≠ (TX2 b).2.1 := by decide +kernel
theorem tyX2_ok : ∀ k, k < 9 → parseFieldDescriptor (TX2 k).2.2.1 = some (tyX2 k) := by decide +kernel
abbrev cX2_init : ByteArray := prog_4_method_1_code
def yX2_init : MethodName := ⟨RX2, "<init>", "()V"⟩
abbrev cX2_clear : ByteArray := prog_4_method_2_code
def yX2_clear : MethodName := ⟨RX2, "clear", "()V"⟩
abbrev cX2_write : ByteArray := prog_4_method_3_code
def yX2_write : MethodName := ⟨RX2, "write", "(II)V"⟩
abbrev cX2_tellClarity : ByteArray := prog_4_method_4_code
def yX2_tellClarity : MethodName := ⟨RX2, "tellClarity", "(I)V"⟩
abbrev cX2_tellOffset : ByteArray := prog_4_method_5_code
def yX2_tellOffset : MethodName := ⟨RX2, "tellOffset", "(I)V"⟩
abbrev cX2_takeOver : ByteArray := prog_4_method_6_code
def yX2_takeOver : MethodName := ⟨RX2, "takeOver", "(LPeriscopeTrain$Plan;LPeriscopeTrain$Tokens;)V"⟩
def RX3 : String := "PeriscopeTrain$Queue"
def TX3 : u_T := fun k => match k with
  | 0 => ("PeriscopeTrain$Queue", "kind", "[I", true)
  | 1 => ("PeriscopeTrain$Queue", "mirror", "[I", true)
  | 2 => ("PeriscopeTrain$Queue", "size", "I", false)
  | 3 => ("PeriscopeTrain$Queue", "toGo", "I", false)
  | _ => ("PeriscopeTrain$Queue", "done", "I", false)
def tyX3 : Nat → FieldType := fun k => match k with
  | 0 => .array .int
  | 1 => .array .int
  | 2 => .int
  | 3 => .int
  | _ => .int
theorem nmX3 : ∀ a, a < 5 → ∀ b, b < 5 → a ≠ b → (TX3 a).2.1 ≠ (TX3 b).2.1 := by decide +kernel
theorem tyX3_ok : ∀ k, k < 5 → parseFieldDescriptor (TX3 k).2.2.1 = some (tyX3 k) := by decide +kernel
abbrev cX3_init : ByteArray := prog_5_method_1_code
def yX3_init : MethodName := ⟨RX3, "<init>", "()V"⟩
abbrev cX3_begin : ByteArray := prog_5_method_2_code
def yX3_begin : MethodName := ⟨RX3, "begin", "()V"⟩
abbrev cX3_copy : ByteArray := prog_5_method_3_code
def yX3_copy : MethodName := ⟨RX3, "copy", "(LPeriscopeTrain$Queue;)V"⟩
abbrev cX3_kindIn : ByteArray := prog_5_method_4_code
def yX3_kindIn : MethodName := ⟨RX3, "kindIn", "(I)I"⟩
abbrev cX3_mirrorIn : ByteArray := prog_5_method_5_code
def yX3_mirrorIn : MethodName := ⟨RX3, "mirrorIn", "(I)I"⟩
abbrev cX3_hasJobFor : ByteArray := prog_5_method_6_code
def yX3_hasJobFor : MethodName := ⟨RX3, "hasJobFor", "(I)Z"⟩
abbrev cX3_takesIn : ByteArray := prog_5_method_7_code
def yX3_takesIn : MethodName := ⟨RX3, "takesIn", "(II)Z"⟩
abbrev cX3_add : ByteArray := prog_5_method_8_code
def yX3_add : MethodName := ⟨RX3, "add", "(II)V"⟩
abbrev cX3_remove : ByteArray := prog_5_method_9_code
def yX3_remove : MethodName := ⟨RX3, "remove", "(I)V"⟩
def RX4 : String := "PeriscopeTrain$Row"
def TX4 : u_T := fun k => match k with
  | 0 => ("PeriscopeTrain$Row", "clarity", "[I", true)
  | 1 => ("PeriscopeTrain$Row", "best", "[I", true)
  | 2 => ("PeriscopeTrain$Row", "offset", "[I", true)
  | 3 => ("PeriscopeTrain$Row", "mirrorAtPlace", "[I", true)
  | 4 => ("PeriscopeTrain$Row", "light", "[I", true)
  | 5 => ("PeriscopeTrain$Row", "lost", "[I", true)
  | 6 => ("PeriscopeTrain$Row", "tilt", "[I", true)
  | 7 => ("PeriscopeTrain$Row", "count", "I", false)
  | 8 => ("PeriscopeTrain$Row", "width", "I", false)
  | 9 => ("PeriscopeTrain$Row", "limit", "I", false)
  | 10 => ("PeriscopeTrain$Row", "covered", "I", false)
  | 11 => ("PeriscopeTrain$Row", "endLight", "I", false)
  | 12 => ("PeriscopeTrain$Row", "endTilt", "I", false)
  | _ => ("PeriscopeTrain$Row", "isLit", "Z", false)
def tyX4 : Nat → FieldType := fun k => match k with
  | 0 => .array .int
  | 1 => .array .int
  | 2 => .array .int
  | 3 => .array .int
  | 4 => .array .int
  | 5 => .array .int
  | 6 => .array .int
  | 7 => .int
  | 8 => .int
  | 9 => .int
  | 10 => .int
  | 11 => .int
  | 12 => .int
  | _ => .boolean
theorem nmX4 : ∀ a, a < 14 → ∀ b, b < 14 → a ≠ b → (TX4 a).2.1 ≠ (TX4 b).2.1 := by decide +kernel
theorem tyX4_ok : ∀ k, k < 14 → parseFieldDescriptor (TX4 k).2.2.1 = some (tyX4 k) := by decide +kernel
abbrev cX4_init : ByteArray := prog_6_method_1_code
def yX4_init : MethodName := ⟨RX4, "<init>", "()V"⟩
abbrev cX4_begin : ByteArray := prog_6_method_2_code
def yX4_begin : MethodName := ⟨RX4, "begin", "(LPeriscopeTrain$Plan;)V"⟩
abbrev cX4_copy : ByteArray := prog_6_method_3_code
def yX4_copy : MethodName := ⟨RX4, "copy", "(LPeriscopeTrain$Row;)V"⟩
abbrev cX4_has : ByteArray := prog_6_method_4_code
def yX4_has : MethodName := ⟨RX4, "has", "(I)Z"⟩
abbrev cX4_mirrorIn : ByteArray := prog_6_method_5_code
def yX4_mirrorIn : MethodName := ⟨RX4, "mirrorIn", "(I)I"⟩
abbrev cX4_findPlace : ByteArray := prog_6_method_6_code
def yX4_findPlace : MethodName := ⟨RX4, "findPlace", "(I)I"⟩
abbrev cX4_valueOf : ByteArray := prog_6_method_7_code
def yX4_valueOf : MethodName := ⟨RX4, "valueOf", "(II)I"⟩
abbrev cX4_lastLight : ByteArray := prog_6_method_8_code
def yX4_lastLight : MethodName := ⟨RX4, "lastLight", "()I"⟩
abbrev cX4_lastTilt : ByteArray := prog_6_method_9_code
def yX4_lastTilt : MethodName := ⟨RX4, "lastTilt", "()I"⟩
abbrev cX4_showsLight : ByteArray := prog_6_method_10_code
def yX4_showsLight : MethodName := ⟨RX4, "showsLight", "()Z"⟩
abbrev cX4_mostLosing : ByteArray := prog_6_method_11_code
def yX4_mostLosing : MethodName := ⟨RX4, "mostLosing", "()I"⟩
abbrev cX4_isWithinWidth : ByteArray := prog_6_method_12_code
def yX4_isWithinWidth : MethodName := ⟨RX4, "isWithinWidth", "(I)Z"⟩
abbrev cX4_shine : ByteArray := prog_6_method_13_code
def yX4_shine : MethodName := ⟨RX4, "shine", "()V"⟩
abbrev cX4_cover : ByteArray := prog_6_method_14_code
def yX4_cover : MethodName := ⟨RX4, "cover", "(I)V"⟩
abbrev cX4_turn : ByteArray := prog_6_method_15_code
def yX4_turn : MethodName := ⟨RX4, "turn", "(II)V"⟩
abbrev cX4_shake : ByteArray := prog_6_method_16_code
def yX4_shake : MethodName := ⟨RX4, "shake", "(II)V"⟩
abbrev cX4_dim : ByteArray := prog_6_method_17_code
def yX4_dim : MethodName := ⟨RX4, "dim", "(III)V"⟩
abbrev cX4_dust : ByteArray := prog_6_method_18_code
def yX4_dust : MethodName := ⟨RX4, "dust", "(II)V"⟩
abbrev cX4_clean : ByteArray := prog_6_method_19_code
def yX4_clean : MethodName := ⟨RX4, "clean", "(I)V"⟩
abbrev cX4_replace : ByteArray := prog_6_method_20_code
def yX4_replace : MethodName := ⟨RX4, "replace", "(I)V"⟩
abbrev cX4_move : ByteArray := prog_6_method_21_code
def yX4_move : MethodName := ⟨RX4, "move", "(II)V"⟩
def RX5 : String := "PeriscopeTrain$Tape"
def TX5 : u_T := fun k => match k with
  | 0 => ("PeriscopeTrain$Tape", "bytes", "[B", true)
  | _ => ("PeriscopeTrain$Tape", "length", "I", false)
def tyX5 : Nat → FieldType := fun k => match k with
  | 0 => .array .byte
  | _ => .int
theorem nmX5 : ∀ a, a < 2 → ∀ b, b < 2 → a ≠ b → (TX5 a).2.1 ≠ (TX5 b).2.1 := by decide +kernel
theorem tyX5_ok : ∀ k, k < 2 → parseFieldDescriptor (TX5 k).2.2.1 = some (tyX5 k) := by decide +kernel
abbrev cX5_init : ByteArray := prog_7_method_1_code
def yX5_init : MethodName := ⟨RX5, "<init>", "()V"⟩
abbrev cX5_append : ByteArray := prog_7_method_2_code
def yX5_append : MethodName := ⟨RX5, "append", "(I)V"⟩
abbrev cX5_byteAt : ByteArray := prog_7_method_3_code
def yX5_byteAt : MethodName := ⟨RX5, "byteAt", "(I)I"⟩
abbrev cX5_skipBlanks : ByteArray := prog_7_method_4_code
def yX5_skipBlanks : MethodName := ⟨RX5, "skipBlanks", "(I)I"⟩
abbrev cX5_skipDigits : ByteArray := prog_7_method_5_code
def yX5_skipDigits : MethodName := ⟨RX5, "skipDigits", "(I)I"⟩
abbrev cX5_skipLettersAndDigits : ByteArray := prog_7_method_6_code
def yX5_skipLettersAndDigits : MethodName := ⟨RX5, "skipLettersAndDigits", "(I)I"⟩
abbrev cX5_holdsText : ByteArray := prog_7_method_7_code
def yX5_holdsText : MethodName := ⟨RX5, "holdsText", "(Ljava/lang/String;II)Z"⟩
abbrev cX5_holdsSame : ByteArray := prog_7_method_8_code
def yX5_holdsSame : MethodName := ⟨RX5, "holdsSame", "(III)Z"⟩
abbrev cX5_isBlank : ByteArray := prog_7_method_9_code
def yX5_isBlank : MethodName := ⟨RX5, "isBlank", "(I)Z"⟩
abbrev cX5_isLetter : ByteArray := prog_7_method_10_code
def yX5_isLetter : MethodName := ⟨RX5, "isLetter", "(I)Z"⟩
abbrev cX5_isDigit : ByteArray := prog_7_method_11_code
def yX5_isDigit : MethodName := ⟨RX5, "isDigit", "(I)Z"⟩
def RX6 : String := "PeriscopeTrain$Tokens"
def TX6 : u_T := fun k => match k with
  | 0 => ("PeriscopeTrain$Tokens", "tape", "LPeriscopeTrain$Tape;", true)
  | 1 => ("PeriscopeTrain$Tokens", "kind", "[I", true)
  | 2 => ("PeriscopeTrain$Tokens", "start", "[I", true)
  | 3 => ("PeriscopeTrain$Tokens", "size", "[I", true)
  | 4 => ("PeriscopeTrain$Tokens", "value", "[I", true)
  | _ => ("PeriscopeTrain$Tokens", "count", "I", false)
def tyX6 : Nat → FieldType := fun k => match k with
  | 0 => .object "PeriscopeTrain$Tape"
  | 1 => .array .int
  | 2 => .array .int
  | 3 => .array .int
  | 4 => .array .int
  | _ => .int
theorem nmX6 : ∀ a, a < 6 → ∀ b, b < 6 → a ≠ b → (TX6 a).2.1 ≠ (TX6 b).2.1 := by decide +kernel
theorem tyX6_ok : ∀ k, k < 6 → parseFieldDescriptor (TX6 k).2.2.1 = some (tyX6 k) := by decide +kernel
abbrev cX6_init : ByteArray := prog_8_method_1_code
def yX6_init : MethodName := ⟨RX6, "<init>", "(LPeriscopeTrain$Tape;)V"⟩
abbrev cX6_kindAt : ByteArray := prog_8_method_2_code
def yX6_kindAt : MethodName := ⟨RX6, "kindAt", "(I)I"⟩
abbrev cX6_valueAt : ByteArray := prog_8_method_3_code
def yX6_valueAt : MethodName := ⟨RX6, "valueAt", "(I)I"⟩
abbrev cX6_setValue : ByteArray := prog_8_method_4_code
def yX6_setValue : MethodName := ⟨RX6, "setValue", "(II)V"⟩
abbrev cX6_positionOf : ByteArray := prog_8_method_5_code
def yX6_positionOf : MethodName := ⟨RX6, "positionOf", "(I)I"⟩
abbrev cX6_areSameNames : ByteArray := prog_8_method_6_code
def yX6_areSameNames : MethodName := ⟨RX6, "areSameNames", "(II)Z"⟩
abbrev cX6_readTape : ByteArray := prog_8_method_7_code
def yX6_readTape : MethodName := ⟨RX6, "readTape", "()V"⟩
abbrev cX6_readToken : ByteArray := prog_8_method_8_code
def yX6_readToken : MethodName := ⟨RX6, "readToken", "(I)I"⟩
abbrev cX6_readWord : ByteArray := prog_8_method_9_code
def yX6_readWord : MethodName := ⟨RX6, "readWord", "(I)I"⟩
abbrev cX6_readNumber : ByteArray := prog_8_method_10_code
def yX6_readNumber : MethodName := ⟨RX6, "readNumber", "(I)I"⟩
abbrev cX6_readSymbol : ByteArray := prog_8_method_11_code
def yX6_readSymbol : MethodName := ⟨RX6, "readSymbol", "(II)I"⟩
abbrev cX6_add : ByteArray := prog_8_method_12_code
def yX6_add : MethodName := ⟨RX6, "add", "(III)V"⟩
abbrev cX6_keyword : ByteArray := prog_8_method_13_code
def yX6_keyword : MethodName := ⟨RX6, "keyword", "(I)Ljava/lang/String;"⟩
def RX7 : String := "PeriscopeTrain$World"
def TX7 : u_T := fun k => match k with
  | 0 => ("PeriscopeTrain$World", "plan", "LPeriscopeTrain$Plan;", true)
  | 1 => ("PeriscopeTrain$World", "row", "LPeriscopeTrain$Row;", true)
  | 2 => ("PeriscopeTrain$World", "queue", "LPeriscopeTrain$Queue;", true)
  | 3 => ("PeriscopeTrain$World", "answers", "[I", true)
  | 4 => ("PeriscopeTrain$World", "answered", "I", false)
  | _ => ("PeriscopeTrain$World", "minute", "I", false)
def tyX7 : Nat → FieldType := fun k => match k with
  | 0 => .object "PeriscopeTrain$Plan"
  | 1 => .object "PeriscopeTrain$Row"
  | 2 => .object "PeriscopeTrain$Queue"
  | 3 => .array .int
  | 4 => .int
  | _ => .int
theorem nmX7 : ∀ a, a < 6 → ∀ b, b < 6 → a ≠ b → (TX7 a).2.1 ≠ (TX7 b).2.1 := by decide +kernel
theorem tyX7_ok : ∀ k, k < 6 → parseFieldDescriptor (TX7 k).2.2.1 = some (tyX7 k) := by decide +kernel
abbrev cX7_init : ByteArray := prog_9_method_1_code
def yX7_init : MethodName := ⟨RX7, "<init>", "(LPeriscopeTrain$Plan;)V"⟩
abbrev cX7_begin : ByteArray := prog_9_method_2_code
def yX7_begin : MethodName := ⟨RX7, "begin", "()V"⟩
abbrev cX7_copy : ByteArray := prog_9_method_3_code
def yX7_copy : MethodName := ⟨RX7, "copy", "(LPeriscopeTrain$World;)V"⟩
abbrev cX7_pass : ByteArray := prog_9_method_4_code
def yX7_pass : MethodName := ⟨RX7, "pass", "(I)V"⟩
abbrev cX7_dropJob : ByteArray := prog_9_method_5_code
def yX7_dropJob : MethodName := ⟨RX7, "dropJob", "(I)V"⟩
abbrev cX7_follow : ByteArray := prog_9_method_6_code
def yX7_follow : MethodName := ⟨RX7, "follow", "(II)V"⟩
abbrev cX7_push : ByteArray := prog_9_method_7_code
def yX7_push : MethodName := ⟨RX7, "push", "(I)V"⟩
abbrev cX7_pop : ByteArray := prog_9_method_8_code
def yX7_pop : MethodName := ⟨RX7, "pop", "()I"⟩
abbrev cX7_carryOut : ByteArray := prog_9_method_9_code
def yX7_carryOut : MethodName := ⟨RX7, "carryOut", "(II)V"⟩
abbrev cX7_valueOf : ByteArray := prog_9_method_10_code
def yX7_valueOf : MethodName := ⟨RX7, "valueOf", "(II)I"⟩
abbrev cX7_joinsTwo : ByteArray := prog_9_method_11_code
def yX7_joinsTwo : MethodName := ⟨RX7, "joinsTwo", "(I)Z"⟩
abbrev cX7_join : ByteArray := prog_9_method_12_code
def yX7_join : MethodName := ⟨RX7, "join", "(III)I"⟩
abbrev cX7_work : ByteArray := prog_9_method_13_code
def yX7_work : MethodName := ⟨RX7, "work", "()V"⟩
abbrev cX7_minutesFor : ByteArray := prog_9_method_14_code
def yX7_minutesFor : MethodName := ⟨RX7, "minutesFor", "(II)I"⟩
abbrev cX7_finish : ByteArray := prog_9_method_15_code
def yX7_finish : MethodName := ⟨RX7, "finish", "(II)V"⟩
def RX8 : String := "PeriscopeTrain"
def TX8 : u_T := fun k => match k with
  | 0 => ("PeriscopeTrain", "tape", "LPeriscopeTrain$Tape;", true)
  | 1 => ("PeriscopeTrain", "tokens", "LPeriscopeTrain$Tokens;", true)
  | 2 => ("PeriscopeTrain", "grammar", "LPeriscopeTrain$Grammar;", true)
  | 3 => ("PeriscopeTrain", "meaning", "LPeriscopeTrain$Meaning;", true)
  | 4 => ("PeriscopeTrain", "draft", "LPeriscopeTrain$Plan;", true)
  | 5 => ("PeriscopeTrain", "plan", "LPeriscopeTrain$Plan;", true)
  | 6 => ("PeriscopeTrain", "now", "LPeriscopeTrain$World;", true)
  | 7 => ("PeriscopeTrain", "would", "LPeriscopeTrain$World;", true)
  | _ => ("PeriscopeTrain", "errorPosition", "I", false)
def tyX8 : Nat → FieldType := fun k => match k with
  | 0 => .object "PeriscopeTrain$Tape"
  | 1 => .object "PeriscopeTrain$Tokens"
  | 2 => .object "PeriscopeTrain$Grammar"
  | 3 => .object "PeriscopeTrain$Meaning"
  | 4 => .object "PeriscopeTrain$Plan"
  | 5 => .object "PeriscopeTrain$Plan"
  | 6 => .object "PeriscopeTrain$World"
  | 7 => .object "PeriscopeTrain$World"
  | _ => .int
theorem nmX8 : ∀ a, a < 9 → ∀ b, b < 9 → a ≠ b → (TX8 a).2.1 ≠ (TX8 b).2.1 := by decide +kernel
theorem tyX8_ok : ∀ k, k < 9 → parseFieldDescriptor (TX8 k).2.2.1 = some (tyX8 k) := by decide +kernel
abbrev cX8_init : ByteArray := prog_1_method_1_code
def yX8_init : MethodName := ⟨RX8, "<init>", "()V"⟩
abbrev cX8_feed : ByteArray := prog_1_method_2_code
def yX8_feed : MethodName := ⟨RX8, "feed", "(IIIII)I"⟩
abbrev cX8_trim : ByteArray := prog_1_method_3_code
def yX8_trim : MethodName := ⟨RX8, "trim", "(I)I"⟩
abbrev cX8_teach : ByteArray := prog_1_method_4_code
def yX8_teach : MethodName := ⟨RX8, "teach", "()I"⟩
abbrev cX8_mirrors : ByteArray := prog_1_method_6_code
def yX8_mirrors : MethodName := ⟨RX8, "mirrors", "()I"⟩
abbrev cX8_orders : ByteArray := prog_1_method_7_code
def yX8_orders : MethodName := ⟨RX8, "orders", "()I"⟩
abbrev cX8_minutes : ByteArray := prog_1_method_8_code
def yX8_minutes : MethodName := ⟨RX8, "minutes", "()I"⟩
abbrev cX8_tapeBytes : ByteArray := prog_1_method_9_code
def yX8_tapeBytes : MethodName := ⟨RX8, "tapeBytes", "()I"⟩
abbrev cX8_lightAtEnd : ByteArray := prog_1_method_10_code
def yX8_lightAtEnd : MethodName := ⟨RX8, "lightAtEnd", "()I"⟩
abbrev cX8_tiltAtEnd : ByteArray := prog_1_method_11_code
def yX8_tiltAtEnd : MethodName := ⟨RX8, "tiltAtEnd", "()I"⟩
abbrev cX8_isSeen : ByteArray := prog_1_method_12_code
def yX8_isSeen : MethodName := ⟨RX8, "isSeen", "()Z"⟩
abbrev cX8_worstMirror : ByteArray := prog_1_method_13_code
def yX8_worstMirror : MethodName := ⟨RX8, "worstMirror", "()I"⟩
abbrev cX8_clarityOf : ByteArray := prog_1_method_14_code
def yX8_clarityOf : MethodName := ⟨RX8, "clarityOf", "(I)I"⟩
abbrev cX8_bestClarityOf : ByteArray := prog_1_method_15_code
def yX8_bestClarityOf : MethodName := ⟨RX8, "bestClarityOf", "(I)I"⟩
abbrev cX8_offsetOf : ByteArray := prog_1_method_16_code
def yX8_offsetOf : MethodName := ⟨RX8, "offsetOf", "(I)I"⟩
abbrev cX8_placeOf : ByteArray := prog_1_method_17_code
def yX8_placeOf : MethodName := ⟨RX8, "placeOf", "(I)I"⟩
abbrev cX8_lightBehind : ByteArray := prog_1_method_18_code
def yX8_lightBehind : MethodName := ⟨RX8, "lightBehind", "(I)I"⟩
abbrev cX8_lostAt : ByteArray := prog_1_method_19_code
def yX8_lostAt : MethodName := ⟨RX8, "lostAt", "(I)I"⟩
abbrev cX8_tiltBehind : ByteArray := prog_1_method_20_code
def yX8_tiltBehind : MethodName := ⟨RX8, "tiltBehind", "(I)I"⟩
abbrev cX8_isCovered : ByteArray := prog_1_method_21_code
def yX8_isCovered : MethodName := ⟨RX8, "isCovered", "(I)Z"⟩
abbrev cX8_mirrorAt : ByteArray := prog_1_method_22_code
def yX8_mirrorAt : MethodName := ⟨RX8, "mirrorAt", "(I)I"⟩
abbrev cX8_jobs : ByteArray := prog_1_method_23_code
def yX8_jobs : MethodName := ⟨RX8, "jobs", "()I"⟩
abbrev cX8_jobsDone : ByteArray := prog_1_method_24_code
def yX8_jobsDone : MethodName := ⟨RX8, "jobsDone", "()I"⟩
abbrev cX8_kindOfJob : ByteArray := prog_1_method_25_code
def yX8_kindOfJob : MethodName := ⟨RX8, "kindOfJob", "(I)I"⟩
abbrev cX8_mirrorOfJob : ByteArray := prog_1_method_26_code
def yX8_mirrorOfJob : MethodName := ⟨RX8, "mirrorOfJob", "(I)I"⟩
abbrev cX8_minutesToGo : ByteArray := prog_1_method_27_code
def yX8_minutesToGo : MethodName := ⟨RX8, "minutesToGo", "()I"⟩
abbrev cX8_orderJob : ByteArray := prog_1_method_28_code
def yX8_orderJob : MethodName := ⟨RX8, "orderJob", "(II)I"⟩
abbrev cX8_cancelJob : ByteArray := prog_1_method_29_code
def yX8_cancelJob : MethodName := ⟨RX8, "cancelJob", "(I)I"⟩
abbrev cX8_turnMirror : ByteArray := prog_1_method_30_code
def yX8_turnMirror : MethodName := ⟨RX8, "turnMirror", "(II)I"⟩
abbrev cX8_dustMirror : ByteArray := prog_1_method_31_code
def yX8_dustMirror : MethodName := ⟨RX8, "dustMirror", "(II)I"⟩
abbrev cX8_moveMirror : ByteArray := prog_1_method_32_code
def yX8_moveMirror : MethodName := ⟨RX8, "moveMirror", "(II)I"⟩
abbrev cX8_passMinutes : ByteArray := prog_1_method_33_code
def yX8_passMinutes : MethodName := ⟨RX8, "passMinutes", "(I)I"⟩
abbrev cX8_lightAfter : ByteArray := prog_1_method_34_code
def yX8_lightAfter : MethodName := ⟨RX8, "lightAfter", "(I)I"⟩
abbrev cX8_minutesUntilSeen : ByteArray := prog_1_method_35_code
def yX8_minutesUntilSeen : MethodName := ⟨RX8, "minutesUntilSeen", "()I"⟩
abbrev cX8_minutesUntilDone : ByteArray := prog_1_method_36_code
def yX8_minutesUntilDone : MethodName := ⟨RX8, "minutesUntilDone", "(I)I"⟩
abbrev cX8_bestToClean : ByteArray := prog_1_method_37_code
def yX8_bestToClean : MethodName := ⟨RX8, "bestToClean", "()I"⟩
abbrev cX8_bestOffset : ByteArray := prog_1_method_38_code
def yX8_bestOffset : MethodName := ⟨RX8, "bestOffset", "(I)I"⟩
abbrev cX8_meanClarity : ByteArray := prog_1_method_39_code
def yX8_meanClarity : MethodName := ⟨RX8, "meanClarity", "()D"⟩
abbrev cX8_digest : ByteArray := prog_1_method_40_code
def yX8_digest : MethodName := ⟨RX8, "digest", "()J"⟩
abbrev cX8_digestOfMirror : ByteArray := prog_1_method_41_code
def yX8_digestOfMirror : MethodName := ⟨RX8, "digestOfMirror", "(JI)J"⟩
abbrev cX8_lightIfTurned : ByteArray := prog_1_method_42_code
def yX8_lightIfTurned : MethodName := ⟨RX8, "lightIfTurned", "(II)I"⟩
abbrev cX8_checkMirror : ByteArray := prog_1_method_43_code
def yX8_checkMirror : MethodName := ⟨RX8, "checkMirror", "(I)V"⟩
abbrev cX8_checkJob : ByteArray := prog_1_method_44_code
def yX8_checkJob : MethodName := ⟨RX8, "checkJob", "(I)V"⟩
abbrev cX8_checkMinutes : ByteArray := prog_1_method_45_code
def yX8_checkMinutes : MethodName := ⟨RX8, "checkMinutes", "(I)V"⟩
abbrev cX8_isOrder : ByteArray := prog_1_method_46_code
def yX8_isOrder : MethodName := ⟨RX8, "isOrder", "(I)Z"⟩
abbrev cX8_isOrderBySum : ByteArray := prog_1_method_47_code
def yX8_isOrderBySum : MethodName := ⟨RX8, "isOrderBySum", "(I)Z"⟩
abbrev cX8_hold : ByteArray := prog_1_method_48_code
def yX8_hold : MethodName := ⟨RX8, "hold", "(JII)I"⟩
def RX9 : String := "PeriscopeTrainLaw$Dice"
def TX9 : u_T := fun k => match k with
  | _ => ("PeriscopeTrainLaw$Dice", "state", "I", false)
def tyX9 : Nat → FieldType := fun k => match k with
  | _ => .int
theorem nmX9 : ∀ a, a < 1 → ∀ b, b < 1 → a ≠ b → (TX9 a).2.1 ≠ (TX9 b).2.1 := by decide +kernel
theorem tyX9_ok : ∀ k, k < 1 → parseFieldDescriptor (TX9 k).2.2.1 = some (tyX9 k) := by decide +kernel
abbrev cX9_init : ByteArray := prog_11_method_1_code
def yX9_init : MethodName := ⟨RX9, "<init>", "(I)V"⟩
abbrev cX9_next : ByteArray := prog_11_method_2_code
def yX9_next : MethodName := ⟨RX9, "next", "(I)I"⟩
def RX10 : String := "PeriscopeTrainLaw$Node"
def TX10 : u_T := fun k => match k with
  | 0 => ("PeriscopeTrainLaw$Node", "sort", "I", true)
  | 1 => ("PeriscopeTrainLaw$Node", "n", "I", true)
  | 2 => ("PeriscopeTrainLaw$Node", "a", "LPeriscopeTrainLaw$Node;", true)
  | _ => ("PeriscopeTrainLaw$Node", "b", "LPeriscopeTrainLaw$Node;", true)
def tyX10 : Nat → FieldType := fun k => match k with
  | 0 => .int
  | 1 => .int
  | 2 => .object "PeriscopeTrainLaw$Node"
  | _ => .object "PeriscopeTrainLaw$Node"
theorem nmX10 : ∀ a, a < 4 → ∀ b, b < 4 → a ≠ b → (TX10 a).2.1 ≠ (TX10 b).2.1 := by decide +kernel
theorem tyX10_ok : ∀ k, k < 4 → parseFieldDescriptor (TX10 k).2.2.1 = some (tyX10 k) := by decide +kernel
abbrev cX10_init : ByteArray := prog_12_method_1_code
def yX10_init : MethodName := ⟨RX10, "<init>", "(IILPeriscopeTrainLaw$Node;LPeriscopeTrainLaw$Node;)V"⟩
abbrev cX10_sum : ByteArray := prog_12_method_2_code
def yX10_sum : MethodName := ⟨RX10, "sum", "(LPeriscopeTrainLaw$Dice;II)LPeriscopeTrainLaw$Node;"⟩
abbrev cX10_test : ByteArray := prog_12_method_3_code
def yX10_test : MethodName := ⟨RX10, "test", "(LPeriscopeTrainLaw$Dice;II)LPeriscopeTrainLaw$Node;"⟩
abbrev cX10_text : ByteArray := prog_12_method_4_code
def yX10_text : MethodName := ⟨RX10, "text", "()Ljava/lang/String;"⟩
abbrev cX10_value : ByteArray := prog_12_method_5_code
def yX10_value : MethodName := ⟨RX10, "value", "(LPeriscopeTrainLaw$Train;)I"⟩
abbrev cX10_both : ByteArray := prog_12_method_6_code
def yX10_both : MethodName := ⟨RX10, "both", "(III)I"⟩
def RX11 : String := "PeriscopeTrainLaw$Order"
def TX11 : u_T := fun k => match k with
  | 0 => ("PeriscopeTrainLaw$Order", "does", "I", true)
  | 1 => ("PeriscopeTrainLaw$Order", "mirror", "I", true)
  | 2 => ("PeriscopeTrainLaw$Order", "sum", "LPeriscopeTrainLaw$Node;", true)
  | _ => ("PeriscopeTrainLaw$Order", "test", "LPeriscopeTrainLaw$Node;", true)
def tyX11 : Nat → FieldType := fun k => match k with
  | 0 => .int
  | 1 => .int
  | 2 => .object "PeriscopeTrainLaw$Node"
  | _ => .object "PeriscopeTrainLaw$Node"
theorem nmX11 : ∀ a, a < 4 → ∀ b, b < 4 → a ≠ b → (TX11 a).2.1 ≠ (TX11 b).2.1 := by decide +kernel
theorem tyX11_ok : ∀ k, k < 4 → parseFieldDescriptor (TX11 k).2.2.1 = some (tyX11 k) := by decide +kernel
abbrev cX11_init : ByteArray := prog_13_method_1_code
def yX11_init : MethodName := ⟨RX11, "<init>", "(LPeriscopeTrainLaw$Dice;I)V"⟩
abbrev cX11_text : ByteArray := prog_13_method_2_code
def yX11_text : MethodName := ⟨RX11, "text", "()Ljava/lang/String;"⟩
abbrev cX11_held : ByteArray := prog_13_method_3_code
def yX11_held : MethodName := ⟨RX11, "held", "(JII)I"⟩
abbrev cX11_carryOut : ByteArray := prog_13_method_4_code
def yX11_carryOut : MethodName := ⟨RX11, "carryOut", "(LPeriscopeTrainLaw$Train;)V"⟩
def RX12 : String := "PeriscopeTrainLaw$Train"
def TX12 : u_T := fun k => match k with
  | 0 => ("PeriscopeTrainLaw$Train", "width", "I", false)
  | 1 => ("PeriscopeTrainLaw$Train", "limit", "I", false)
  | 2 => ("PeriscopeTrainLaw$Train", "mirrors", "[[I", false)
  | 3 => ("PeriscopeTrainLaw$Train", "row", "[I", false)
  | 4 => ("PeriscopeTrainLaw$Train", "jobs", "[[I", false)
  | 5 => ("PeriscopeTrainLaw$Train", "toGo", "I", false)
  | 6 => ("PeriscopeTrainLaw$Train", "minutes", "I", false)
  | 7 => ("PeriscopeTrainLaw$Train", "done", "I", false)
  | _ => ("PeriscopeTrainLaw$Train", "orders", "[LPeriscopeTrainLaw$Order;", false)
def tyX12 : Nat → FieldType := fun k => match k with
  | 0 => .int
  | 1 => .int
  | 2 => .array (.array .int)
  | 3 => .array .int
  | 4 => .array (.array .int)
  | 5 => .int
  | 6 => .int
  | 7 => .int
  | _ => .array (.object "PeriscopeTrainLaw$Order")
theorem nmX12 : ∀ a, a < 9 → ∀ b, b < 9 → a ≠ b → (TX12 a).2.1 ≠ (TX12 b).2.1 := by decide +kernel
theorem tyX12_ok : ∀ k, k < 9 → parseFieldDescriptor (TX12 k).2.2.1 = some (tyX12 k) := by decide +kernel
abbrev cX12_init : ByteArray := prog_14_method_1_code
def yX12_init : MethodName := ⟨RX12, "<init>", "()V"⟩
abbrev cX12_add : ByteArray := prog_14_method_3_code
def yX12_add : MethodName := ⟨RX12, "add", "(II)V"⟩
abbrev cX12_tilt : ByteArray := prog_14_method_4_code
def yX12_tilt : MethodName := ⟨RX12, "tilt", "(I)I"⟩
abbrev cX12_isCovered : ByteArray := prog_14_method_5_code
def yX12_isCovered : MethodName := ⟨RX12, "isCovered", "(I)Z"⟩
abbrev cX12_light : ByteArray := prog_14_method_6_code
def yX12_light : MethodName := ⟨RX12, "light", "(I)I"⟩
abbrev cX12_end : ByteArray := prog_14_method_7_code
def yX12_end : MethodName := ⟨RX12, "end", "()I"⟩
abbrev cX12_isSeen : ByteArray := prog_14_method_8_code
def yX12_isSeen : MethodName := ⟨RX12, "isSeen", "()Z"⟩
abbrev cX12_place : ByteArray := prog_14_method_9_code
def yX12_place : MethodName := ⟨RX12, "place", "(I)I"⟩
abbrev cX12_waits : ByteArray := prog_14_method_10_code
def yX12_waits : MethodName := ⟨RX12, "waits", "(I)Z"⟩
abbrev cX12_order : ByteArray := prog_14_method_11_code
def yX12_order : MethodName := ⟨RX12, "order", "(II)Z"⟩
abbrev cX12_take : ByteArray := prog_14_method_12_code
def yX12_take : MethodName := ⟨RX12, "take", "(I)[I"⟩
abbrev cX12_move : ByteArray := prog_14_method_13_code
def yX12_move : MethodName := ⟨RX12, "move", "(II)V"⟩
abbrev cX12_pass : ByteArray := prog_14_method_14_code
def yX12_pass : MethodName := ⟨RX12, "pass", "()I"⟩
abbrev cX12_pass_ : ByteArray := prog_14_method_15_code
def yX12_pass_ : MethodName := ⟨RX12, "pass", "(I)I"⟩
abbrev cX12_isSame : ByteArray := prog_14_method_16_code
def yX12_isSame : MethodName := ⟨RX12, "isSame", "(LPeriscopeTrain;)Z"⟩
def RX13 : String := "PeriscopeTrainModel$State"
def TX13 : u_T := fun k => match k with
  | _ => ("", "", "", false)
def tyX13 : Nat → FieldType := fun k => match k with
  | _ => .int
theorem nmX13 : ∀ a, a < 0 → ∀ b, b < 0 → a ≠ b → (TX13 a).2.1 ≠ (TX13 b).2.1 := by decide +kernel
theorem tyX13_ok : ∀ k, k < 0 → parseFieldDescriptor (TX13 k).2.2.1 = some (tyX13 k) := by decide +kernel
def RX14 : String := "PeriscopeTrainModel$Told"
def TX14 : u_T := fun k => match k with
  | _ => ("", "", "", false)
def tyX14 : Nat → FieldType := fun k => match k with
  | _ => .int
theorem nmX14 : ∀ a, a < 0 → ∀ b, b < 0 → a ≠ b → (TX14 a).2.1 ≠ (TX14 b).2.1 := by decide +kernel
theorem tyX14_ok : ∀ k, k < 0 → parseFieldDescriptor (TX14 k).2.2.1 = some (tyX14 k) := by decide +kernel
def RX15 : String := "PeriscopeTrainModel"
def TX15 : u_T := fun k => match k with
  | _ => ("", "", "", false)
def tyX15 : Nat → FieldType := fun k => match k with
  | _ => .int
theorem nmX15 : ∀ a, a < 0 → ∀ b, b < 0 → a ≠ b → (TX15 a).2.1 ≠ (TX15 b).2.1 := by decide +kernel
theorem tyX15_ok : ∀ k, k < 0 → parseFieldDescriptor (TX15 k).2.2.1 = some (tyX15 k) := by decide +kernel
def RJ5 : String := "java/lang/AbstractStringBuilder"
def TJ5 : u_T := fun k => match k with
  | _ => ("", "", "", false)
def tyJ5 : Nat → FieldType := fun k => match k with
  | _ => .int
theorem nmJ5 : ∀ a, a < 0 → ∀ b, b < 0 → a ≠ b → (TJ5 a).2.1 ≠ (TJ5 b).2.1 := by decide +kernel
theorem tyJ5_ok : ∀ k, k < 0 → parseFieldDescriptor (TJ5 k).2.2.1 = some (tyJ5 k) := by decide +kernel
abbrev cJ5_init_d00df : ByteArray := prog_18_method_2_code
def yJ5_init_d00df : MethodName := ⟨RJ5, "<init>", "(I)V"⟩
abbrev cJ5_length_8abf5 : ByteArray := prog_18_method_6_code
def yJ5_length_8abf5 : MethodName := ⟨RJ5, "length", "()I"⟩
abbrev cJ5_ensureCapacityInternal_d00df : ByteArray := prog_18_method_9_code
def yJ5_ensureCapacityInternal_d00df : MethodName := ⟨RJ5, "ensureCapacityInternal", "(I)V"⟩
abbrev cJ5_newCapacity_0f7a4 : ByteArray := prog_18_method_10_code
def yJ5_newCapacity_0f7a4 : MethodName := ⟨RJ5, "newCapacity", "(I)I"⟩
abbrev cJ5_inflate_da8c8 : ByteArray := prog_18_method_11_code
def yJ5_inflate_da8c8 : MethodName := ⟨RJ5, "inflate", "()V"⟩
abbrev cJ5_append_cf1ce : ByteArray := prog_18_method_22_code
def yJ5_append_cf1ce : MethodName := ⟨RJ5, "append", "(Ljava/lang/String;)Ljava/lang/AbstractStringBuilder;"⟩
abbrev cJ5_appendNull_278bc : ByteArray := prog_18_method_26_code
def yJ5_appendNull_278bc : MethodName := ⟨RJ5, "appendNull", "()Ljava/lang/AbstractStringBuilder;"⟩
abbrev cJ5_append_c97b9 : ByteArray := prog_18_method_32_code
def yJ5_append_c97b9 : MethodName := ⟨RJ5, "append", "(I)Ljava/lang/AbstractStringBuilder;"⟩
abbrev cJ5_getValue_6d5f1 : ByteArray := prog_18_method_64_code
def yJ5_getValue_6d5f1 : MethodName := ⟨RJ5, "getValue", "()[B"⟩
abbrev cJ5_isLatin1_aae02 : ByteArray := prog_18_method_68_code
def yJ5_isLatin1_aae02 : MethodName := ⟨RJ5, "isLatin1", "()Z"⟩
abbrev cJ5_inflateIfNeededFor_a7421 : ByteArray := prog_18_method_71_code
def yJ5_inflateIfNeededFor_a7421 : MethodName := ⟨RJ5, "inflateIfNeededFor", "(Ljava/lang/String;)V"⟩
abbrev cJ5_putStringAt_47b60 : ByteArray := prog_18_method_73_code
def yJ5_putStringAt_47b60 : MethodName := ⟨RJ5, "putStringAt", "(ILjava/lang/String;)V"⟩
def RJ11 : String := "java/lang/Character"
def TJ11 : u_T := fun k => match k with
  | _ => ("", "", "", false)
def tyJ11 : Nat → FieldType := fun k => match k with
  | _ => .int
theorem nmJ11 : ∀ a, a < 0 → ∀ b, b < 0 → a ≠ b → (TJ11 a).2.1 ≠ (TJ11 b).2.1 := by decide +kernel
theorem tyJ11_ok : ∀ k, k < 0 → parseFieldDescriptor (TJ11 k).2.2.1 = some (tyJ11 k) := by decide +kernel
abbrev cJ11_isValidCodePoint_9a6ad : ByteArray := prog_19_method_11_code
def yJ11_isValidCodePoint_9a6ad : MethodName := ⟨RJ11, "isValidCodePoint", "(I)Z"⟩
abbrev cJ11_highSurrogate_5068e : ByteArray := prog_19_method_28_code
def yJ11_highSurrogate_5068e : MethodName := ⟨RJ11, "highSurrogate", "(I)C"⟩
abbrev cJ11_lowSurrogate_5068e : ByteArray := prog_19_method_29_code
def yJ11_lowSurrogate_5068e : MethodName := ⟨RJ11, "lowSurrogate", "(I)C"⟩
def RJx8e188 : String := "java/lang/Cloneable"
def RJ6 : String := "java/lang/Integer"
def TJ6 : u_T := fun k => match k with
  | _ => ("", "", "", false)
def tyJ6 : Nat → FieldType := fun k => match k with
  | _ => .int
theorem nmJ6 : ∀ a, a < 0 → ∀ b, b < 0 → a ≠ b → (TJ6 a).2.1 ≠ (TJ6 b).2.1 := by decide +kernel
theorem tyJ6_ok : ∀ k, k < 0 → parseFieldDescriptor (TJ6 k).2.2.1 = some (tyJ6 k) := by decide +kernel
abbrev cJ6_getChars_ba4f3 : ByteArray := prog_25_method_12_code
def yJ6_getChars_ba4f3 : MethodName := ⟨RJ6, "getChars", "(II[B)I"⟩
abbrev cJ6_stringSize_0f7a4 : ByteArray := prog_25_method_13_code
def yJ6_stringSize_0f7a4 : MethodName := ⟨RJ6, "stringSize", "(I)I"⟩
def RJ9 : String := "java/lang/Math"
def TJ9 : u_T := fun k => match k with
  | _ => ("", "", "", false)
def tyJ9 : Nat → FieldType := fun k => match k with
  | _ => .int
theorem nmJ9 : ∀ a, a < 0 → ∀ b, b < 0 → a ≠ b → (TJ9 a).2.1 ≠ (TJ9 b).2.1 := by decide +kernel
theorem tyJ9_ok : ∀ k, k < 0 → parseFieldDescriptor (TJ9 k).2.2.1 = some (tyJ9 k) := by decide +kernel
abbrev cJ9_abs_0f7a4 : ByteArray := prog_26_method_59_code
def yJ9_abs_0f7a4 : MethodName := ⟨RJ9, "abs", "(I)I"⟩
abbrev cJ9_max_7cf53 : ByteArray := prog_26_method_65_code
def yJ9_max_7cf53 : MethodName := ⟨RJ9, "max", "(II)I"⟩
abbrev cJ9_max_f86c9 : ByteArray := prog_26_method_66_code
def yJ9_max_f86c9 : MethodName := ⟨RJ9, "max", "(JJ)J"⟩
abbrev cJ9_min_7cf53 : ByteArray := prog_26_method_69_code
def yJ9_min_7cf53 : MethodName := ⟨RJ9, "min", "(II)I"⟩
abbrev cJ9_min_f86c9 : ByteArray := prog_26_method_70_code
def yJ9_min_f86c9 : MethodName := ⟨RJ9, "min", "(JJ)J"⟩
def RJ0 : String := "java/lang/String"
def TJ0 : u_T := fun k => match k with
  | 0 => ("java/lang/String", "value", "[B", true)
  | 1 => ("java/lang/String", "coder", "B", true)
  | 2 => ("java/lang/String", "hash", "I", false)
  | _ => ("java/lang/String", "hashIsZero", "Z", false)
def tyJ0 : Nat → FieldType := fun k => match k with
  | 0 => .array .byte
  | 1 => .byte
  | 2 => .int
  | _ => .boolean
theorem nmJ0 : ∀ a, a < 4 → ∀ b, b < 4 → a ≠ b → (TJ0 a).2.1 ≠ (TJ0 b).2.1 := by decide +kernel
theorem tyJ0_ok : ∀ k, k < 4 → parseFieldDescriptor (TJ0 k).2.2.1 = some (tyJ0 k) := by decide +kernel
abbrev cJ0_init_81219 : ByteArray := prog_28_method_53_code
def yJ0_init_81219 : MethodName := ⟨RJ0, "<init>", "(Ljava/lang/StringBuilder;)V"⟩
abbrev cJ0_length_8abf5 : ByteArray := prog_28_method_54_code
def yJ0_length_8abf5 : MethodName := ⟨RJ0, "length", "()I"⟩
abbrev cJ0_charAt_5068e : ByteArray := prog_28_method_56_code
def yJ0_charAt_5068e : MethodName := ⟨RJ0, "charAt", "(I)C"⟩
abbrev cJ0_indexOf_0f7a4 : ByteArray := prog_28_method_79_code
def yJ0_indexOf_0f7a4 : MethodName := ⟨RJ0, "indexOf", "(I)I"⟩
abbrev cJ0_indexOf_7cf53 : ByteArray := prog_28_method_80_code
def yJ0_indexOf_7cf53 : MethodName := ⟨RJ0, "indexOf", "(II)I"⟩
abbrev cJ0_getBytes_840e7 : ByteArray := prog_28_method_147_code
def yJ0_getBytes_840e7 : MethodName := ⟨RJ0, "getBytes", "([BIB)V"⟩
abbrev cJ0_init_db425 : ByteArray := prog_28_method_150_code
def yJ0_init_db425 : MethodName := ⟨RJ0, "<init>", "(Ljava/lang/AbstractStringBuilder;Ljava/lang/Void;)V"⟩
abbrev cJ0_coder_7d493 : ByteArray := prog_28_method_152_code
def yJ0_coder_7d493 : MethodName := ⟨RJ0, "coder", "()B"⟩
abbrev cJ0_isLatin1_aae02 : ByteArray := prog_28_method_154_code
def yJ0_isLatin1_aae02 : MethodName := ⟨RJ0, "isLatin1", "()Z"⟩
abbrev cJ0_checkIndex_df160 : ByteArray := prog_28_method_155_code
def yJ0_checkIndex_df160 : MethodName := ⟨RJ0, "checkIndex", "(II)V"⟩
abbrev cJ0_checkBoundsOffCount_cabcc : ByteArray := prog_28_method_157_code
def yJ0_checkBoundsOffCount_cabcc : MethodName := ⟨RJ0, "checkBoundsOffCount", "(III)I"⟩
abbrev cJ0_checkBoundsBeginEnd_23922 : ByteArray := prog_28_method_158_code
def yJ0_checkBoundsBeginEnd_23922 : MethodName := ⟨RJ0, "checkBoundsBeginEnd", "(III)V"⟩
def RJ4 : String := "java/lang/StringBuilder"
def TJ4 : u_T := fun k => match k with
  | 0 => ("java/lang/AbstractStringBuilder", "value", "[B", false)
  | 1 => ("java/lang/AbstractStringBuilder", "coder", "B", false)
  | 2 => ("java/lang/AbstractStringBuilder", "maybeLatin1", "Z", false)
  | _ => ("java/lang/AbstractStringBuilder", "count", "I", false)
def tyJ4 : Nat → FieldType := fun k => match k with
  | 0 => .array .byte
  | 1 => .byte
  | 2 => .boolean
  | _ => .int
theorem nmJ4 : ∀ a, a < 4 → ∀ b, b < 4 → a ≠ b → (TJ4 a).2.1 ≠ (TJ4 b).2.1 := by decide +kernel
theorem tyJ4_ok : ∀ k, k < 4 → parseFieldDescriptor (TJ4 k).2.2.1 = some (tyJ4 k) := by decide +kernel
abbrev cJ4_init_da8c8 : ByteArray := prog_29_method_1_code
def yJ4_init_da8c8 : MethodName := ⟨RJ4, "<init>", "()V"⟩
abbrev cJ4_append_15ec4 : ByteArray := prog_29_method_7_code
def yJ4_append_15ec4 : MethodName := ⟨RJ4, "append", "(Ljava/lang/String;)Ljava/lang/StringBuilder;"⟩
abbrev cJ4_append_bf812 : ByteArray := prog_29_method_15_code
def yJ4_append_bf812 : MethodName := ⟨RJ4, "append", "(I)Ljava/lang/StringBuilder;"⟩
abbrev cJ4_toString_0e30d : ByteArray := prog_29_method_42_code
def yJ4_toString_0e30d : MethodName := ⟨RJ4, "toString", "()Ljava/lang/String;"⟩
abbrev cJ4_length_8abf5 : ByteArray := prog_29_method_93_code
def yJ4_length_8abf5 : MethodName := ⟨RJ4, "length", "()I"⟩
def RJ1 : String := "java/lang/StringLatin1"
def TJ1 : u_T := fun k => match k with
  | _ => ("", "", "", false)
def tyJ1 : Nat → FieldType := fun k => match k with
  | _ => .int
theorem nmJ1 : ∀ a, a < 0 → ∀ b, b < 0 → a ≠ b → (TJ1 a).2.1 ≠ (TJ1 b).2.1 := by decide +kernel
theorem tyJ1_ok : ∀ k, k < 0 → parseFieldDescriptor (TJ1 k).2.2.1 = some (tyJ1 k) := by decide +kernel
abbrev cJ1_charAt_3b067 : ByteArray := prog_30_method_2_code
def yJ1_charAt_3b067 : MethodName := ⟨RJ1, "charAt", "([BI)C"⟩
abbrev cJ1_canEncode_9a6ad : ByteArray := prog_30_method_4_code
def yJ1_canEncode_9a6ad : MethodName := ⟨RJ1, "canEncode", "(I)Z"⟩
abbrev cJ1_indexOf_4cfef : ByteArray := prog_30_method_22_code
def yJ1_indexOf_4cfef : MethodName := ⟨RJ1, "indexOf", "([BIII)I"⟩
abbrev cJ1_indexOfChar_4cfef : ByteArray := prog_30_method_23_code
def yJ1_indexOfChar_4cfef : MethodName := ⟨RJ1, "indexOfChar", "([BIII)I"⟩
abbrev cJ1_inflate_0e8fd : ByteArray := prog_30_method_50_code
def yJ1_inflate_0e8fd : MethodName := ⟨RJ1, "inflate", "([BI[BII)V"⟩
def RJ2 : String := "java/lang/StringUTF16"
def TJ2 : u_T := fun k => match k with
  | _ => ("", "", "", false)
def tyJ2 : Nat → FieldType := fun k => match k with
  | _ => .int
theorem nmJ2 : ∀ a, a < 0 → ∀ b, b < 0 → a ≠ b → (TJ2 a).2.1 ≠ (TJ2 b).2.1 := by decide +kernel
theorem tyJ2_ok : ∀ k, k < 0 → parseFieldDescriptor (TJ2 k).2.2.1 = some (tyJ2 k) := by decide +kernel
abbrev cJ2_newBytesFor_77867 : ByteArray := prog_31_method_2_code
def yJ2_newBytesFor_77867 : MethodName := ⟨RJ2, "newBytesFor", "(I)[B"⟩
abbrev cJ2_newBytesLength_0f7a4 : ByteArray := prog_31_method_3_code
def yJ2_newBytesLength_0f7a4 : MethodName := ⟨RJ2, "newBytesLength", "(I)I"⟩
abbrev cJ2_putChar_b72d1 : ByteArray := prog_31_method_4_code
def yJ2_putChar_b72d1 : MethodName := ⟨RJ2, "putChar", "([BII)V"⟩
abbrev cJ2_getChar_3b067 : ByteArray := prog_31_method_5_code
def yJ2_getChar_3b067 : MethodName := ⟨RJ2, "getChar", "([BI)C"⟩
abbrev cJ2_length_9d52b : ByteArray := prog_31_method_6_code
def yJ2_length_9d52b : MethodName := ⟨RJ2, "length", "([B)I"⟩
abbrev cJ2_coderFromArrayLen_85cad : ByteArray := prog_31_method_15_code
def yJ2_coderFromArrayLen_85cad : MethodName := ⟨RJ2, "coderFromArrayLen", "([BI)B"⟩
abbrev cJ2_compress_39247 : ByteArray := prog_31_method_17_code
def yJ2_compress_39247 : MethodName := ⟨RJ2, "compress", "([BII)[B"⟩
abbrev cJ2_compress_5af95 : ByteArray := prog_31_method_22_code
def yJ2_compress_5af95 : MethodName := ⟨RJ2, "compress", "([BI[BII)I"⟩
abbrev cJ2_indexOf_4cfef : ByteArray := prog_31_method_40_code
def yJ2_indexOf_4cfef : MethodName := ⟨RJ2, "indexOf", "([BIII)I"⟩
abbrev cJ2_indexOfChar_4cfef : ByteArray := prog_31_method_47_code
def yJ2_indexOfChar_4cfef : MethodName := ⟨RJ2, "indexOfChar", "([BIII)I"⟩
abbrev cJ2_indexOfCharUnsafe_4cfef : ByteArray := prog_31_method_48_code
def yJ2_indexOfCharUnsafe_4cfef : MethodName := ⟨RJ2, "indexOfCharUnsafe", "([BIII)I"⟩
abbrev cJ2_indexOfSupplementary_4cfef : ByteArray := prog_31_method_49_code
def yJ2_indexOfSupplementary_4cfef : MethodName := ⟨RJ2, "indexOfSupplementary", "([BIII)I"⟩
abbrev cJ2_getChars_46870 : ByteArray := prog_31_method_77_code
def yJ2_getChars_46870 : MethodName := ⟨RJ2, "getChars", "(III[B)I"⟩
abbrev cJ2_putCharsAt_cd4e5 : ByteArray := prog_31_method_81_code
def yJ2_putCharsAt_cd4e5 : MethodName := ⟨RJ2, "putCharsAt", "([BICCCC)I"⟩
abbrev cJ2_charAt_3b067 : ByteArray := prog_31_method_83_code
def yJ2_charAt_3b067 : MethodName := ⟨RJ2, "charAt", "([BI)C"⟩
abbrev cJ2_inflate_0e8fd : ByteArray := prog_31_method_86_code
def yJ2_inflate_0e8fd : MethodName := ⟨RJ2, "inflate", "([BI[BII)V"⟩
abbrev cJ2_getChars_ba4f3 : ByteArray := prog_31_method_89_code
def yJ2_getChars_ba4f3 : MethodName := ⟨RJ2, "getChars", "(II[B)I"⟩
abbrev cJ2_checkIndex_2214a : ByteArray := prog_31_method_91_code
def yJ2_checkIndex_2214a : MethodName := ⟨RJ2, "checkIndex", "(I[B)V"⟩
abbrev cJ2_checkBoundsBeginEnd_d044e : ByteArray := prog_31_method_93_code
def yJ2_checkBoundsBeginEnd_d044e : MethodName := ⟨RJ2, "checkBoundsBeginEnd", "(II[B)V"⟩
abbrev cJ2_checkBoundsOffCount_d044e : ByteArray := prog_31_method_94_code
def yJ2_checkBoundsOffCount_d044e : MethodName := ⟨RJ2, "checkBoundsOffCount", "(II[B)V"⟩
def RJ10 : String := "java/lang/System"
def TJ10 : u_T := fun k => match k with
  | _ => ("", "", "", false)
def tyJ10 : Nat → FieldType := fun k => match k with
  | _ => .int
theorem nmJ10 : ∀ a, a < 0 → ∀ b, b < 0 → a ≠ b → (TJ10 a).2.1 ≠ (TJ10 b).2.1 := by decide +kernel
theorem tyJ10_ok : ∀ k, k < 0 → parseFieldDescriptor (TJ10 k).2.2.1 = some (tyJ10 k) := by decide +kernel
def RJ7 : String := "java/util/Arrays"
def TJ7 : u_T := fun k => match k with
  | _ => ("", "", "", false)
def tyJ7 : Nat → FieldType := fun k => match k with
  | _ => .int
theorem nmJ7 : ∀ a, a < 0 → ∀ b, b < 0 → a ≠ b → (TJ7 a).2.1 ≠ (TJ7 b).2.1 := by decide +kernel
theorem tyJ7_ok : ∀ k, k < 0 → parseFieldDescriptor (TJ7 k).2.2.1 = some (tyJ7 k) := by decide +kernel
abbrev cJ7_copyOf_9075b : ByteArray := prog_34_method_121_code
def yJ7_copyOf_9075b : MethodName := ⟨RJ7, "copyOf", "([BI)[B"⟩
abbrev cJ7_checkLength_df160 : ByteArray := prog_34_method_131_code
def yJ7_checkLength_df160 : MethodName := ⟨RJ7, "checkLength", "(II)V"⟩
abbrev cJ7_copyOfRange_39247 : ByteArray := prog_34_method_132_code
def yJ7_copyOfRange_39247 : MethodName := ⟨RJ7, "copyOfRange", "([BII)[B"⟩
abbrev cJ7_copyOfRangeByte_39247 : ByteArray := prog_34_method_133_code
def yJ7_copyOfRangeByte_39247 : MethodName := ⟨RJ7, "copyOfRangeByte", "([BII)[B"⟩
def RJ8 : String := "jdk/internal/util/ArraysSupport"
def TJ8 : u_T := fun k => match k with
  | _ => ("", "", "", false)
def tyJ8 : Nat → FieldType := fun k => match k with
  | _ => .int
theorem nmJ8 : ∀ a, a < 0 → ∀ b, b < 0 → a ≠ b → (TJ8 a).2.1 ≠ (TJ8 b).2.1 := by decide +kernel
theorem tyJ8_ok : ∀ k, k < 0 → parseFieldDescriptor (TJ8 k).2.2.1 = some (tyJ8 k) := by decide +kernel
abbrev cJ8_newLength_cabcc : ByteArray := prog_35_method_27_code
def yJ8_newLength_cabcc : MethodName := ⟨RJ8, "newLength", "(III)I"⟩
abbrev cJ8_hugeLength_7cf53 : ByteArray := prog_35_method_28_code
def yJ8_hugeLength_7cf53 : MethodName := ⟨RJ8, "hugeLength", "(II)I"⟩
def RJ3 : String := "jdk/internal/util/Preconditions"
def TJ3 : u_T := fun k => match k with
  | _ => ("", "", "", false)
def tyJ3 : Nat → FieldType := fun k => match k with
  | _ => .int
theorem nmJ3 : ∀ a, a < 0 → ∀ b, b < 0 → a ≠ b → (TJ3 a).2.1 ≠ (TJ3 b).2.1 := by decide +kernel
theorem tyJ3_ok : ∀ k, k < 0 → parseFieldDescriptor (TJ3 k).2.2.1 = some (tyJ3 k) := by decide +kernel
abbrev cJ3_checkIndex_8e157 : ByteArray := prog_36_method_11_code
def yJ3_checkIndex_8e157 : MethodName := ⟨RJ3, "checkIndex", "(IILjava/util/function/BiFunction;)I"⟩
abbrev cJ3_checkFromToIndex_8c36e : ByteArray := prog_36_method_12_code
def yJ3_checkFromToIndex_8c36e : MethodName := ⟨RJ3, "checkFromToIndex", "(IIILjava/util/function/BiFunction;)I"⟩
abbrev cJ3_checkFromIndexSize_8c36e : ByteArray := prog_36_method_13_code
def yJ3_checkFromIndexSize_8c36e : MethodName := ⟨RJ3, "checkFromIndexSize", "(IIILjava/util/function/BiFunction;)I"⟩
def RL : String := "PeriscopeTrainLaw"
abbrev cL_below : ByteArray := method_2_code
def yL_below : MethodName := ⟨RL, "below", "(II)I"⟩
abbrev cL_cell : ByteArray := method_3_code
def yL_cell : MethodName := ⟨RL, "cell", "([II)I"⟩
abbrev cL_taught : ByteArray := method_4_code
def yL_taught : MethodName := ⟨RL, "taught", "(LPeriscopeTrain;Ljava/lang/String;)I"⟩
abbrev cL_drawn : ByteArray := method_5_code
def yL_drawn : MethodName := ⟨RL, "drawn", "(LPeriscopeTrainLaw$Dice;Ljava/lang/StringBuilder;II)LPeriscopeTrainLaw$Train;"⟩
abbrev cL_act : ByteArray := method_6_code
def yL_act : MethodName := ⟨RL, "act", "(LPeriscopeTrain;LPeriscopeTrainLaw$Train;LPeriscopeTrainLaw$Dice;)Z"⟩
abbrev cL_law : ByteArray := code
def yL_law : MethodName := ⟨RL, "law", "([I)Z"⟩
abbrev vwCl : List vw_C := [(RJ0, TJ0, 4), (RJ4, TJ4, 4), (RX0, TX0, 3), (RX1, TX1, 5), (RX2, TX2, 9), (RX3, TX3, 5), (RX4, TX4, 14), (RX5, TX5, 2), (RX6, TX6, 6), (RX7, TX7, 6), (RX8, TX8, 9), (RX9, TX9, 1), (RX10, TX10, 4), (RX11, TX11, 4), (RX12, TX12, 9)]
