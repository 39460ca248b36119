section
-- ===== PART A: goes FIRST, ahead of the names: the tables' words, and 'selects' of the private methods out of them =====
/-- a private method of a class that the tables say can be made, by its rows of tables_1 -/
def lw_okq (q : MethodName × Nat) : Prop := (q.1.cls ≠ "java/lang/invoke/MethodHandle" ∧ q.1.cls ≠ "java/lang/invoke/VarHandle") ∧ Cond.instantiable q.1.cls q.2 ∈ tables_1 ∧ Cond.privateMethod q.1 ∈ tables_1 ∧ Cond.instanceMethod q.1 ∈ tables_1
theorem lw_p0 : lw_okq (⟨"PeriscopeTrain$Tokens", "readToken", "(I)I"⟩, 6) := ⟨⟨by decide +kernel, by decide +kernel⟩, List.mem_of_getElem? (i := 51) (by decide +kernel), List.mem_of_getElem? (i := 318) (by decide +kernel), List.mem_of_getElem? (i := 319) (by decide +kernel)⟩
theorem lw_p1 : lw_okq (⟨"PeriscopeTrain$Tokens", "readWord", "(I)I"⟩, 6) := ⟨⟨by decide +kernel, by decide +kernel⟩, List.mem_of_getElem? (i := 51) (by decide +kernel), List.mem_of_getElem? (i := 326) (by decide +kernel), List.mem_of_getElem? (i := 327) (by decide +kernel)⟩
theorem lw_p2 : lw_okq (⟨"PeriscopeTrain$Tokens", "add", "(III)V"⟩, 6) := ⟨⟨by decide +kernel, by decide +kernel⟩, List.mem_of_getElem? (i := 51) (by decide +kernel), List.mem_of_getElem? (i := 420) (by decide +kernel), List.mem_of_getElem? (i := 421) (by decide +kernel)⟩
theorem lw_p3 : lw_okq (⟨"PeriscopeTrain$Tokens", "readNumber", "(I)I"⟩, 6) := ⟨⟨by decide +kernel, by decide +kernel⟩, List.mem_of_getElem? (i := 51) (by decide +kernel), List.mem_of_getElem? (i := 425) (by decide +kernel), List.mem_of_getElem? (i := 426) (by decide +kernel)⟩
theorem lw_p4 : lw_okq (⟨"PeriscopeTrain$Tokens", "readSymbol", "(II)I"⟩, 6) := ⟨⟨by decide +kernel, by decide +kernel⟩, List.mem_of_getElem? (i := 51) (by decide +kernel), List.mem_of_getElem? (i := 437) (by decide +kernel), List.mem_of_getElem? (i := 438) (by decide +kernel)⟩
theorem lw_p5 : lw_okq (⟨"PeriscopeTrain$Grammar", "isNext", "(I)Z"⟩, 3) := ⟨⟨by decide +kernel, by decide +kernel⟩, List.mem_of_getElem? (i := 125) (by decide +kernel), List.mem_of_getElem? (i := 509) (by decide +kernel), List.mem_of_getElem? (i := 510) (by decide +kernel)⟩
theorem lw_p6 : lw_okq (⟨"PeriscopeTrain$Grammar", "line", "()Z"⟩, 3) := ⟨⟨by decide +kernel, by decide +kernel⟩, List.mem_of_getElem? (i := 125) (by decide +kernel), List.mem_of_getElem? (i := 517) (by decide +kernel), List.mem_of_getElem? (i := 518) (by decide +kernel)⟩
theorem lw_p7 : lw_okq (⟨"PeriscopeTrain$Grammar", "take", "(I)Z"⟩, 3) := ⟨⟨by decide +kernel, by decide +kernel⟩, List.mem_of_getElem? (i := 125) (by decide +kernel), List.mem_of_getElem? (i := 521) (by decide +kernel), List.mem_of_getElem? (i := 522) (by decide +kernel)⟩
theorem lw_p8 : lw_okq (⟨"PeriscopeTrain$Grammar", "mirror", "()Z"⟩, 3) := ⟨⟨by decide +kernel, by decide +kernel⟩, List.mem_of_getElem? (i := 125) (by decide +kernel), List.mem_of_getElem? (i := 525) (by decide +kernel), List.mem_of_getElem? (i := 526) (by decide +kernel)⟩
theorem lw_p9 : lw_okq (⟨"PeriscopeTrain$Grammar", "order", "(I)Z"⟩, 3) := ⟨⟨by decide +kernel, by decide +kernel⟩, List.mem_of_getElem? (i := 125) (by decide +kernel), List.mem_of_getElem? (i := 529) (by decide +kernel), List.mem_of_getElem? (i := 530) (by decide +kernel)⟩
theorem lw_p10 : lw_okq (⟨"PeriscopeTrain$Grammar", "sum", "(I)Z"⟩, 3) := ⟨⟨by decide +kernel, by decide +kernel⟩, List.mem_of_getElem? (i := 125) (by decide +kernel), List.mem_of_getElem? (i := 539) (by decide +kernel), List.mem_of_getElem? (i := 540) (by decide +kernel)⟩
theorem lw_p11 : lw_okq (⟨"PeriscopeTrain$Grammar", "product", "(I)Z"⟩, 3) := ⟨⟨by decide +kernel, by decide +kernel⟩, List.mem_of_getElem? (i := 125) (by decide +kernel), List.mem_of_getElem? (i := 543) (by decide +kernel), List.mem_of_getElem? (i := 544) (by decide +kernel)⟩
theorem lw_p12 : lw_okq (⟨"PeriscopeTrain$Grammar", "value", "(I)Z"⟩, 3) := ⟨⟨by decide +kernel, by decide +kernel⟩, List.mem_of_getElem? (i := 125) (by decide +kernel), List.mem_of_getElem? (i := 547) (by decide +kernel), List.mem_of_getElem? (i := 548) (by decide +kernel)⟩
theorem lw_p13 : lw_okq (⟨"PeriscopeTrain$Grammar", "pair", "(II)Z"⟩, 3) := ⟨⟨by decide +kernel, by decide +kernel⟩, List.mem_of_getElem? (i := 125) (by decide +kernel), List.mem_of_getElem? (i := 555) (by decide +kernel), List.mem_of_getElem? (i := 556) (by decide +kernel)⟩
theorem lw_p14 : lw_okq (⟨"PeriscopeTrain$Grammar", "test", "(I)Z"⟩, 3) := ⟨⟨by decide +kernel, by decide +kernel⟩, List.mem_of_getElem? (i := 125) (by decide +kernel), List.mem_of_getElem? (i := 559) (by decide +kernel), List.mem_of_getElem? (i := 560) (by decide +kernel)⟩
theorem lw_p15 : lw_okq (⟨"PeriscopeTrain$Grammar", "both", "(I)Z"⟩, 3) := ⟨⟨by decide +kernel, by decide +kernel⟩, List.mem_of_getElem? (i := 125) (by decide +kernel), List.mem_of_getElem? (i := 563) (by decide +kernel), List.mem_of_getElem? (i := 564) (by decide +kernel)⟩
def lw_privs_1 : List (MethodName × Nat) := [(⟨"PeriscopeTrain$Tokens", "readToken", "(I)I"⟩, 6), (⟨"PeriscopeTrain$Tokens", "readWord", "(I)I"⟩, 6), (⟨"PeriscopeTrain$Tokens", "add", "(III)V"⟩, 6), (⟨"PeriscopeTrain$Tokens", "readNumber", "(I)I"⟩, 6), (⟨"PeriscopeTrain$Tokens", "readSymbol", "(II)I"⟩, 6), (⟨"PeriscopeTrain$Grammar", "isNext", "(I)Z"⟩, 3), (⟨"PeriscopeTrain$Grammar", "line", "()Z"⟩, 3), (⟨"PeriscopeTrain$Grammar", "take", "(I)Z"⟩, 3), (⟨"PeriscopeTrain$Grammar", "mirror", "()Z"⟩, 3), (⟨"PeriscopeTrain$Grammar", "order", "(I)Z"⟩, 3), (⟨"PeriscopeTrain$Grammar", "sum", "(I)Z"⟩, 3), (⟨"PeriscopeTrain$Grammar", "product", "(I)Z"⟩, 3), (⟨"PeriscopeTrain$Grammar", "value", "(I)Z"⟩, 3), (⟨"PeriscopeTrain$Grammar", "pair", "(II)Z"⟩, 3), (⟨"PeriscopeTrain$Grammar", "test", "(I)Z"⟩, 3), (⟨"PeriscopeTrain$Grammar", "both", "(I)Z"⟩, 3)]
theorem lw_r1 : ∀ q ∈ lw_privs_1, lw_okq q := List.forall_mem_cons.mpr ⟨lw_p0, List.forall_mem_cons.mpr ⟨lw_p1, List.forall_mem_cons.mpr ⟨lw_p2, List.forall_mem_cons.mpr ⟨lw_p3, List.forall_mem_cons.mpr ⟨lw_p4, List.forall_mem_cons.mpr ⟨lw_p5, List.forall_mem_cons.mpr ⟨lw_p6, List.forall_mem_cons.mpr ⟨lw_p7, List.forall_mem_cons.mpr ⟨lw_p8, List.forall_mem_cons.mpr ⟨lw_p9, List.forall_mem_cons.mpr ⟨lw_p10, List.forall_mem_cons.mpr ⟨lw_p11, List.forall_mem_cons.mpr ⟨lw_p12, List.forall_mem_cons.mpr ⟨lw_p13, List.forall_mem_cons.mpr ⟨lw_p14, List.forall_mem_cons.mpr ⟨lw_p15, fun _ h => absurd h List.not_mem_nil⟩⟩⟩⟩⟩⟩⟩⟩⟩⟩⟩⟩⟩⟩⟩⟩
theorem lw_p16 : lw_okq (⟨"PeriscopeTrain$Grammar", "single", "(I)Z"⟩, 3) := ⟨⟨by decide +kernel, by decide +kernel⟩, List.mem_of_getElem? (i := 125) (by decide +kernel), List.mem_of_getElem? (i := 567) (by decide +kernel), List.mem_of_getElem? (i := 568) (by decide +kernel)⟩
theorem lw_p17 : lw_okq (⟨"PeriscopeTrain$Meaning", "errorOf", "(I)I"⟩, 5) := ⟨⟨by decide +kernel, by decide +kernel⟩, List.mem_of_getElem? (i := 141) (by decide +kernel), List.mem_of_getElem? (i := 575) (by decide +kernel), List.mem_of_getElem? (i := 576) (by decide +kernel)⟩
theorem lw_p18 : lw_okq (⟨"PeriscopeTrain$Meaning", "errorOfNewName", "(I)I"⟩, 5) := ⟨⟨by decide +kernel, by decide +kernel⟩, List.mem_of_getElem? (i := 141) (by decide +kernel), List.mem_of_getElem? (i := 580) (by decide +kernel), List.mem_of_getElem? (i := 581) (by decide +kernel)⟩
theorem lw_p19 : lw_okq (⟨"PeriscopeTrain$Meaning", "mirrorNamed", "(I)I"⟩, 5) := ⟨⟨by decide +kernel, by decide +kernel⟩, List.mem_of_getElem? (i := 141) (by decide +kernel), List.mem_of_getElem? (i := 584) (by decide +kernel), List.mem_of_getElem? (i := 585) (by decide +kernel)⟩
theorem lw_p20 : lw_okq (⟨"PeriscopeTrain$Meaning", "errorOfName", "(I)I"⟩, 5) := ⟨⟨by decide +kernel, by decide +kernel⟩, List.mem_of_getElem? (i := 141) (by decide +kernel), List.mem_of_getElem? (i := 596) (by decide +kernel), List.mem_of_getElem? (i := 597) (by decide +kernel)⟩
theorem lw_p21 : lw_okq (⟨"PeriscopeTrain$Meaning", "errorOfNumber", "(I)I"⟩, 5) := ⟨⟨by decide +kernel, by decide +kernel⟩, List.mem_of_getElem? (i := 141) (by decide +kernel), List.mem_of_getElem? (i := 601) (by decide +kernel), List.mem_of_getElem? (i := 602) (by decide +kernel)⟩
theorem lw_p22 : lw_okq (⟨"PeriscopeTrain$Meaning", "errorOfOrder", "()I"⟩, 5) := ⟨⟨by decide +kernel, by decide +kernel⟩, List.mem_of_getElem? (i := 141) (by decide +kernel), List.mem_of_getElem? (i := 618) (by decide +kernel), List.mem_of_getElem? (i := 619) (by decide +kernel)⟩
theorem lw_p23 : lw_okq (⟨"PeriscopeTrain$Row", "shine", "()V"⟩, 14) := ⟨⟨by decide +kernel, by decide +kernel⟩, List.mem_of_getElem? (i := 170) (by decide +kernel), List.mem_of_getElem? (i := 675) (by decide +kernel), List.mem_of_getElem? (i := 676) (by decide +kernel)⟩
theorem lw_p24 : lw_okq (⟨"PeriscopeTrain$Row", "has", "(I)Z"⟩, 14) := ⟨⟨by decide +kernel, by decide +kernel⟩, List.mem_of_getElem? (i := 170) (by decide +kernel), List.mem_of_getElem? (i := 683) (by decide +kernel), List.mem_of_getElem? (i := 684) (by decide +kernel)⟩
theorem lw_p25 : lw_okq (⟨"PeriscopeTrain$Row", "isWithinWidth", "(I)Z"⟩, 14) := ⟨⟨by decide +kernel, by decide +kernel⟩, List.mem_of_getElem? (i := 170) (by decide +kernel), List.mem_of_getElem? (i := 687) (by decide +kernel), List.mem_of_getElem? (i := 688) (by decide +kernel)⟩
theorem lw_p26 : lw_okq (⟨"PeriscopeTrain$World", "follow", "(II)V"⟩, 6) := ⟨⟨by decide +kernel, by decide +kernel⟩, List.mem_of_getElem? (i := 164) (by decide +kernel), List.mem_of_getElem? (i := 741) (by decide +kernel), List.mem_of_getElem? (i := 742) (by decide +kernel)⟩
theorem lw_p27 : lw_okq (⟨"PeriscopeTrain$World", "carryOut", "(II)V"⟩, 6) := ⟨⟨by decide +kernel, by decide +kernel⟩, List.mem_of_getElem? (i := 164) (by decide +kernel), List.mem_of_getElem? (i := 746) (by decide +kernel), List.mem_of_getElem? (i := 747) (by decide +kernel)⟩
theorem lw_p28 : lw_okq (⟨"PeriscopeTrain$World", "pop", "()I"⟩, 6) := ⟨⟨by decide +kernel, by decide +kernel⟩, List.mem_of_getElem? (i := 164) (by decide +kernel), List.mem_of_getElem? (i := 750) (by decide +kernel), List.mem_of_getElem? (i := 751) (by decide +kernel)⟩
theorem lw_p29 : lw_okq (⟨"PeriscopeTrain$World", "push", "(I)V"⟩, 6) := ⟨⟨by decide +kernel, by decide +kernel⟩, List.mem_of_getElem? (i := 164) (by decide +kernel), List.mem_of_getElem? (i := 788) (by decide +kernel), List.mem_of_getElem? (i := 789) (by decide +kernel)⟩
theorem lw_p30 : lw_okq (⟨"PeriscopeTrain$World", "valueOf", "(II)I"⟩, 6) := ⟨⟨by decide +kernel, by decide +kernel⟩, List.mem_of_getElem? (i := 164) (by decide +kernel), List.mem_of_getElem? (i := 800) (by decide +kernel), List.mem_of_getElem? (i := 801) (by decide +kernel)⟩
theorem lw_p31 : lw_okq (⟨"PeriscopeTrain$World", "work", "()V"⟩, 6) := ⟨⟨by decide +kernel, by decide +kernel⟩, List.mem_of_getElem? (i := 164) (by decide +kernel), List.mem_of_getElem? (i := 814) (by decide +kernel), List.mem_of_getElem? (i := 815) (by decide +kernel)⟩
def lw_privs_2 : List (MethodName × Nat) := [(⟨"PeriscopeTrain$Grammar", "single", "(I)Z"⟩, 3), (⟨"PeriscopeTrain$Meaning", "errorOf", "(I)I"⟩, 5), (⟨"PeriscopeTrain$Meaning", "errorOfNewName", "(I)I"⟩, 5), (⟨"PeriscopeTrain$Meaning", "mirrorNamed", "(I)I"⟩, 5), (⟨"PeriscopeTrain$Meaning", "errorOfName", "(I)I"⟩, 5), (⟨"PeriscopeTrain$Meaning", "errorOfNumber", "(I)I"⟩, 5), (⟨"PeriscopeTrain$Meaning", "errorOfOrder", "()I"⟩, 5), (⟨"PeriscopeTrain$Row", "shine", "()V"⟩, 14), (⟨"PeriscopeTrain$Row", "has", "(I)Z"⟩, 14), (⟨"PeriscopeTrain$Row", "isWithinWidth", "(I)Z"⟩, 14), (⟨"PeriscopeTrain$World", "follow", "(II)V"⟩, 6), (⟨"PeriscopeTrain$World", "carryOut", "(II)V"⟩, 6), (⟨"PeriscopeTrain$World", "pop", "()I"⟩, 6), (⟨"PeriscopeTrain$World", "push", "(I)V"⟩, 6), (⟨"PeriscopeTrain$World", "valueOf", "(II)I"⟩, 6), (⟨"PeriscopeTrain$World", "work", "()V"⟩, 6)]
theorem lw_r2 : ∀ q ∈ lw_privs_2, lw_okq q := List.forall_mem_cons.mpr ⟨lw_p16, List.forall_mem_cons.mpr ⟨lw_p17, List.forall_mem_cons.mpr ⟨lw_p18, List.forall_mem_cons.mpr ⟨lw_p19, List.forall_mem_cons.mpr ⟨lw_p20, List.forall_mem_cons.mpr ⟨lw_p21, List.forall_mem_cons.mpr ⟨lw_p22, List.forall_mem_cons.mpr ⟨lw_p23, List.forall_mem_cons.mpr ⟨lw_p24, List.forall_mem_cons.mpr ⟨lw_p25, List.forall_mem_cons.mpr ⟨lw_p26, List.forall_mem_cons.mpr ⟨lw_p27, List.forall_mem_cons.mpr ⟨lw_p28, List.forall_mem_cons.mpr ⟨lw_p29, List.forall_mem_cons.mpr ⟨lw_p30, List.forall_mem_cons.mpr ⟨lw_p31, fun _ h => absurd h List.not_mem_nil⟩⟩⟩⟩⟩⟩⟩⟩⟩⟩⟩⟩⟩⟩⟩⟩
theorem lw_p32 : lw_okq (⟨"PeriscopeTrain$World", "minutesFor", "(II)I"⟩, 6) := ⟨⟨by decide +kernel, by decide +kernel⟩, List.mem_of_getElem? (i := 164) (by decide +kernel), List.mem_of_getElem? (i := 826) (by decide +kernel), List.mem_of_getElem? (i := 827) (by decide +kernel)⟩
theorem lw_p33 : lw_okq (⟨"PeriscopeTrain$World", "finish", "(II)V"⟩, 6) := ⟨⟨by decide +kernel, by decide +kernel⟩, List.mem_of_getElem? (i := 164) (by decide +kernel), List.mem_of_getElem? (i := 845) (by decide +kernel), List.mem_of_getElem? (i := 846) (by decide +kernel)⟩
theorem lw_p34 : lw_okq (⟨"PeriscopeTrain", "digestOfMirror", "(JI)J"⟩, 9) := ⟨⟨by decide +kernel, by decide +kernel⟩, List.mem_of_getElem? (i := 27) (by decide +kernel), List.mem_of_getElem? (i := 883) (by decide +kernel), List.mem_of_getElem? (i := 884) (by decide +kernel)⟩
theorem lw_p35 : lw_okq (⟨"java/lang/Throwable", "fillInStackTrace", "(I)Ljava/lang/Throwable;"⟩, 6) := ⟨⟨by decide +kernel, by decide +kernel⟩, List.mem_of_getElem? (i := 942) (by decide +kernel), List.mem_of_getElem? (i := 940) (by decide +kernel), List.mem_of_getElem? (i := 941) (by decide +kernel)⟩
theorem lw_p36 : lw_okq (⟨"PeriscopeTrain", "checkMirror", "(I)V"⟩, 9) := ⟨⟨by decide +kernel, by decide +kernel⟩, List.mem_of_getElem? (i := 27) (by decide +kernel), List.mem_of_getElem? (i := 1019) (by decide +kernel), List.mem_of_getElem? (i := 1020) (by decide +kernel)⟩
theorem lw_p37 : lw_okq (⟨"PeriscopeTrain", "checkJob", "(I)V"⟩, 9) := ⟨⟨by decide +kernel, by decide +kernel⟩, List.mem_of_getElem? (i := 27) (by decide +kernel), List.mem_of_getElem? (i := 1104) (by decide +kernel), List.mem_of_getElem? (i := 1105) (by decide +kernel)⟩
theorem lw_p38 : lw_okq (⟨"PeriscopeTrain", "lightIfTurned", "(II)I"⟩, 9) := ⟨⟨by decide +kernel, by decide +kernel⟩, List.mem_of_getElem? (i := 27) (by decide +kernel), List.mem_of_getElem? (i := 1197) (by decide +kernel), List.mem_of_getElem? (i := 1198) (by decide +kernel)⟩
theorem lw_p39 : lw_okq (⟨"PeriscopeTrainModel", "no", "(I)I"⟩, 24) := ⟨⟨by decide +kernel, by decide +kernel⟩, List.mem_of_getElem? (i := 1201) (by decide +kernel), List.mem_of_getElem? (i := 1409) (by decide +kernel), List.mem_of_getElem? (i := 1410) (by decide +kernel)⟩
theorem lw_p40 : lw_okq (⟨"PeriscopeTrainModel", "readAll", "()V"⟩, 24) := ⟨⟨by decide +kernel, by decide +kernel⟩, List.mem_of_getElem? (i := 1201) (by decide +kernel), List.mem_of_getElem? (i := 1428) (by decide +kernel), List.mem_of_getElem? (i := 1429) (by decide +kernel)⟩
theorem lw_p41 : lw_okq (⟨"PeriscopeTrainModel", "skip", "(I)I"⟩, 24) := ⟨⟨by decide +kernel, by decide +kernel⟩, List.mem_of_getElem? (i := 1201) (by decide +kernel), List.mem_of_getElem? (i := 1432) (by decide +kernel), List.mem_of_getElem? (i := 1433) (by decide +kernel)⟩
theorem lw_p42 : lw_okq (⟨"PeriscopeTrainModel", "byteAt", "(I)I"⟩, 24) := ⟨⟨by decide +kernel, by decide +kernel⟩, List.mem_of_getElem? (i := 1201) (by decide +kernel), List.mem_of_getElem? (i := 1436) (by decide +kernel), List.mem_of_getElem? (i := 1437) (by decide +kernel)⟩
theorem lw_p43 : lw_okq (⟨"PeriscopeTrainModel", "read", "(II)I"⟩, 24) := ⟨⟨by decide +kernel, by decide +kernel⟩, List.mem_of_getElem? (i := 1201) (by decide +kernel), List.mem_of_getElem? (i := 1440) (by decide +kernel), List.mem_of_getElem? (i := 1441) (by decide +kernel)⟩
theorem lw_p44 : lw_okq (⟨"PeriscopeTrainModel", "keyword", "(II)I"⟩, 24) := ⟨⟨by decide +kernel, by decide +kernel⟩, List.mem_of_getElem? (i := 1201) (by decide +kernel), List.mem_of_getElem? (i := 1450) (by decide +kernel), List.mem_of_getElem? (i := 1451) (by decide +kernel)⟩
theorem lw_p45 : lw_okq (⟨"PeriscopeTrainModel", "isWord", "(IILjava/lang/String;)Z"⟩, 24) := ⟨⟨by decide +kernel, by decide +kernel⟩, List.mem_of_getElem? (i := 1201) (by decide +kernel), List.mem_of_getElem? (i := 1456) (by decide +kernel), List.mem_of_getElem? (i := 1457) (by decide +kernel)⟩
theorem lw_p46 : lw_okq (⟨"PeriscopeTrainModel", "train", "()V"⟩, 24) := ⟨⟨by decide +kernel, by decide +kernel⟩, List.mem_of_getElem? (i := 1201) (by decide +kernel), List.mem_of_getElem? (i := 1465) (by decide +kernel), List.mem_of_getElem? (i := 1466) (by decide +kernel)⟩
theorem lw_p47 : lw_okq (⟨"PeriscopeTrainModel", "line", "()V"⟩, 24) := ⟨⟨by decide +kernel, by decide +kernel⟩, List.mem_of_getElem? (i := 1201) (by decide +kernel), List.mem_of_getElem? (i := 1469) (by decide +kernel), List.mem_of_getElem? (i := 1470) (by decide +kernel)⟩
def lw_privs_3 : List (MethodName × Nat) := [(⟨"PeriscopeTrain$World", "minutesFor", "(II)I"⟩, 6), (⟨"PeriscopeTrain$World", "finish", "(II)V"⟩, 6), (⟨"PeriscopeTrain", "digestOfMirror", "(JI)J"⟩, 9), (⟨"java/lang/Throwable", "fillInStackTrace", "(I)Ljava/lang/Throwable;"⟩, 6), (⟨"PeriscopeTrain", "checkMirror", "(I)V"⟩, 9), (⟨"PeriscopeTrain", "checkJob", "(I)V"⟩, 9), (⟨"PeriscopeTrain", "lightIfTurned", "(II)I"⟩, 9), (⟨"PeriscopeTrainModel", "no", "(I)I"⟩, 24), (⟨"PeriscopeTrainModel", "readAll", "()V"⟩, 24), (⟨"PeriscopeTrainModel", "skip", "(I)I"⟩, 24), (⟨"PeriscopeTrainModel", "byteAt", "(I)I"⟩, 24), (⟨"PeriscopeTrainModel", "read", "(II)I"⟩, 24), (⟨"PeriscopeTrainModel", "keyword", "(II)I"⟩, 24), (⟨"PeriscopeTrainModel", "isWord", "(IILjava/lang/String;)Z"⟩, 24), (⟨"PeriscopeTrainModel", "train", "()V"⟩, 24), (⟨"PeriscopeTrainModel", "line", "()V"⟩, 24)]
theorem lw_r3 : ∀ q ∈ lw_privs_3, lw_okq q := List.forall_mem_cons.mpr ⟨lw_p32, List.forall_mem_cons.mpr ⟨lw_p33, List.forall_mem_cons.mpr ⟨lw_p34, List.forall_mem_cons.mpr ⟨lw_p35, List.forall_mem_cons.mpr ⟨lw_p36, List.forall_mem_cons.mpr ⟨lw_p37, List.forall_mem_cons.mpr ⟨lw_p38, List.forall_mem_cons.mpr ⟨lw_p39, List.forall_mem_cons.mpr ⟨lw_p40, List.forall_mem_cons.mpr ⟨lw_p41, List.forall_mem_cons.mpr ⟨lw_p42, List.forall_mem_cons.mpr ⟨lw_p43, List.forall_mem_cons.mpr ⟨lw_p44, List.forall_mem_cons.mpr ⟨lw_p45, List.forall_mem_cons.mpr ⟨lw_p46, List.forall_mem_cons.mpr ⟨lw_p47, fun _ h => absurd h List.not_mem_nil⟩⟩⟩⟩⟩⟩⟩⟩⟩⟩⟩⟩⟩⟩⟩⟩
theorem lw_p48 : lw_okq (⟨"PeriscopeTrainModel", "takes", "(I)Z"⟩, 24) := ⟨⟨by decide +kernel, by decide +kernel⟩, List.mem_of_getElem? (i := 1201) (by decide +kernel), List.mem_of_getElem? (i := 1473) (by decide +kernel), List.mem_of_getElem? (i := 1474) (by decide +kernel)⟩
theorem lw_p49 : lw_okq (⟨"PeriscopeTrainModel", "is", "(I)Z"⟩, 24) := ⟨⟨by decide +kernel, by decide +kernel⟩, List.mem_of_getElem? (i := 1201) (by decide +kernel), List.mem_of_getElem? (i := 1477) (by decide +kernel), List.mem_of_getElem? (i := 1478) (by decide +kernel)⟩
theorem lw_p50 : lw_okq (⟨"PeriscopeTrainModel", "mirror", "()V"⟩, 24) := ⟨⟨by decide +kernel, by decide +kernel⟩, List.mem_of_getElem? (i := 1201) (by decide +kernel), List.mem_of_getElem? (i := 1481) (by decide +kernel), List.mem_of_getElem? (i := 1482) (by decide +kernel)⟩
theorem lw_p51 : lw_okq (⟨"PeriscopeTrainModel", "known", "()I"⟩, 24) := ⟨⟨by decide +kernel, by decide +kernel⟩, List.mem_of_getElem? (i := 1201) (by decide +kernel), List.mem_of_getElem? (i := 1486) (by decide +kernel), List.mem_of_getElem? (i := 1487) (by decide +kernel)⟩
theorem lw_p52 : lw_okq (⟨"PeriscopeTrainModel", "isSameName", "(II)Z"⟩, 24) := ⟨⟨by decide +kernel, by decide +kernel⟩, List.mem_of_getElem? (i := 1201) (by decide +kernel), List.mem_of_getElem? (i := 1490) (by decide +kernel), List.mem_of_getElem? (i := 1491) (by decide +kernel)⟩
theorem lw_p53 : lw_okq (⟨"PeriscopeTrainModel", "mark", "(I)V"⟩, 24) := ⟨⟨by decide +kernel, by decide +kernel⟩, List.mem_of_getElem? (i := 1201) (by decide +kernel), List.mem_of_getElem? (i := 1494) (by decide +kernel), List.mem_of_getElem? (i := 1495) (by decide +kernel)⟩
theorem lw_p54 : lw_okq (⟨"PeriscopeTrainModel", "take", "(I)V"⟩, 24) := ⟨⟨by decide +kernel, by decide +kernel⟩, List.mem_of_getElem? (i := 1201) (by decide +kernel), List.mem_of_getElem? (i := 1498) (by decide +kernel), List.mem_of_getElem? (i := 1499) (by decide +kernel)⟩
theorem lw_p55 : lw_okq (⟨"PeriscopeTrainModel", "wrong", "()V"⟩, 24) := ⟨⟨by decide +kernel, by decide +kernel⟩, List.mem_of_getElem? (i := 1201) (by decide +kernel), List.mem_of_getElem? (i := 1502) (by decide +kernel), List.mem_of_getElem? (i := 1503) (by decide +kernel)⟩
theorem lw_p56 : lw_okq (⟨"PeriscopeTrainModel", "numberTo", "(I)I"⟩, 24) := ⟨⟨by decide +kernel, by decide +kernel⟩, List.mem_of_getElem? (i := 1201) (by decide +kernel), List.mem_of_getElem? (i := 1506) (by decide +kernel), List.mem_of_getElem? (i := 1507) (by decide +kernel)⟩
theorem lw_p57 : lw_okq (⟨"PeriscopeTrainModel", "order", "(I)V"⟩, 24) := ⟨⟨by decide +kernel, by decide +kernel⟩, List.mem_of_getElem? (i := 1201) (by decide +kernel), List.mem_of_getElem? (i := 1510) (by decide +kernel), List.mem_of_getElem? (i := 1511) (by decide +kernel)⟩
theorem lw_p58 : lw_okq (⟨"PeriscopeTrainModel", "name", "()I"⟩, 24) := ⟨⟨by decide +kernel, by decide +kernel⟩, List.mem_of_getElem? (i := 1201) (by decide +kernel), List.mem_of_getElem? (i := 1514) (by decide +kernel), List.mem_of_getElem? (i := 1515) (by decide +kernel)⟩
theorem lw_p59 : lw_okq (⟨"PeriscopeTrainModel", "sum", "()I"⟩, 24) := ⟨⟨by decide +kernel, by decide +kernel⟩, List.mem_of_getElem? (i := 1201) (by decide +kernel), List.mem_of_getElem? (i := 1519) (by decide +kernel), List.mem_of_getElem? (i := 1520) (by decide +kernel)⟩
theorem lw_p60 : lw_okq (⟨"PeriscopeTrainModel", "product", "()I"⟩, 24) := ⟨⟨by decide +kernel, by decide +kernel⟩, List.mem_of_getElem? (i := 1201) (by decide +kernel), List.mem_of_getElem? (i := 1523) (by decide +kernel), List.mem_of_getElem? (i := 1524) (by decide +kernel)⟩
theorem lw_p61 : lw_okq (⟨"PeriscopeTrainModel", "value", "()I"⟩, 24) := ⟨⟨by decide +kernel, by decide +kernel⟩, List.mem_of_getElem? (i := 1201) (by decide +kernel), List.mem_of_getElem? (i := 1527) (by decide +kernel), List.mem_of_getElem? (i := 1528) (by decide +kernel)⟩
theorem lw_p62 : lw_okq (⟨"PeriscopeTrainModel", "node", "(III)I"⟩, 24) := ⟨⟨by decide +kernel, by decide +kernel⟩, List.mem_of_getElem? (i := 1201) (by decide +kernel), List.mem_of_getElem? (i := 1531) (by decide +kernel), List.mem_of_getElem? (i := 1532) (by decide +kernel)⟩
theorem lw_p63 : lw_okq (⟨"PeriscopeTrainModel", "isMeasure", "()Z"⟩, 24) := ⟨⟨by decide +kernel, by decide +kernel⟩, List.mem_of_getElem? (i := 1201) (by decide +kernel), List.mem_of_getElem? (i := 1535) (by decide +kernel), List.mem_of_getElem? (i := 1536) (by decide +kernel)⟩
def lw_privs_4 : List (MethodName × Nat) := [(⟨"PeriscopeTrainModel", "takes", "(I)Z"⟩, 24), (⟨"PeriscopeTrainModel", "is", "(I)Z"⟩, 24), (⟨"PeriscopeTrainModel", "mirror", "()V"⟩, 24), (⟨"PeriscopeTrainModel", "known", "()I"⟩, 24), (⟨"PeriscopeTrainModel", "isSameName", "(II)Z"⟩, 24), (⟨"PeriscopeTrainModel", "mark", "(I)V"⟩, 24), (⟨"PeriscopeTrainModel", "take", "(I)V"⟩, 24), (⟨"PeriscopeTrainModel", "wrong", "()V"⟩, 24), (⟨"PeriscopeTrainModel", "numberTo", "(I)I"⟩, 24), (⟨"PeriscopeTrainModel", "order", "(I)V"⟩, 24), (⟨"PeriscopeTrainModel", "name", "()I"⟩, 24), (⟨"PeriscopeTrainModel", "sum", "()I"⟩, 24), (⟨"PeriscopeTrainModel", "product", "()I"⟩, 24), (⟨"PeriscopeTrainModel", "value", "()I"⟩, 24), (⟨"PeriscopeTrainModel", "node", "(III)I"⟩, 24), (⟨"PeriscopeTrainModel", "isMeasure", "()Z"⟩, 24)]
theorem lw_r4 : ∀ q ∈ lw_privs_4, lw_okq q := List.forall_mem_cons.mpr ⟨lw_p48, List.forall_mem_cons.mpr ⟨lw_p49, List.forall_mem_cons.mpr ⟨lw_p50, List.forall_mem_cons.mpr ⟨lw_p51, List.forall_mem_cons.mpr ⟨lw_p52, List.forall_mem_cons.mpr ⟨lw_p53, List.forall_mem_cons.mpr ⟨lw_p54, List.forall_mem_cons.mpr ⟨lw_p55, List.forall_mem_cons.mpr ⟨lw_p56, List.forall_mem_cons.mpr ⟨lw_p57, List.forall_mem_cons.mpr ⟨lw_p58, List.forall_mem_cons.mpr ⟨lw_p59, List.forall_mem_cons.mpr ⟨lw_p60, List.forall_mem_cons.mpr ⟨lw_p61, List.forall_mem_cons.mpr ⟨lw_p62, List.forall_mem_cons.mpr ⟨lw_p63, fun _ h => absurd h List.not_mem_nil⟩⟩⟩⟩⟩⟩⟩⟩⟩⟩⟩⟩⟩⟩⟩⟩
theorem lw_p64 : lw_okq (⟨"PeriscopeTrainModel", "measure", "()I"⟩, 24) := ⟨⟨by decide +kernel, by decide +kernel⟩, List.mem_of_getElem? (i := 1201) (by decide +kernel), List.mem_of_getElem? (i := 1539) (by decide +kernel), List.mem_of_getElem? (i := 1540) (by decide +kernel)⟩
theorem lw_p65 : lw_okq (⟨"PeriscopeTrainModel", "ofTwo", "(I)I"⟩, 24) := ⟨⟨by decide +kernel, by decide +kernel⟩, List.mem_of_getElem? (i := 1201) (by decide +kernel), List.mem_of_getElem? (i := 1543) (by decide +kernel), List.mem_of_getElem? (i := 1544) (by decide +kernel)⟩
theorem lw_p66 : lw_okq (⟨"PeriscopeTrainModel", "deeper", "()V"⟩, 24) := ⟨⟨by decide +kernel, by decide +kernel⟩, List.mem_of_getElem? (i := 1201) (by decide +kernel), List.mem_of_getElem? (i := 1547) (by decide +kernel), List.mem_of_getElem? (i := 1548) (by decide +kernel)⟩
theorem lw_p67 : lw_okq (⟨"PeriscopeTrainModel", "inBrackets", "()I"⟩, 24) := ⟨⟨by decide +kernel, by decide +kernel⟩, List.mem_of_getElem? (i := 1201) (by decide +kernel), List.mem_of_getElem? (i := 1551) (by decide +kernel), List.mem_of_getElem? (i := 1552) (by decide +kernel)⟩
theorem lw_p68 : lw_okq (⟨"PeriscopeTrainModel", "test", "()I"⟩, 24) := ⟨⟨by decide +kernel, by decide +kernel⟩, List.mem_of_getElem? (i := 1201) (by decide +kernel), List.mem_of_getElem? (i := 1555) (by decide +kernel), List.mem_of_getElem? (i := 1556) (by decide +kernel)⟩
theorem lw_p69 : lw_okq (⟨"PeriscopeTrainModel", "both", "()I"⟩, 24) := ⟨⟨by decide +kernel, by decide +kernel⟩, List.mem_of_getElem? (i := 1201) (by decide +kernel), List.mem_of_getElem? (i := 1559) (by decide +kernel), List.mem_of_getElem? (i := 1560) (by decide +kernel)⟩
theorem lw_p70 : lw_okq (⟨"PeriscopeTrainModel", "single", "()I"⟩, 24) := ⟨⟨by decide +kernel, by decide +kernel⟩, List.mem_of_getElem? (i := 1201) (by decide +kernel), List.mem_of_getElem? (i := 1563) (by decide +kernel), List.mem_of_getElem? (i := 1564) (by decide +kernel)⟩
theorem lw_p71 : lw_okq (⟨"PeriscopeTrainModel", "comparison", "()I"⟩, 24) := ⟨⟨by decide +kernel, by decide +kernel⟩, List.mem_of_getElem? (i := 1201) (by decide +kernel), List.mem_of_getElem? (i := 1567) (by decide +kernel), List.mem_of_getElem? (i := 1568) (by decide +kernel)⟩
theorem lw_p72 : lw_okq (⟨"PeriscopeTrainModel", "ok", "(I)I"⟩, 24) := ⟨⟨by decide +kernel, by decide +kernel⟩, List.mem_of_getElem? (i := 1201) (by decide +kernel), List.mem_of_getElem? (i := 1587) (by decide +kernel), List.mem_of_getElem? (i := 1588) (by decide +kernel)⟩
theorem lw_p73 : lw_okq (⟨"PeriscopeTrainModel", "light", "(LPeriscopeTrainModel$State;)I"⟩, 24) := ⟨⟨by decide +kernel, by decide +kernel⟩, List.mem_of_getElem? (i := 1201) (by decide +kernel), List.mem_of_getElem? (i := 1611) (by decide +kernel), List.mem_of_getElem? (i := 1612) (by decide +kernel)⟩
theorem lw_p74 : lw_okq (⟨"PeriscopeTrainModel", "shine", "(LPeriscopeTrainModel$State;)V"⟩, 24) := ⟨⟨by decide +kernel, by decide +kernel⟩, List.mem_of_getElem? (i := 1201) (by decide +kernel), List.mem_of_getElem? (i := 1615) (by decide +kernel), List.mem_of_getElem? (i := 1616) (by decide +kernel)⟩
theorem lw_p75 : lw_okq (⟨"PeriscopeTrainModel", "isWide", "(I)Z"⟩, 24) := ⟨⟨by decide +kernel, by decide +kernel⟩, List.mem_of_getElem? (i := 1201) (by decide +kernel), List.mem_of_getElem? (i := 1619) (by decide +kernel), List.mem_of_getElem? (i := 1620) (by decide +kernel)⟩
theorem lw_p76 : lw_okq (⟨"PeriscopeTrainModel", "seen", "(LPeriscopeTrainModel$State;)Z"⟩, 24) := ⟨⟨by decide +kernel, by decide +kernel⟩, List.mem_of_getElem? (i := 1201) (by decide +kernel), List.mem_of_getElem? (i := 1635) (by decide +kernel), List.mem_of_getElem? (i := 1636) (by decide +kernel)⟩
theorem lw_p77 : lw_okq (⟨"PeriscopeTrainModel", "isMirror", "(I)Z"⟩, 24) := ⟨⟨by decide +kernel, by decide +kernel⟩, List.mem_of_getElem? (i := 1201) (by decide +kernel), List.mem_of_getElem? (i := 1647) (by decide +kernel), List.mem_of_getElem? (i := 1648) (by decide +kernel)⟩
theorem lw_p78 : lw_okq (⟨"PeriscopeTrainModel", "place", "(I)I"⟩, 24) := ⟨⟨by decide +kernel, by decide +kernel⟩, List.mem_of_getElem? (i := 1201) (by decide +kernel), List.mem_of_getElem? (i := 1663) (by decide +kernel), List.mem_of_getElem? (i := 1664) (by decide +kernel)⟩
theorem lw_p79 : lw_okq (⟨"PeriscopeTrainModel", "isJob", "(I)Z"⟩, 24) := ⟨⟨by decide +kernel, by decide +kernel⟩, List.mem_of_getElem? (i := 1201) (by decide +kernel), List.mem_of_getElem? (i := 1699) (by decide +kernel), List.mem_of_getElem? (i := 1700) (by decide +kernel)⟩
def lw_privs_5 : List (MethodName × Nat) := [(⟨"PeriscopeTrainModel", "measure", "()I"⟩, 24), (⟨"PeriscopeTrainModel", "ofTwo", "(I)I"⟩, 24), (⟨"PeriscopeTrainModel", "deeper", "()V"⟩, 24), (⟨"PeriscopeTrainModel", "inBrackets", "()I"⟩, 24), (⟨"PeriscopeTrainModel", "test", "()I"⟩, 24), (⟨"PeriscopeTrainModel", "both", "()I"⟩, 24), (⟨"PeriscopeTrainModel", "single", "()I"⟩, 24), (⟨"PeriscopeTrainModel", "comparison", "()I"⟩, 24), (⟨"PeriscopeTrainModel", "ok", "(I)I"⟩, 24), (⟨"PeriscopeTrainModel", "light", "(LPeriscopeTrainModel$State;)I"⟩, 24), (⟨"PeriscopeTrainModel", "shine", "(LPeriscopeTrainModel$State;)V"⟩, 24), (⟨"PeriscopeTrainModel", "isWide", "(I)Z"⟩, 24), (⟨"PeriscopeTrainModel", "seen", "(LPeriscopeTrainModel$State;)Z"⟩, 24), (⟨"PeriscopeTrainModel", "isMirror", "(I)Z"⟩, 24), (⟨"PeriscopeTrainModel", "place", "(I)I"⟩, 24), (⟨"PeriscopeTrainModel", "isJob", "(I)Z"⟩, 24)]
theorem lw_r5 : ∀ q ∈ lw_privs_5, lw_okq q := List.forall_mem_cons.mpr ⟨lw_p64, List.forall_mem_cons.mpr ⟨lw_p65, List.forall_mem_cons.mpr ⟨lw_p66, List.forall_mem_cons.mpr ⟨lw_p67, List.forall_mem_cons.mpr ⟨lw_p68, List.forall_mem_cons.mpr ⟨lw_p69, List.forall_mem_cons.mpr ⟨lw_p70, List.forall_mem_cons.mpr ⟨lw_p71, List.forall_mem_cons.mpr ⟨lw_p72, List.forall_mem_cons.mpr ⟨lw_p73, List.forall_mem_cons.mpr ⟨lw_p74, List.forall_mem_cons.mpr ⟨lw_p75, List.forall_mem_cons.mpr ⟨lw_p76, List.forall_mem_cons.mpr ⟨lw_p77, List.forall_mem_cons.mpr ⟨lw_p78, List.forall_mem_cons.mpr ⟨lw_p79, fun _ h => absurd h List.not_mem_nil⟩⟩⟩⟩⟩⟩⟩⟩⟩⟩⟩⟩⟩⟩⟩⟩
theorem lw_p80 : lw_okq (⟨"PeriscopeTrainModel", "pass", "(LPeriscopeTrainModel$State;)Z"⟩, 24) := ⟨⟨by decide +kernel, by decide +kernel⟩, List.mem_of_getElem? (i := 1201) (by decide +kernel), List.mem_of_getElem? (i := 1747) (by decide +kernel), List.mem_of_getElem? (i := 1748) (by decide +kernel)⟩
theorem lw_p81 : lw_okq (⟨"PeriscopeTrainModel", "carryOut", "(LPeriscopeTrainModel$State;I)V"⟩, 24) := ⟨⟨by decide +kernel, by decide +kernel⟩, List.mem_of_getElem? (i := 1201) (by decide +kernel), List.mem_of_getElem? (i := 1751) (by decide +kernel), List.mem_of_getElem? (i := 1752) (by decide +kernel)⟩
theorem lw_p82 : lw_okq (⟨"PeriscopeTrainModel", "reckon", "(LPeriscopeTrainModel$State;III)I"⟩, 24) := ⟨⟨by decide +kernel, by decide +kernel⟩, List.mem_of_getElem? (i := 1201) (by decide +kernel), List.mem_of_getElem? (i := 1755) (by decide +kernel), List.mem_of_getElem? (i := 1756) (by decide +kernel)⟩
theorem lw_p83 : lw_okq (⟨"PeriscopeTrainModel$State", "takes", "()I"⟩, 10) := ⟨⟨by decide +kernel, by decide +kernel⟩, List.mem_of_getElem? (i := 1281) (by decide +kernel), List.mem_of_getElem? (i := 1772) (by decide +kernel), List.mem_of_getElem? (i := 1773) (by decide +kernel)⟩
def lw_privs_6 : List (MethodName × Nat) := [(⟨"PeriscopeTrainModel", "pass", "(LPeriscopeTrainModel$State;)Z"⟩, 24), (⟨"PeriscopeTrainModel", "carryOut", "(LPeriscopeTrainModel$State;I)V"⟩, 24), (⟨"PeriscopeTrainModel", "reckon", "(LPeriscopeTrainModel$State;III)I"⟩, 24), (⟨"PeriscopeTrainModel$State", "takes", "()I"⟩, 10)]
theorem lw_r6 : ∀ q ∈ lw_privs_6, lw_okq q := List.forall_mem_cons.mpr ⟨lw_p80, List.forall_mem_cons.mpr ⟨lw_p81, List.forall_mem_cons.mpr ⟨lw_p82, List.forall_mem_cons.mpr ⟨lw_p83, fun _ h => absurd h List.not_mem_nil⟩⟩⟩⟩
def lw_privs : List (MethodName × Nat) := lw_privs_1 ++ (lw_privs_2 ++ (lw_privs_3 ++ (lw_privs_4 ++ (lw_privs_5 ++ (lw_privs_6)))))
def lw_tbl : List Cond := k2_sels lw_privs ++ tables_1
theorem lw_privs_ok : ∀ q ∈ lw_privs, lw_okq q := by
  show ∀ q ∈ lw_privs_1 ++ (lw_privs_2 ++ (lw_privs_3 ++ (lw_privs_4 ++ (lw_privs_5 ++ (lw_privs_6))))), lw_okq q
  exact List.forall_mem_append.mpr ⟨lw_r1, List.forall_mem_append.mpr ⟨lw_r2, List.forall_mem_append.mpr ⟨lw_r3, List.forall_mem_append.mpr ⟨lw_r4, List.forall_mem_append.mpr ⟨lw_r5, lw_r6⟩⟩⟩⟩⟩
/-- the streams that the claim lets the run draw from -/
abbrev lw_cs : List Choice := [Jvm.Choice.named "NaN.bits"]
theorem lw_bits : nanBits ∈ lw_cs := by first | decide | exact List.mem_cons_self | simp [lw_cs, nanBits]
-- ===== end of PART A; then your names; then what follows =====
def RX0 : String := "PeriscopeTrain$Grammar"
def TX0 : u_T := fun k => match k with
  | 0 => ("PeriscopeTrain$Grammar", "tokens", "LPeriscopeTrain$Tokens;", true)
  | 1 => ("PeriscopeTrain$Grammar", "draft", "LPeriscopeTrain$Plan;", true)
  | _ => ("PeriscopeTrain$Grammar", "at", "I", false)
def tyX0 : Nat → FieldType := fun k => match k with
  | 0 => .object "PeriscopeTrain$Tokens"
  | 1 => .object "PeriscopeTrain$Plan"
  | _ => .int
theorem nmX0 : ∀ a, a < 3 → ∀ b, b < 3 → a ≠ b → (TX0 a).2.1 ≠ (TX0 b).2.1 := by decide +kernel
theorem tyX0_ok : ∀ k, k < 3 → parseFieldDescriptor (TX0 k).2.2.1 = some (tyX0 k) := by decide +kernel
abbrev cX0_init : ByteArray := prog_2_method_1_code
def yX0_init : MethodName := ⟨RX0, "<init>", "(LPeriscopeTrain$Tokens;LPeriscopeTrain$Plan;)V"⟩
abbrev cX0_firstMisfit : ByteArray := prog_2_method_2_code
def yX0_firstMisfit : MethodName := ⟨RX0, "firstMisfit", "()I"⟩
abbrev cX0_isNext : ByteArray := prog_2_method_3_code
def yX0_isNext : MethodName := ⟨RX0, "isNext", "(I)Z"⟩
abbrev cX0_take : ByteArray := prog_2_method_4_code
def yX0_take : MethodName := ⟨RX0, "take", "(I)Z"⟩
abbrev cX0_line : ByteArray := prog_2_method_5_code
def yX0_line : MethodName := ⟨RX0, "line", "()Z"⟩
abbrev cX0_mirror : ByteArray := prog_2_method_6_code
def yX0_mirror : MethodName := ⟨RX0, "mirror", "()Z"⟩
abbrev cX0_order : ByteArray := prog_2_method_7_code
def yX0_order : MethodName := ⟨RX0, "order", "(I)Z"⟩
abbrev cX0_test : ByteArray := prog_2_method_8_code
def yX0_test : MethodName := ⟨RX0, "test", "(I)Z"⟩
abbrev cX0_both : ByteArray := prog_2_method_9_code
def yX0_both : MethodName := ⟨RX0, "both", "(I)Z"⟩
abbrev cX0_single : ByteArray := prog_2_method_10_code
def yX0_single : MethodName := ⟨RX0, "single", "(I)Z"⟩
abbrev cX0_sum : ByteArray := prog_2_method_11_code
def yX0_sum : MethodName := ⟨RX0, "sum", "(I)Z"⟩
abbrev cX0_product : ByteArray := prog_2_method_12_code
def yX0_product : MethodName := ⟨RX0, "product", "(I)Z"⟩
abbrev cX0_value : ByteArray := prog_2_method_13_code
def yX0_value : MethodName := ⟨RX0, "value", "(I)Z"⟩
abbrev cX0_pair : ByteArray := prog_2_method_14_code
def yX0_pair : MethodName := ⟨RX0, "pair", "(II)Z"⟩
def RX1 : String := "PeriscopeTrain$Meaning"
def TX1 : u_T := fun k => match k with
  | 0 => ("PeriscopeTrain$Meaning", "tape", "LPeriscopeTrain$Tape;", true)
  | 1 => ("PeriscopeTrain$Meaning", "tokens", "LPeriscopeTrain$Tokens;", true)
  | 2 => ("PeriscopeTrain$Meaning", "draft", "LPeriscopeTrain$Plan;", true)
  | 3 => ("PeriscopeTrain$Meaning", "names", "[I", true)
  | _ => ("PeriscopeTrain$Meaning", "error", "I", false)
def tyX1 : Nat → FieldType := fun k => match k with
  | 0 => .object "PeriscopeTrain$Tape"
  | 1 => .object "PeriscopeTrain$Tokens"
  | 2 => .object "PeriscopeTrain$Plan"
  | 3 => .array .int
  | _ => .int
theorem nmX1 : ∀ a, a < 5 → ∀ b, b < 5 → a ≠ b → (TX1 a).2.1 ≠ (TX1 b).2.1 := by decide +kernel
theorem tyX1_ok : ∀ k, k < 5 → parseFieldDescriptor (TX1 k).2.2.1 = some (tyX1 k) := by decide +kernel
abbrev cX1_init : ByteArray := prog_3_method_1_code
def yX1_init : MethodName := ⟨RX1, "<init>", "(LPeriscopeTrain$Tape;LPeriscopeTrain$Tokens;LPeriscopeTrain$Plan;)V"⟩
abbrev cX1_firstMistake : ByteArray := prog_3_method_2_code
def yX1_firstMistake : MethodName := ⟨RX1, "firstMistake", "()I"⟩
abbrev cX1_errorOf : ByteArray := prog_3_method_3_code
def yX1_errorOf : MethodName := ⟨RX1, "errorOf", "(I)I"⟩
abbrev cX1_errorOfNewName : ByteArray := prog_3_method_4_code
def yX1_errorOfNewName : MethodName := ⟨RX1, "errorOfNewName", "(I)I"⟩
abbrev cX1_errorOfName : ByteArray := prog_3_method_5_code
def yX1_errorOfName : MethodName := ⟨RX1, "errorOfName", "(I)I"⟩
abbrev cX1_mirrorNamed : ByteArray := prog_3_method_6_code
def yX1_mirrorNamed : MethodName := ⟨RX1, "mirrorNamed", "(I)I"⟩
abbrev cX1_errorOfOrder : ByteArray := prog_3_method_7_code
def yX1_errorOfOrder : MethodName := ⟨RX1, "errorOfOrder", "()I"⟩
abbrev cX1_errorOfNumber : ByteArray := prog_3_method_8_code
def yX1_errorOfNumber : MethodName := ⟨RX1, "errorOfNumber", "(I)I"⟩
def RX2 : String := "PeriscopeTrain$Plan"
def TX2 : u_T := fun k => match k with
  | 0 => ("PeriscopeTrain$Plan", "clarity", "[I", true)
  | 1 => ("PeriscopeTrain$Plan", "offset", "[I", true)
  | 2 => ("PeriscopeTrain$Plan", "step", "[I", true)
  | 3 => ("PeriscopeTrain$Plan", "value", "[I", true)
  | 4 => ("PeriscopeTrain$Plan", "mirrors", "I", false)
  | 5 => ("PeriscopeTrain$Plan", "orders", "I", false)
  | 6 => ("PeriscopeTrain$Plan", "width", "I", false)
  | 7 => ("PeriscopeTrain$Plan", "limit", "I", false)
  | _ => ("PeriscopeTrain$Plan", "length", "I", false)
def tyX2 : Nat → FieldType := fun k => match k with
  | 0 => .array .int
  | 1 => .array .int
  | 2 => .array .int
  | 3 => .array .int
  | 4 => .int
  | 5 => .int
  | 6 => .int
  | 7 => .int
  | _ => .int
theorem nmX2 : ∀ a, a < 9 → ∀ b, b < 9 → a ≠ b → (TX2 a).2.1 ≠ (TX2 b).2.1 := by decide +kernel
theorem tyX2_ok : ∀ k, k < 9 → parseFieldDescriptor (TX2 k).2.2.1 = some (tyX2 k) := by decide +kernel
abbrev cX2_init : ByteArray := prog_4_method_1_code
def yX2_init : MethodName := ⟨RX2, "<init>", "()V"⟩
abbrev cX2_clear : ByteArray := prog_4_method_2_code
def yX2_clear : MethodName := ⟨RX2, "clear", "()V"⟩
abbrev cX2_write : ByteArray := prog_4_method_3_code
def yX2_write : MethodName := ⟨RX2, "write", "(II)V"⟩
abbrev cX2_tellClarity : ByteArray := prog_4_method_4_code
def yX2_tellClarity : MethodName := ⟨RX2, "tellClarity", "(I)V"⟩
abbrev cX2_tellOffset : ByteArray := prog_4_method_5_code
def yX2_tellOffset : MethodName := ⟨RX2, "tellOffset", "(I)V"⟩
abbrev cX2_takeOver : ByteArray := prog_4_method_6_code
def yX2_takeOver : MethodName := ⟨RX2, "takeOver", "(LPeriscopeTrain$Plan;LPeriscopeTrain$Tokens;)V"⟩
def RX3 : String := "PeriscopeTrain$Queue"
def TX3 : u_T := fun k => match k with
  | 0 => ("PeriscopeTrain$Queue", "kind", "[I", true)
  | 1 => ("PeriscopeTrain$Queue", "mirror", "[I", true)
  | 2 => ("PeriscopeTrain$Queue", "size", "I", false)
  | 3 => ("PeriscopeTrain$Queue", "toGo", "I", false)
  | _ => ("PeriscopeTrain$Queue", "done", "I", false)
def tyX3 : Nat → FieldType := fun k => match k with
  | 0 => .array .int
  | 1 => .array .int
  | 2 => .int
  | 3 => .int
  | _ => .int
theorem nmX3 : ∀ a, a < 5 → ∀ b, b < 5 → a ≠ b → (TX3 a).2.1 ≠ (TX3 b).2.1 := by decide +kernel
theorem tyX3_ok : ∀ k, k < 5 → parseFieldDescriptor (TX3 k).2.2.1 = some (tyX3 k) := by decide +kernel
abbrev cX3_init : ByteArray := prog_5_method_1_code
def yX3_init : MethodName := ⟨RX3, "<init>", "()V"⟩
abbrev cX3_begin : ByteArray := prog_5_method_2_code
def yX3_begin : MethodName := ⟨RX3, "begin", "()V"⟩
abbrev cX3_copy : ByteArray := prog_5_method_3_code
def yX3_copy : MethodName := ⟨RX3, "copy", "(LPeriscopeTrain$Queue;)V"⟩
abbrev cX3_kindIn : ByteArray := prog_5_method_4_code
def yX3_kindIn : MethodName := ⟨RX3, "kindIn", "(I)I"⟩
abbrev cX3_mirrorIn : ByteArray := prog_5_method_5_code
def yX3_mirrorIn : MethodName := ⟨RX3, "mirrorIn", "(I)I"⟩
abbrev cX3_hasJobFor : ByteArray := prog_5_method_6_code
def yX3_hasJobFor : MethodName := ⟨RX3, "hasJobFor", "(I)Z"⟩
abbrev cX3_takesIn : ByteArray := prog_5_method_7_code
def yX3_takesIn : MethodName := ⟨RX3, "takesIn", "(II)Z"⟩
abbrev cX3_add : ByteArray := prog_5_method_8_code
def yX3_add : MethodName := ⟨RX3, "add", "(II)V"⟩
abbrev cX3_remove : ByteArray := prog_5_method_9_code
def yX3_remove : MethodName := ⟨RX3, "remove", "(I)V"⟩
def RX4 : String := "PeriscopeTrain$Row"
def TX4 : u_T := fun k => match k with
  | 0 => ("PeriscopeTrain$Row", "clarity", "[I", true)
  | 1 => ("PeriscopeTrain$Row", "best", "[I", true)
  | 2 => ("PeriscopeTrain$Row", "offset", "[I", true)
  | 3 => ("PeriscopeTrain$Row", "mirrorAtPlace", "[I", true)
  | 4 => ("PeriscopeTrain$Row", "light", "[I", true)
  | 5 => ("PeriscopeTrain$Row", "lost", "[I", true)
  | 6 => ("PeriscopeTrain$Row", "tilt", "[I", true)
  | 7 => ("PeriscopeTrain$Row", "count", "I", false)
  | 8 => ("PeriscopeTrain$Row", "width", "I", false)
  | 9 => ("PeriscopeTrain$Row", "limit", "I", false)
  | 10 => ("PeriscopeTrain$Row", "covered", "I", false)
  | 11 => ("PeriscopeTrain$Row", "endLight", "I", false)
  | 12 => ("PeriscopeTrain$Row", "endTilt", "I", false)
  | _ => ("PeriscopeTrain$Row", "isLit", "Z", false)
def tyX4 : Nat → FieldType := fun k => match k with
  | 0 => .array .int
  | 1 => .array .int
  | 2 => .array .int
  | 3 => .array .int
  | 4 => .array .int
  | 5 => .array .int
  | 6 => .array .int
  | 7 => .int
  | 8 => .int
  | 9 => .int
  | 10 => .int
  | 11 => .int
  | 12 => .int
  | _ => .boolean
theorem nmX4 : ∀ a, a < 14 → ∀ b, b < 14 → a ≠ b → (TX4 a).2.1 ≠ (TX4 b).2.1 := by decide +kernel
theorem tyX4_ok : ∀ k, k < 14 → parseFieldDescriptor (TX4 k).2.2.1 = some (tyX4 k) := by decide +kernel
abbrev cX4_init : ByteArray := prog_6_method_1_code
def yX4_init : MethodName := ⟨RX4, "<init>", "()V"⟩
abbrev cX4_begin : ByteArray := prog_6_method_2_code
def yX4_begin : MethodName := ⟨RX4, "begin", "(LPeriscopeTrain$Plan;)V"⟩
abbrev cX4_copy : ByteArray := prog_6_method_3_code
def yX4_copy : MethodName := ⟨RX4, "copy", "(LPeriscopeTrain$Row;)V"⟩
abbrev cX4_has : ByteArray := prog_6_method_4_code
def yX4_has : MethodName := ⟨RX4, "has", "(I)Z"⟩
abbrev cX4_mirrorIn : ByteArray := prog_6_method_5_code
def yX4_mirrorIn : MethodName := ⟨RX4, "mirrorIn", "(I)I"⟩
abbrev cX4_findPlace : ByteArray := prog_6_method_6_code
def yX4_findPlace : MethodName := ⟨RX4, "findPlace", "(I)I"⟩
abbrev cX4_valueOf : ByteArray := prog_6_method_7_code
def yX4_valueOf : MethodName := ⟨RX4, "valueOf", "(II)I"⟩
abbrev cX4_lastLight : ByteArray := prog_6_method_8_code
def yX4_lastLight : MethodName := ⟨RX4, "lastLight", "()I"⟩
abbrev cX4_lastTilt : ByteArray := prog_6_method_9_code
def yX4_lastTilt : MethodName := ⟨RX4, "lastTilt", "()I"⟩
abbrev cX4_showsLight : ByteArray := prog_6_method_10_code
def yX4_showsLight : MethodName := ⟨RX4, "showsLight", "()Z"⟩
abbrev cX4_mostLosing : ByteArray := prog_6_method_11_code
def yX4_mostLosing : MethodName := ⟨RX4, "mostLosing", "()I"⟩
abbrev cX4_isWithinWidth : ByteArray := prog_6_method_12_code
def yX4_isWithinWidth : MethodName := ⟨RX4, "isWithinWidth", "(I)Z"⟩
abbrev cX4_shine : ByteArray := prog_6_method_13_code
def yX4_shine : MethodName := ⟨RX4, "shine", "()V"⟩
abbrev cX4_cover : ByteArray := prog_6_method_14_code
def yX4_cover : MethodName := ⟨RX4, "cover", "(I)V"⟩
abbrev cX4_turn : ByteArray := prog_6_method_15_code
def yX4_turn : MethodName := ⟨RX4, "turn", "(II)V"⟩
abbrev cX4_shake : ByteArray := prog_6_method_16_code
def yX4_shake : MethodName := ⟨RX4, "shake", "(II)V"⟩
abbrev cX4_dim : ByteArray := prog_6_method_17_code
def yX4_dim : MethodName := ⟨RX4, "dim", "(III)V"⟩
abbrev cX4_dust : ByteArray := prog_6_method_18_code
def yX4_dust : MethodName := ⟨RX4, "dust", "(II)V"⟩
abbrev cX4_clean : ByteArray := prog_6_method_19_code
def yX4_clean : MethodName := ⟨RX4, "clean", "(I)V"⟩
abbrev cX4_replace : ByteArray := prog_6_method_20_code
def yX4_replace : MethodName := ⟨RX4, "replace", "(I)V"⟩
abbrev cX4_move : ByteArray := prog_6_method_21_code
def yX4_move : MethodName := ⟨RX4, "move", "(II)V"⟩
def RX5 : String := "PeriscopeTrain$Tape"
def TX5 : u_T := fun k => match k with
  | 0 => ("PeriscopeTrain$Tape", "bytes", "[B", true)
  | _ => ("PeriscopeTrain$Tape", "length", "I", false)
def tyX5 : Nat → FieldType := fun k => match k with
  | 0 => .array .byte
  | _ => .int
theorem nmX5 : ∀ a, a < 2 → ∀ b, b < 2 → a ≠ b → (TX5 a).2.1 ≠ (TX5 b).2.1 := by decide +kernel
theorem tyX5_ok : ∀ k, k < 2 → parseFieldDescriptor (TX5 k).2.2.1 = some (tyX5 k) := by decide +kernel
abbrev cX5_init : ByteArray := prog_7_method_1_code
def yX5_init : MethodName := ⟨RX5, "<init>", "()V"⟩
abbrev cX5_append : ByteArray := prog_7_method_2_code
def yX5_append : MethodName := ⟨RX5, "append", "(I)V"⟩
abbrev cX5_byteAt : ByteArray := prog_7_method_3_code
def yX5_byteAt : MethodName := ⟨RX5, "byteAt", "(I)I"⟩
abbrev cX5_skipBlanks : ByteArray := prog_7_method_4_code
def yX5_skipBlanks : MethodName := ⟨RX5, "skipBlanks", "(I)I"⟩
abbrev cX5_skipDigits : ByteArray := prog_7_method_5_code
def yX5_skipDigits : MethodName := ⟨RX5, "skipDigits", "(I)I"⟩
abbrev cX5_skipLettersAndDigits : ByteArray := prog_7_method_6_code
def yX5_skipLettersAndDigits : MethodName := ⟨RX5, "skipLettersAndDigits", "(I)I"⟩
abbrev cX5_holdsText : ByteArray := prog_7_method_7_code
def yX5_holdsText : MethodName := ⟨RX5, "holdsText", "(Ljava/lang/String;II)Z"⟩
abbrev cX5_holdsSame : ByteArray := prog_7_method_8_code
def yX5_holdsSame : MethodName := ⟨RX5, "holdsSame", "(III)Z"⟩
abbrev cX5_isBlank : ByteArray := prog_7_method_9_code
def yX5_isBlank : MethodName := ⟨RX5, "isBlank", "(I)Z"⟩
abbrev cX5_isLetter : ByteArray := prog_7_method_10_code
def yX5_isLetter : MethodName := ⟨RX5, "isLetter", "(I)Z"⟩
abbrev cX5_isDigit : ByteArray := prog_7_method_11_code
def yX5_isDigit : MethodName := ⟨RX5, "isDigit", "(I)Z"⟩
def RX6 : String := "PeriscopeTrain$Tokens"
def TX6 : u_T := fun k => match k with
  | 0 => ("PeriscopeTrain$Tokens", "tape", "LPeriscopeTrain$Tape;", true)
  | 1 => ("PeriscopeTrain$Tokens", "kind", "[I", true)
  | 2 => ("PeriscopeTrain$Tokens", "start", "[I", true)
  | 3 => ("PeriscopeTrain$Tokens", "size", "[I", true)
  | 4 => ("PeriscopeTrain$Tokens", "value", "[I", true)
  | _ => ("PeriscopeTrain$Tokens", "count", "I", false)
def tyX6 : Nat → FieldType := fun k => match k with
  | 0 => .object "PeriscopeTrain$Tape"
  | 1 => .array .int
  | 2 => .array .int
  | 3 => .array .int
  | 4 => .array .int
  | _ => .int
theorem nmX6 : ∀ a, a < 6 → ∀ b, b < 6 → a ≠ b → (TX6 a).2.1 ≠ (TX6 b).2.1 := by decide +kernel
theorem tyX6_ok : ∀ k, k < 6 → parseFieldDescriptor (TX6 k).2.2.1 = some (tyX6 k) := by decide +kernel
abbrev cX6_init : ByteArray := prog_8_method_1_code
def yX6_init : MethodName := ⟨RX6, "<init>", "(LPeriscopeTrain$Tape;)V"⟩
abbrev cX6_kindAt : ByteArray := prog_8_method_2_code
def yX6_kindAt : MethodName := ⟨RX6, "kindAt", "(I)I"⟩
abbrev cX6_valueAt : ByteArray := prog_8_method_3_code
def yX6_valueAt : MethodName := ⟨RX6, "valueAt", "(I)I"⟩
abbrev cX6_setValue : ByteArray := prog_8_method_4_code
def yX6_setValue : MethodName := ⟨RX6, "setValue", "(II)V"⟩
abbrev cX6_positionOf : ByteArray := prog_8_method_5_code
def yX6_positionOf : MethodName := ⟨RX6, "positionOf", "(I)I"⟩
abbrev cX6_areSameNames : ByteArray := prog_8_method_6_code
def yX6_areSameNames : MethodName := ⟨RX6, "areSameNames", "(II)Z"⟩
abbrev cX6_readTape : ByteArray := prog_8_method_7_code
def yX6_readTape : MethodName := ⟨RX6, "readTape", "()V"⟩
abbrev cX6_readToken : ByteArray := prog_8_method_8_code
def yX6_readToken : MethodName := ⟨RX6, "readToken", "(I)I"⟩
abbrev cX6_readWord : ByteArray := prog_8_method_9_code
def yX6_readWord : MethodName := ⟨RX6, "readWord", "(I)I"⟩
abbrev cX6_readNumber : ByteArray := prog_8_method_10_code
def yX6_readNumber : MethodName := ⟨RX6, "readNumber", "(I)I"⟩
abbrev cX6_readSymbol : ByteArray := prog_8_method_11_code
def yX6_readSymbol : MethodName := ⟨RX6, "readSymbol", "(II)I"⟩
abbrev cX6_add : ByteArray := prog_8_method_12_code
def yX6_add : MethodName := ⟨RX6, "add", "(III)V"⟩
abbrev cX6_keyword : ByteArray := prog_8_method_13_code
def yX6_keyword : MethodName := ⟨RX6, "keyword", "(I)Ljava/lang/String;"⟩
def RX7 : String := "PeriscopeTrain$World"
def TX7 : u_T := fun k => match k with
  | 0 => ("PeriscopeTrain$World", "plan", "LPeriscopeTrain$Plan;", true)
  | 1 => ("PeriscopeTrain$World", "row", "LPeriscopeTrain$Row;", true)
  | 2 => ("PeriscopeTrain$World", "queue", "LPeriscopeTrain$Queue;", true)
  | 3 => ("PeriscopeTrain$World", "answers", "[I", true)
  | 4 => ("PeriscopeTrain$World", "answered", "I", false)
  | _ => ("PeriscopeTrain$World", "minute", "I", false)
def tyX7 : Nat → FieldType := fun k => match k with
  | 0 => .object "PeriscopeTrain$Plan"
  | 1 => .object "PeriscopeTrain$Row"
  | 2 => .object "PeriscopeTrain$Queue"
  | 3 => .array .int
  | 4 => .int
  | _ => .int
theorem nmX7 : ∀ a, a < 6 → ∀ b, b < 6 → a ≠ b → (TX7 a).2.1 ≠ (TX7 b).2.1 := by decide +kernel
theorem tyX7_ok : ∀ k, k < 6 → parseFieldDescriptor (TX7 k).2.2.1 = some (tyX7 k) := by decide +kernel
abbrev cX7_init : ByteArray := prog_9_method_1_code
def yX7_init : MethodName := ⟨RX7, "<init>", "(LPeriscopeTrain$Plan;)V"⟩
abbrev cX7_begin : ByteArray := prog_9_method_2_code
def yX7_begin : MethodName := ⟨RX7, "begin", "()V"⟩
abbrev cX7_copy : ByteArray := prog_9_method_3_code
def yX7_copy : MethodName := ⟨RX7, "copy", "(LPeriscopeTrain$World;)V"⟩
abbrev cX7_pass : ByteArray := prog_9_method_4_code
def yX7_pass : MethodName := ⟨RX7, "pass", "(I)V"⟩
abbrev cX7_dropJob : ByteArray := prog_9_method_5_code
def yX7_dropJob : MethodName := ⟨RX7, "dropJob", "(I)V"⟩
abbrev cX7_follow : ByteArray := prog_9_method_6_code
def yX7_follow : MethodName := ⟨RX7, "follow", "(II)V"⟩
abbrev cX7_push : ByteArray := prog_9_method_7_code
def yX7_push : MethodName := ⟨RX7, "push", "(I)V"⟩
abbrev cX7_pop : ByteArray := prog_9_method_8_code
def yX7_pop : MethodName := ⟨RX7, "pop", "()I"⟩
abbrev cX7_carryOut : ByteArray := prog_9_method_9_code
def yX7_carryOut : MethodName := ⟨RX7, "carryOut", "(II)V"⟩
abbrev cX7_valueOf : ByteArray := prog_9_method_10_code
def yX7_valueOf : MethodName := ⟨RX7, "valueOf", "(II)I"⟩
abbrev cX7_joinsTwo : ByteArray := prog_9_method_11_code
def yX7_joinsTwo : MethodName := ⟨RX7, "joinsTwo", "(I)Z"⟩
abbrev cX7_join : ByteArray := prog_9_method_12_code
def yX7_join : MethodName := ⟨RX7, "join", "(III)I"⟩
abbrev cX7_work : ByteArray := prog_9_method_13_code
def yX7_work : MethodName := ⟨RX7, "work", "()V"⟩
abbrev cX7_minutesFor : ByteArray := prog_9_method_14_code
def yX7_minutesFor : MethodName := ⟨RX7, "minutesFor", "(II)I"⟩
abbrev cX7_finish : ByteArray := prog_9_method_15_code
def yX7_finish : MethodName := ⟨RX7, "finish", "(II)V"⟩
def RX8 : String := "PeriscopeTrain"
def TX8 : u_T := fun k => match k with
  | 0 => ("PeriscopeTrain", "tape", "LPeriscopeTrain$Tape;", true)
  | 1 => ("PeriscopeTrain", "tokens", "LPeriscopeTrain$Tokens;", true)
  | 2 => ("PeriscopeTrain", "grammar", "LPeriscopeTrain$Grammar;", true)
  | 3 => ("PeriscopeTrain", "meaning", "LPeriscopeTrain$Meaning;", true)
  | 4 => ("PeriscopeTrain", "draft", "LPeriscopeTrain$Plan;", true)
  | 5 => ("PeriscopeTrain", "plan", "LPeriscopeTrain$Plan;", true)
  | 6 => ("PeriscopeTrain", "now", "LPeriscopeTrain$World;", true)
  | 7 => ("PeriscopeTrain", "would", "LPeriscopeTrain$World;", true)
  | _ => ("PeriscopeTrain", "errorPosition", "I", false)
def tyX8 : Nat → FieldType := fun k => match k with
  | 0 => .object "PeriscopeTrain$Tape"
  | 1 => .object "PeriscopeTrain$Tokens"
  | 2 => .object "PeriscopeTrain$Grammar"
  | 3 => .object "PeriscopeTrain$Meaning"
  | 4 => .object "PeriscopeTrain$Plan"
  | 5 => .object "PeriscopeTrain$Plan"
  | 6 => .object "PeriscopeTrain$World"
  | 7 => .object "PeriscopeTrain$World"
  | _ => .int
theorem nmX8 : ∀ a, a < 9 → ∀ b, b < 9 → a ≠ b → (TX8 a).2.1 ≠ (TX8 b).2.1 := by decide +kernel
theorem tyX8_ok : ∀ k, k < 9 → parseFieldDescriptor (TX8 k).2.2.1 = some (tyX8 k) := by decide +kernel
abbrev cX8_init : ByteArray := prog_1_method_1_code
def yX8_init : MethodName := ⟨RX8, "<init>", "()V"⟩
abbrev cX8_feed : ByteArray := prog_1_method_2_code
def yX8_feed : MethodName := ⟨RX8, "feed", "(IIIII)I"⟩
abbrev cX8_trim : ByteArray := prog_1_method_3_code
def yX8_trim : MethodName := ⟨RX8, "trim", "(I)I"⟩
abbrev cX8_teach : ByteArray := prog_1_method_4_code
def yX8_teach : MethodName := ⟨RX8, "teach", "()I"⟩
abbrev cX8_errorAt : ByteArray := prog_1_method_5_code
def yX8_errorAt : MethodName := ⟨RX8, "errorAt", "()I"⟩
abbrev cX8_mirrors : ByteArray := prog_1_method_6_code
def yX8_mirrors : MethodName := ⟨RX8, "mirrors", "()I"⟩
abbrev cX8_orders : ByteArray := prog_1_method_7_code
def yX8_orders : MethodName := ⟨RX8, "orders", "()I"⟩
abbrev cX8_minutes : ByteArray := prog_1_method_8_code
def yX8_minutes : MethodName := ⟨RX8, "minutes", "()I"⟩
abbrev cX8_tapeBytes : ByteArray := prog_1_method_9_code
def yX8_tapeBytes : MethodName := ⟨RX8, "tapeBytes", "()I"⟩
abbrev cX8_lightAtEnd : ByteArray := prog_1_method_10_code
def yX8_lightAtEnd : MethodName := ⟨RX8, "lightAtEnd", "()I"⟩
abbrev cX8_tiltAtEnd : ByteArray := prog_1_method_11_code
def yX8_tiltAtEnd : MethodName := ⟨RX8, "tiltAtEnd", "()I"⟩
abbrev cX8_isSeen : ByteArray := prog_1_method_12_code
def yX8_isSeen : MethodName := ⟨RX8, "isSeen", "()Z"⟩
abbrev cX8_worstMirror : ByteArray := prog_1_method_13_code
def yX8_worstMirror : MethodName := ⟨RX8, "worstMirror", "()I"⟩
abbrev cX8_clarityOf : ByteArray := prog_1_method_14_code
def yX8_clarityOf : MethodName := ⟨RX8, "clarityOf", "(I)I"⟩
abbrev cX8_bestClarityOf : ByteArray := prog_1_method_15_code
def yX8_bestClarityOf : MethodName := ⟨RX8, "bestClarityOf", "(I)I"⟩
abbrev cX8_offsetOf : ByteArray := prog_1_method_16_code
def yX8_offsetOf : MethodName := ⟨RX8, "offsetOf", "(I)I"⟩
abbrev cX8_placeOf : ByteArray := prog_1_method_17_code
def yX8_placeOf : MethodName := ⟨RX8, "placeOf", "(I)I"⟩
abbrev cX8_lightBehind : ByteArray := prog_1_method_18_code
def yX8_lightBehind : MethodName := ⟨RX8, "lightBehind", "(I)I"⟩
abbrev cX8_lostAt : ByteArray := prog_1_method_19_code
def yX8_lostAt : MethodName := ⟨RX8, "lostAt", "(I)I"⟩
abbrev cX8_tiltBehind : ByteArray := prog_1_method_20_code
def yX8_tiltBehind : MethodName := ⟨RX8, "tiltBehind", "(I)I"⟩
abbrev cX8_isCovered : ByteArray := prog_1_method_21_code
def yX8_isCovered : MethodName := ⟨RX8, "isCovered", "(I)Z"⟩
abbrev cX8_mirrorAt : ByteArray := prog_1_method_22_code
def yX8_mirrorAt : MethodName := ⟨RX8, "mirrorAt", "(I)I"⟩
abbrev cX8_jobs : ByteArray := prog_1_method_23_code
def yX8_jobs : MethodName := ⟨RX8, "jobs", "()I"⟩
abbrev cX8_jobsDone : ByteArray := prog_1_method_24_code
def yX8_jobsDone : MethodName := ⟨RX8, "jobsDone", "()I"⟩
abbrev cX8_kindOfJob : ByteArray := prog_1_method_25_code
def yX8_kindOfJob : MethodName := ⟨RX8, "kindOfJob", "(I)I"⟩
abbrev cX8_mirrorOfJob : ByteArray := prog_1_method_26_code
def yX8_mirrorOfJob : MethodName := ⟨RX8, "mirrorOfJob", "(I)I"⟩
abbrev cX8_minutesToGo : ByteArray := prog_1_method_27_code
def yX8_minutesToGo : MethodName := ⟨RX8, "minutesToGo", "()I"⟩
abbrev cX8_orderJob : ByteArray := prog_1_method_28_code
def yX8_orderJob : MethodName := ⟨RX8, "orderJob", "(II)I"⟩
abbrev cX8_cancelJob : ByteArray := prog_1_method_29_code
def yX8_cancelJob : MethodName := ⟨RX8, "cancelJob", "(I)I"⟩
abbrev cX8_turnMirror : ByteArray := prog_1_method_30_code
def yX8_turnMirror : MethodName := ⟨RX8, "turnMirror", "(II)I"⟩
abbrev cX8_dustMirror : ByteArray := prog_1_method_31_code
def yX8_dustMirror : MethodName := ⟨RX8, "dustMirror", "(II)I"⟩
abbrev cX8_moveMirror : ByteArray := prog_1_method_32_code
def yX8_moveMirror : MethodName := ⟨RX8, "moveMirror", "(II)I"⟩
abbrev cX8_passMinutes : ByteArray := prog_1_method_33_code
def yX8_passMinutes : MethodName := ⟨RX8, "passMinutes", "(I)I"⟩
abbrev cX8_lightAfter : ByteArray := prog_1_method_34_code
def yX8_lightAfter : MethodName := ⟨RX8, "lightAfter", "(I)I"⟩
abbrev cX8_minutesUntilSeen : ByteArray := prog_1_method_35_code
def yX8_minutesUntilSeen : MethodName := ⟨RX8, "minutesUntilSeen", "()I"⟩
abbrev cX8_minutesUntilDone : ByteArray := prog_1_method_36_code
def yX8_minutesUntilDone : MethodName := ⟨RX8, "minutesUntilDone", "(I)I"⟩
abbrev cX8_bestToClean : ByteArray := prog_1_method_37_code
def yX8_bestToClean : MethodName := ⟨RX8, "bestToClean", "()I"⟩
abbrev cX8_bestOffset : ByteArray := prog_1_method_38_code
def yX8_bestOffset : MethodName := ⟨RX8, "bestOffset", "(I)I"⟩
abbrev cX8_meanClarity : ByteArray := prog_1_method_39_code
def yX8_meanClarity : MethodName := ⟨RX8, "meanClarity", "()D"⟩
abbrev cX8_digest : ByteArray := prog_1_method_40_code
def yX8_digest : MethodName := ⟨RX8, "digest", "()J"⟩
abbrev cX8_digestOfMirror : ByteArray := prog_1_method_41_code
def yX8_digestOfMirror : MethodName := ⟨RX8, "digestOfMirror", "(JI)J"⟩
abbrev cX8_lightIfTurned : ByteArray := prog_1_method_42_code
def yX8_lightIfTurned : MethodName := ⟨RX8, "lightIfTurned", "(II)I"⟩
abbrev cX8_checkMirror : ByteArray := prog_1_method_43_code
def yX8_checkMirror : MethodName := ⟨RX8, "checkMirror", "(I)V"⟩
abbrev cX8_checkJob : ByteArray := prog_1_method_44_code
def yX8_checkJob : MethodName := ⟨RX8, "checkJob", "(I)V"⟩
abbrev cX8_checkMinutes : ByteArray := prog_1_method_45_code
def yX8_checkMinutes : MethodName := ⟨RX8, "checkMinutes", "(I)V"⟩
abbrev cX8_isOrder : ByteArray := prog_1_method_46_code
def yX8_isOrder : MethodName := ⟨RX8, "isOrder", "(I)Z"⟩
abbrev cX8_isOrderBySum : ByteArray := prog_1_method_47_code
def yX8_isOrderBySum : MethodName := ⟨RX8, "isOrderBySum", "(I)Z"⟩
abbrev cX8_hold : ByteArray := prog_1_method_48_code
def yX8_hold : MethodName := ⟨RX8, "hold", "(JII)I"⟩
def RX9 : String := "PeriscopeTrainModel$State"
def TX9 : u_T := fun k => match k with
  | 0 => ("PeriscopeTrainModel$State", "clarity", "[I", true)
  | 1 => ("PeriscopeTrainModel$State", "best", "[I", true)
  | 2 => ("PeriscopeTrainModel$State", "offset", "[I", true)
  | 3 => ("PeriscopeTrainModel$State", "row", "[I", true)
  | 4 => ("PeriscopeTrainModel$State", "job", "[I", true)
  | 5 => ("PeriscopeTrainModel$State", "jobMirror", "[I", true)
  | 6 => ("PeriscopeTrainModel$State", "jobs", "I", false)
  | 7 => ("PeriscopeTrainModel$State", "toGo", "I", false)
  | 8 => ("PeriscopeTrainModel$State", "minutes", "I", false)
  | _ => ("PeriscopeTrainModel$State", "done", "I", false)
def tyX9 : Nat → FieldType := fun k => match k with
  | 0 => .array .int
  | 1 => .array .int
  | 2 => .array .int
  | 3 => .array .int
  | 4 => .array .int
  | 5 => .array .int
  | 6 => .int
  | 7 => .int
  | 8 => .int
  | _ => .int
theorem nmX9 : ∀ a, a < 10 → ∀ b, b < 10 → a ≠ b → (TX9 a).2.1 ≠ (TX9 b).2.1 := by decide +kernel
theorem tyX9_ok : ∀ k, k < 10 → parseFieldDescriptor (TX9 k).2.2.1 = some (tyX9 k) := by decide +kernel
abbrev cX9_init : ByteArray := prog_12_method_1_code
def yX9_init : MethodName := ⟨RX9, "<init>", "()V"⟩
abbrev cX9_become : ByteArray := prog_12_method_2_code
def yX9_become : MethodName := ⟨RX9, "become", "(LPeriscopeTrainModel$State;)V"⟩
abbrev cX9_begin : ByteArray := prog_12_method_3_code
def yX9_begin : MethodName := ⟨RX9, "begin", "(LPeriscopeTrainModel$Told;)V"⟩
abbrev cX9_isCovered : ByteArray := prog_12_method_4_code
def yX9_isCovered : MethodName := ⟨RX9, "isCovered", "(I)Z"⟩
abbrev cX9_find : ByteArray := prog_12_method_5_code
def yX9_find : MethodName := ⟨RX9, "find", "(II)I"⟩
abbrev cX9_order : ByteArray := prog_12_method_6_code
def yX9_order : MethodName := ⟨RX9, "order", "(II)Z"⟩
abbrev cX9_take : ByteArray := prog_12_method_7_code
def yX9_take : MethodName := ⟨RX9, "take", "(I)I"⟩
abbrev cX9_clean : ByteArray := prog_12_method_8_code
def yX9_clean : MethodName := ⟨RX9, "clean", "(I)V"⟩
abbrev cX9_takes : ByteArray := prog_12_method_9_code
def yX9_takes : MethodName := ⟨RX9, "takes", "()I"⟩
abbrev cX9_works : ByteArray := prog_12_method_10_code
def yX9_works : MethodName := ⟨RX9, "works", "()Z"⟩
def RX10 : String := "PeriscopeTrainModel$Told"
def TX10 : u_T := fun k => match k with
  | 0 => ("PeriscopeTrainModel$Told", "mirrors", "I", false)
  | 1 => ("PeriscopeTrainModel$Told", "width", "I", false)
  | 2 => ("PeriscopeTrainModel$Told", "limit", "I", false)
  | 3 => ("PeriscopeTrainModel$Told", "clarity", "[I", true)
  | 4 => ("PeriscopeTrainModel$Told", "offset", "[I", true)
  | 5 => ("PeriscopeTrainModel$Told", "orders", "I", false)
  | 6 => ("PeriscopeTrainModel$Told", "does", "[I", true)
  | 7 => ("PeriscopeTrainModel$Told", "mirror", "[I", true)
  | 8 => ("PeriscopeTrainModel$Told", "from", "[I", true)
  | 9 => ("PeriscopeTrainModel$Told", "to", "[I", true)
  | 10 => ("PeriscopeTrainModel$Told", "sum", "[I", true)
  | 11 => ("PeriscopeTrainModel$Told", "test", "[I", true)
  | 12 => ("PeriscopeTrainModel$Told", "nodes", "I", false)
  | 13 => ("PeriscopeTrainModel$Told", "sort", "[I", true)
  | 14 => ("PeriscopeTrainModel$Told", "left", "[I", true)
  | _ => ("PeriscopeTrainModel$Told", "right", "[I", true)
def tyX10 : Nat → FieldType := fun k => match k with
  | 0 => .int
  | 1 => .int
  | 2 => .int
  | 3 => .array .int
  | 4 => .array .int
  | 5 => .int
  | 6 => .array .int
  | 7 => .array .int
  | 8 => .array .int
  | 9 => .array .int
  | 10 => .array .int
  | 11 => .array .int
  | 12 => .int
  | 13 => .array .int
  | 14 => .array .int
  | _ => .array .int
theorem nmX10 : ∀ a, a < 16 → ∀ b, b < 16 → a ≠ b → (TX10 a).2.1 ≠ (TX10 b).2.1 := by decide +kernel
theorem tyX10_ok : ∀ k, k < 16 → parseFieldDescriptor (TX10 k).2.2.1 = some (tyX10 k) := by decide +kernel
abbrev cX10_init : ByteArray := prog_13_method_1_code
def yX10_init : MethodName := ⟨RX10, "<init>", "()V"⟩
abbrev cX10_begin : ByteArray := prog_13_method_2_code
def yX10_begin : MethodName := ⟨RX10, "begin", "()V"⟩
abbrev cX10_copy : ByteArray := prog_13_method_3_code
def yX10_copy : MethodName := ⟨RX10, "copy", "([I[I)V"⟩
abbrev cX10_become : ByteArray := prog_13_method_4_code
def yX10_become : MethodName := ⟨RX10, "become", "(LPeriscopeTrainModel$Told;)V"⟩
def RX11 : String := "PeriscopeTrainModel"
def TX11 : u_T := fun k => match k with
  | 0 => ("PeriscopeTrainModel", "thrown", "I", false)
  | 1 => ("PeriscopeTrainModel", "tape", "[I", true)
  | 2 => ("PeriscopeTrainModel", "bytes", "I", false)
  | 3 => ("PeriscopeTrainModel", "errorAt", "I", false)
  | 4 => ("PeriscopeTrainModel", "kind", "[I", true)
  | 5 => ("PeriscopeTrainModel", "number", "[I", true)
  | 6 => ("PeriscopeTrainModel", "position", "[I", true)
  | 7 => ("PeriscopeTrainModel", "length", "[I", true)
  | 8 => ("PeriscopeTrainModel", "token", "I", false)
  | 9 => ("PeriscopeTrainModel", "isWrong", "Z", false)
  | 10 => ("PeriscopeTrainModel", "error", "I", false)
  | 11 => ("PeriscopeTrainModel", "errorToken", "I", false)
  | 12 => ("PeriscopeTrainModel", "deep", "I", false)
  | 13 => ("PeriscopeTrainModel", "named", "[I", true)
  | 14 => ("PeriscopeTrainModel", "told", "LPeriscopeTrainModel$Told;", true)
  | 15 => ("PeriscopeTrainModel", "fresh", "LPeriscopeTrainModel$Told;", true)
  | 16 => ("PeriscopeTrainModel", "value", "[I", true)
  | 17 => ("PeriscopeTrainModel", "now", "LPeriscopeTrainModel$State;", true)
  | 18 => ("PeriscopeTrainModel", "ahead", "LPeriscopeTrainModel$State;", true)
  | 19 => ("PeriscopeTrainModel", "comes", "[I", true)
  | 20 => ("PeriscopeTrainModel", "behind", "[I", true)
  | 21 => ("PeriscopeTrainModel", "tilt", "[I", true)
  | 22 => ("PeriscopeTrainModel", "endLight", "I", false)
  | _ => ("PeriscopeTrainModel", "endTilt", "I", false)
def tyX11 : Nat → FieldType := fun k => match k with
  | 0 => .int
  | 1 => .array .int
  | 2 => .int
  | 3 => .int
  | 4 => .array .int
  | 5 => .array .int
  | 6 => .array .int
  | 7 => .array .int
  | 8 => .int
  | 9 => .boolean
  | 10 => .int
  | 11 => .int
  | 12 => .int
  | 13 => .array .int
  | 14 => .object "PeriscopeTrainModel$Told"
  | 15 => .object "PeriscopeTrainModel$Told"
  | 16 => .array .int
  | 17 => .object "PeriscopeTrainModel$State"
  | 18 => .object "PeriscopeTrainModel$State"
  | 19 => .array .int
  | 20 => .array .int
  | 21 => .array .int
  | 22 => .int
  | _ => .int
theorem nmX11 : ∀ a, a < 24 → ∀ b, b < 24 → a ≠ b → (TX11 a).2.1 ≠ (TX11 b).2.1 := by decide +kernel
theorem tyX11_ok : ∀ k, k < 24 → parseFieldDescriptor (TX11 k).2.2.1 = some (tyX11 k) := by decide +kernel
abbrev cX11_init : ByteArray := prog_11_method_1_code
def yX11_init : MethodName := ⟨RX11, "<init>", "()V"⟩
abbrev cX11_thrown : ByteArray := prog_11_method_2_code
def yX11_thrown : MethodName := ⟨RX11, "thrown", "()I"⟩
abbrev cX11_no : ByteArray := prog_11_method_3_code
def yX11_no : MethodName := ⟨RX11, "no", "(I)I"⟩
abbrev cX11_ok : ByteArray := prog_11_method_5_code
def yX11_ok : MethodName := ⟨RX11, "ok", "(I)I"⟩
abbrev cX11_isIn : ByteArray := prog_11_method_6_code
def yX11_isIn : MethodName := ⟨RX11, "isIn", "(III)Z"⟩
abbrev cX11_isLetter : ByteArray := prog_11_method_7_code
def yX11_isLetter : MethodName := ⟨RX11, "isLetter", "(I)Z"⟩
abbrev cX11_isDigit : ByteArray := prog_11_method_8_code
def yX11_isDigit : MethodName := ⟨RX11, "isDigit", "(I)Z"⟩
abbrev cX11_byteAt : ByteArray := prog_11_method_9_code
def yX11_byteAt : MethodName := ⟨RX11, "byteAt", "(I)I"⟩
abbrev cX11_isWord : ByteArray := prog_11_method_10_code
def yX11_isWord : MethodName := ⟨RX11, "isWord", "(IILjava/lang/String;)Z"⟩
abbrev cX11_keyword : ByteArray := prog_11_method_11_code
def yX11_keyword : MethodName := ⟨RX11, "keyword", "(II)I"⟩
abbrev cX11_symbol : ByteArray := prog_11_method_12_code
def yX11_symbol : MethodName := ⟨RX11, "symbol", "(I)I"⟩
abbrev cX11_read : ByteArray := prog_11_method_13_code
def yX11_read : MethodName := ⟨RX11, "read", "(II)I"⟩
abbrev cX11_skip : ByteArray := prog_11_method_14_code
def yX11_skip : MethodName := ⟨RX11, "skip", "(I)I"⟩
abbrev cX11_readAll : ByteArray := prog_11_method_15_code
def yX11_readAll : MethodName := ⟨RX11, "readAll", "()V"⟩
abbrev cX11_is : ByteArray := prog_11_method_16_code
def yX11_is : MethodName := ⟨RX11, "is", "(I)Z"⟩
abbrev cX11_wrong : ByteArray := prog_11_method_17_code
def yX11_wrong : MethodName := ⟨RX11, "wrong", "()V"⟩
abbrev cX11_take : ByteArray := prog_11_method_18_code
def yX11_take : MethodName := ⟨RX11, "take", "(I)V"⟩
abbrev cX11_takes : ByteArray := prog_11_method_19_code
def yX11_takes : MethodName := ⟨RX11, "takes", "(I)Z"⟩
abbrev cX11_deeper : ByteArray := prog_11_method_20_code
def yX11_deeper : MethodName := ⟨RX11, "deeper", "()V"⟩
abbrev cX11_mark : ByteArray := prog_11_method_21_code
def yX11_mark : MethodName := ⟨RX11, "mark", "(I)V"⟩
abbrev cX11_node : ByteArray := prog_11_method_22_code
def yX11_node : MethodName := ⟨RX11, "node", "(III)I"⟩
abbrev cX11_isSameName : ByteArray := prog_11_method_23_code
def yX11_isSameName : MethodName := ⟨RX11, "isSameName", "(II)Z"⟩
abbrev cX11_known : ByteArray := prog_11_method_24_code
def yX11_known : MethodName := ⟨RX11, "known", "()I"⟩
abbrev cX11_name : ByteArray := prog_11_method_25_code
def yX11_name : MethodName := ⟨RX11, "name", "()I"⟩
abbrev cX11_inBrackets : ByteArray := prog_11_method_26_code
def yX11_inBrackets : MethodName := ⟨RX11, "inBrackets", "()I"⟩
abbrev cX11_ofTwo : ByteArray := prog_11_method_27_code
def yX11_ofTwo : MethodName := ⟨RX11, "ofTwo", "(I)I"⟩
abbrev cX11_isMeasure : ByteArray := prog_11_method_28_code
def yX11_isMeasure : MethodName := ⟨RX11, "isMeasure", "()Z"⟩
abbrev cX11_measure : ByteArray := prog_11_method_29_code
def yX11_measure : MethodName := ⟨RX11, "measure", "()I"⟩
abbrev cX11_value : ByteArray := prog_11_method_30_code
def yX11_value : MethodName := ⟨RX11, "value", "()I"⟩
abbrev cX11_product : ByteArray := prog_11_method_31_code
def yX11_product : MethodName := ⟨RX11, "product", "()I"⟩
abbrev cX11_sum : ByteArray := prog_11_method_32_code
def yX11_sum : MethodName := ⟨RX11, "sum", "()I"⟩
abbrev cX11_comparison : ByteArray := prog_11_method_33_code
def yX11_comparison : MethodName := ⟨RX11, "comparison", "()I"⟩
abbrev cX11_single : ByteArray := prog_11_method_34_code
def yX11_single : MethodName := ⟨RX11, "single", "()I"⟩
abbrev cX11_both : ByteArray := prog_11_method_35_code
def yX11_both : MethodName := ⟨RX11, "both", "()I"⟩
abbrev cX11_test : ByteArray := prog_11_method_36_code
def yX11_test : MethodName := ⟨RX11, "test", "()I"⟩
abbrev cX11_numberTo : ByteArray := prog_11_method_37_code
def yX11_numberTo : MethodName := ⟨RX11, "numberTo", "(I)I"⟩
abbrev cX11_mirror : ByteArray := prog_11_method_38_code
def yX11_mirror : MethodName := ⟨RX11, "mirror", "()V"⟩
abbrev cX11_order : ByteArray := prog_11_method_39_code
def yX11_order : MethodName := ⟨RX11, "order", "(I)V"⟩
abbrev cX11_line : ByteArray := prog_11_method_40_code
def yX11_line : MethodName := ⟨RX11, "line", "()V"⟩
abbrev cX11_train : ByteArray := prog_11_method_41_code
def yX11_train : MethodName := ⟨RX11, "train", "()V"⟩
abbrev cX11_feed : ByteArray := prog_11_method_42_code
def yX11_feed : MethodName := ⟨RX11, "feed", "(IIIII)I"⟩
abbrev cX11_trim : ByteArray := prog_11_method_43_code
def yX11_trim : MethodName := ⟨RX11, "trim", "(I)I"⟩
abbrev cX11_teach : ByteArray := prog_11_method_44_code
def yX11_teach : MethodName := ⟨RX11, "teach", "()I"⟩
abbrev cX11_errorAt : ByteArray := prog_11_method_45_code
def yX11_errorAt : MethodName := ⟨RX11, "errorAt", "()I"⟩
abbrev cX11_isWide : ByteArray := prog_11_method_46_code
def yX11_isWide : MethodName := ⟨RX11, "isWide", "(I)Z"⟩
abbrev cX11_shine : ByteArray := prog_11_method_47_code
def yX11_shine : MethodName := ⟨RX11, "shine", "(LPeriscopeTrainModel$State;)V"⟩
abbrev cX11_light : ByteArray := prog_11_method_48_code
def yX11_light : MethodName := ⟨RX11, "light", "(LPeriscopeTrainModel$State;)I"⟩
abbrev cX11_seen : ByteArray := prog_11_method_49_code
def yX11_seen : MethodName := ⟨RX11, "seen", "(LPeriscopeTrainModel$State;)Z"⟩
abbrev cX11_reckon : ByteArray := prog_11_method_50_code
def yX11_reckon : MethodName := ⟨RX11, "reckon", "(LPeriscopeTrainModel$State;III)I"⟩
abbrev cX11_joined : ByteArray := prog_11_method_51_code
def yX11_joined : MethodName := ⟨RX11, "joined", "(III)I"⟩
abbrev cX11_held : ByteArray := prog_11_method_52_code
def yX11_held : MethodName := ⟨RX11, "held", "(JII)I"⟩
abbrev cX11_carryOut : ByteArray := prog_11_method_53_code
def yX11_carryOut : MethodName := ⟨RX11, "carryOut", "(LPeriscopeTrainModel$State;I)V"⟩
abbrev cX11_pass : ByteArray := prog_11_method_54_code
def yX11_pass : MethodName := ⟨RX11, "pass", "(LPeriscopeTrainModel$State;)Z"⟩
abbrev cX11_mirrors : ByteArray := prog_11_method_55_code
def yX11_mirrors : MethodName := ⟨RX11, "mirrors", "()I"⟩
abbrev cX11_orders : ByteArray := prog_11_method_56_code
def yX11_orders : MethodName := ⟨RX11, "orders", "()I"⟩
abbrev cX11_minutes : ByteArray := prog_11_method_57_code
def yX11_minutes : MethodName := ⟨RX11, "minutes", "()I"⟩
abbrev cX11_tapeBytes : ByteArray := prog_11_method_58_code
def yX11_tapeBytes : MethodName := ⟨RX11, "tapeBytes", "()I"⟩
abbrev cX11_lightAtEnd : ByteArray := prog_11_method_59_code
def yX11_lightAtEnd : MethodName := ⟨RX11, "lightAtEnd", "()I"⟩
abbrev cX11_tiltAtEnd : ByteArray := prog_11_method_60_code
def yX11_tiltAtEnd : MethodName := ⟨RX11, "tiltAtEnd", "()I"⟩
abbrev cX11_isSeen : ByteArray := prog_11_method_61_code
def yX11_isSeen : MethodName := ⟨RX11, "isSeen", "()Z"⟩
abbrev cX11_worstMirror : ByteArray := prog_11_method_62_code
def yX11_worstMirror : MethodName := ⟨RX11, "worstMirror", "()I"⟩
abbrev cX11_isMirror : ByteArray := prog_11_method_63_code
def yX11_isMirror : MethodName := ⟨RX11, "isMirror", "(I)Z"⟩
abbrev cX11_clarityOf : ByteArray := prog_11_method_64_code
def yX11_clarityOf : MethodName := ⟨RX11, "clarityOf", "(I)I"⟩
abbrev cX11_bestClarityOf : ByteArray := prog_11_method_65_code
def yX11_bestClarityOf : MethodName := ⟨RX11, "bestClarityOf", "(I)I"⟩
abbrev cX11_offsetOf : ByteArray := prog_11_method_66_code
def yX11_offsetOf : MethodName := ⟨RX11, "offsetOf", "(I)I"⟩
abbrev cX11_place : ByteArray := prog_11_method_67_code
def yX11_place : MethodName := ⟨RX11, "place", "(I)I"⟩
abbrev cX11_placeOf : ByteArray := prog_11_method_68_code
def yX11_placeOf : MethodName := ⟨RX11, "placeOf", "(I)I"⟩
abbrev cX11_lightBehind : ByteArray := prog_11_method_69_code
def yX11_lightBehind : MethodName := ⟨RX11, "lightBehind", "(I)I"⟩
abbrev cX11_lostAt : ByteArray := prog_11_method_70_code
def yX11_lostAt : MethodName := ⟨RX11, "lostAt", "(I)I"⟩
abbrev cX11_tiltBehind : ByteArray := prog_11_method_71_code
def yX11_tiltBehind : MethodName := ⟨RX11, "tiltBehind", "(I)I"⟩
abbrev cX11_isCovered : ByteArray := prog_11_method_72_code
def yX11_isCovered : MethodName := ⟨RX11, "isCovered", "(I)Z"⟩
abbrev cX11_mirrorAt : ByteArray := prog_11_method_73_code
def yX11_mirrorAt : MethodName := ⟨RX11, "mirrorAt", "(I)I"⟩
abbrev cX11_isJob : ByteArray := prog_11_method_74_code
def yX11_isJob : MethodName := ⟨RX11, "isJob", "(I)Z"⟩
abbrev cX11_jobs : ByteArray := prog_11_method_75_code
def yX11_jobs : MethodName := ⟨RX11, "jobs", "()I"⟩
abbrev cX11_jobsDone : ByteArray := prog_11_method_76_code
def yX11_jobsDone : MethodName := ⟨RX11, "jobsDone", "()I"⟩
abbrev cX11_kindOfJob : ByteArray := prog_11_method_77_code
def yX11_kindOfJob : MethodName := ⟨RX11, "kindOfJob", "(I)I"⟩
abbrev cX11_mirrorOfJob : ByteArray := prog_11_method_78_code
def yX11_mirrorOfJob : MethodName := ⟨RX11, "mirrorOfJob", "(I)I"⟩
abbrev cX11_minutesToGo : ByteArray := prog_11_method_79_code
def yX11_minutesToGo : MethodName := ⟨RX11, "minutesToGo", "()I"⟩
abbrev cX11_orderJob : ByteArray := prog_11_method_80_code
def yX11_orderJob : MethodName := ⟨RX11, "orderJob", "(II)I"⟩
abbrev cX11_cancelJob : ByteArray := prog_11_method_81_code
def yX11_cancelJob : MethodName := ⟨RX11, "cancelJob", "(I)I"⟩
abbrev cX11_turnMirror : ByteArray := prog_11_method_82_code
def yX11_turnMirror : MethodName := ⟨RX11, "turnMirror", "(II)I"⟩
abbrev cX11_dustMirror : ByteArray := prog_11_method_83_code
def yX11_dustMirror : MethodName := ⟨RX11, "dustMirror", "(II)I"⟩
abbrev cX11_moveMirror : ByteArray := prog_11_method_84_code
def yX11_moveMirror : MethodName := ⟨RX11, "moveMirror", "(II)I"⟩
abbrev cX11_passMinutes : ByteArray := prog_11_method_85_code
def yX11_passMinutes : MethodName := ⟨RX11, "passMinutes", "(I)I"⟩
abbrev cX11_lightAfter : ByteArray := prog_11_method_86_code
def yX11_lightAfter : MethodName := ⟨RX11, "lightAfter", "(I)I"⟩
abbrev cX11_minutesUntilSeen : ByteArray := prog_11_method_87_code
def yX11_minutesUntilSeen : MethodName := ⟨RX11, "minutesUntilSeen", "()I"⟩
abbrev cX11_minutesUntilDone : ByteArray := prog_11_method_88_code
def yX11_minutesUntilDone : MethodName := ⟨RX11, "minutesUntilDone", "(I)I"⟩
abbrev cX11_bestToClean : ByteArray := prog_11_method_89_code
def yX11_bestToClean : MethodName := ⟨RX11, "bestToClean", "()I"⟩
abbrev cX11_bestOffset : ByteArray := prog_11_method_90_code
def yX11_bestOffset : MethodName := ⟨RX11, "bestOffset", "(I)I"⟩
abbrev cX11_meanClarity : ByteArray := prog_11_method_91_code
def yX11_meanClarity : MethodName := ⟨RX11, "meanClarity", "()D"⟩
abbrev cX11_digest : ByteArray := prog_11_method_92_code
def yX11_digest : MethodName := ⟨RX11, "digest", "()J"⟩
def RJ11 : String := "java/lang/Character"
abbrev cJ11_isValidCodePoint_9a6ad : ByteArray := prog_14_method_11_code
def yJ11_isValidCodePoint_9a6ad : MethodName := ⟨RJ11, "isValidCodePoint", "(I)Z"⟩
abbrev cJ11_highSurrogate_5068e : ByteArray := prog_14_method_28_code
def yJ11_highSurrogate_5068e : MethodName := ⟨RJ11, "highSurrogate", "(I)C"⟩
abbrev cJ11_lowSurrogate_5068e : ByteArray := prog_14_method_29_code
def yJ11_lowSurrogate_5068e : MethodName := ⟨RJ11, "lowSurrogate", "(I)C"⟩
def RJ9 : String := "java/lang/Math"
abbrev cJ9_abs_0f7a4 : ByteArray := prog_19_method_59_code
def yJ9_abs_0f7a4 : MethodName := ⟨RJ9, "abs", "(I)I"⟩
abbrev cJ9_max_7cf53 : ByteArray := prog_19_method_65_code
def yJ9_max_7cf53 : MethodName := ⟨RJ9, "max", "(II)I"⟩
abbrev cJ9_max_f86c9 : ByteArray := prog_19_method_66_code
def yJ9_max_f86c9 : MethodName := ⟨RJ9, "max", "(JJ)J"⟩
abbrev cJ9_min_7cf53 : ByteArray := prog_19_method_69_code
def yJ9_min_7cf53 : MethodName := ⟨RJ9, "min", "(II)I"⟩
abbrev cJ9_min_f86c9 : ByteArray := prog_19_method_70_code
def yJ9_min_f86c9 : MethodName := ⟨RJ9, "min", "(JJ)J"⟩
def RJ0 : String := "java/lang/String"
abbrev cJ0_length_8abf5 : ByteArray := prog_21_method_54_code
def yJ0_length_8abf5 : MethodName := ⟨RJ0, "length", "()I"⟩
abbrev cJ0_charAt_5068e : ByteArray := prog_21_method_56_code
def yJ0_charAt_5068e : MethodName := ⟨RJ0, "charAt", "(I)C"⟩
abbrev cJ0_indexOf_0f7a4 : ByteArray := prog_21_method_79_code
def yJ0_indexOf_0f7a4 : MethodName := ⟨RJ0, "indexOf", "(I)I"⟩
abbrev cJ0_indexOf_7cf53 : ByteArray := prog_21_method_80_code
def yJ0_indexOf_7cf53 : MethodName := ⟨RJ0, "indexOf", "(II)I"⟩
abbrev cJ0_coder_7d493 : ByteArray := prog_21_method_152_code
def yJ0_coder_7d493 : MethodName := ⟨RJ0, "coder", "()B"⟩
abbrev cJ0_isLatin1_aae02 : ByteArray := prog_21_method_154_code
def yJ0_isLatin1_aae02 : MethodName := ⟨RJ0, "isLatin1", "()Z"⟩
abbrev cJ0_checkIndex_df160 : ByteArray := prog_21_method_155_code
def yJ0_checkIndex_df160 : MethodName := ⟨RJ0, "checkIndex", "(II)V"⟩
abbrev cJ0_checkBoundsBeginEnd_23922 : ByteArray := prog_21_method_158_code
def yJ0_checkBoundsBeginEnd_23922 : MethodName := ⟨RJ0, "checkBoundsBeginEnd", "(III)V"⟩
def RJ1 : String := "java/lang/StringLatin1"
abbrev cJ1_charAt_3b067 : ByteArray := prog_22_method_2_code
def yJ1_charAt_3b067 : MethodName := ⟨RJ1, "charAt", "([BI)C"⟩
abbrev cJ1_canEncode_9a6ad : ByteArray := prog_22_method_4_code
def yJ1_canEncode_9a6ad : MethodName := ⟨RJ1, "canEncode", "(I)Z"⟩
abbrev cJ1_indexOf_4cfef : ByteArray := prog_22_method_22_code
def yJ1_indexOf_4cfef : MethodName := ⟨RJ1, "indexOf", "([BIII)I"⟩
abbrev cJ1_indexOfChar_4cfef : ByteArray := prog_22_method_23_code
def yJ1_indexOfChar_4cfef : MethodName := ⟨RJ1, "indexOfChar", "([BIII)I"⟩
def RJ2 : String := "java/lang/StringUTF16"
abbrev cJ2_getChar_3b067 : ByteArray := prog_23_method_5_code
def yJ2_getChar_3b067 : MethodName := ⟨RJ2, "getChar", "([BI)C"⟩
abbrev cJ2_length_9d52b : ByteArray := prog_23_method_6_code
def yJ2_length_9d52b : MethodName := ⟨RJ2, "length", "([B)I"⟩
abbrev cJ2_indexOf_4cfef : ByteArray := prog_23_method_40_code
def yJ2_indexOf_4cfef : MethodName := ⟨RJ2, "indexOf", "([BIII)I"⟩
abbrev cJ2_indexOfChar_4cfef : ByteArray := prog_23_method_47_code
def yJ2_indexOfChar_4cfef : MethodName := ⟨RJ2, "indexOfChar", "([BIII)I"⟩
abbrev cJ2_indexOfCharUnsafe_4cfef : ByteArray := prog_23_method_48_code
def yJ2_indexOfCharUnsafe_4cfef : MethodName := ⟨RJ2, "indexOfCharUnsafe", "([BIII)I"⟩
abbrev cJ2_indexOfSupplementary_4cfef : ByteArray := prog_23_method_49_code
def yJ2_indexOfSupplementary_4cfef : MethodName := ⟨RJ2, "indexOfSupplementary", "([BIII)I"⟩
abbrev cJ2_charAt_3b067 : ByteArray := prog_23_method_83_code
def yJ2_charAt_3b067 : MethodName := ⟨RJ2, "charAt", "([BI)C"⟩
abbrev cJ2_checkIndex_2214a : ByteArray := prog_23_method_91_code
def yJ2_checkIndex_2214a : MethodName := ⟨RJ2, "checkIndex", "(I[B)V"⟩
abbrev cJ2_checkBoundsBeginEnd_d044e : ByteArray := prog_23_method_93_code
def yJ2_checkBoundsBeginEnd_d044e : MethodName := ⟨RJ2, "checkBoundsBeginEnd", "(II[B)V"⟩
def RJ10 : String := "java/lang/System"
def RJ3 : String := "jdk/internal/util/Preconditions"
abbrev cJ3_checkIndex_8e157 : ByteArray := prog_26_method_11_code
def yJ3_checkIndex_8e157 : MethodName := ⟨RJ3, "checkIndex", "(IILjava/util/function/BiFunction;)I"⟩
abbrev cJ3_checkFromToIndex_8c36e : ByteArray := prog_26_method_12_code
def yJ3_checkFromToIndex_8c36e : MethodName := ⟨RJ3, "checkFromToIndex", "(IIILjava/util/function/BiFunction;)I"⟩
def RL : String := "PeriscopeTrainLaw"
abbrev cL_feed : ByteArray := method_3_code
def yL_feed : MethodName := ⟨RL, "feed", "(LPeriscopeTrain;IIIII[J)I"⟩
abbrev cL_trim : ByteArray := method_4_code
def yL_trim : MethodName := ⟨RL, "trim", "(LPeriscopeTrain;I[J)I"⟩
abbrev cL_worstMirror : ByteArray := method_5_code
def yL_worstMirror : MethodName := ⟨RL, "worstMirror", "(LPeriscopeTrain;[J)I"⟩
abbrev cL_clarityOf : ByteArray := method_6_code
def yL_clarityOf : MethodName := ⟨RL, "clarityOf", "(LPeriscopeTrain;I[J)I"⟩
abbrev cL_bestClarityOf : ByteArray := method_7_code
def yL_bestClarityOf : MethodName := ⟨RL, "bestClarityOf", "(LPeriscopeTrain;I[J)I"⟩
abbrev cL_offsetOf : ByteArray := method_8_code
def yL_offsetOf : MethodName := ⟨RL, "offsetOf", "(LPeriscopeTrain;I[J)I"⟩
abbrev cL_placeOf : ByteArray := method_9_code
def yL_placeOf : MethodName := ⟨RL, "placeOf", "(LPeriscopeTrain;I[J)I"⟩
abbrev cL_lightBehind : ByteArray := method_10_code
def yL_lightBehind : MethodName := ⟨RL, "lightBehind", "(LPeriscopeTrain;I[J)I"⟩
abbrev cL_lostAt : ByteArray := method_11_code
def yL_lostAt : MethodName := ⟨RL, "lostAt", "(LPeriscopeTrain;I[J)I"⟩
abbrev cL_tiltBehind : ByteArray := method_12_code
def yL_tiltBehind : MethodName := ⟨RL, "tiltBehind", "(LPeriscopeTrain;I[J)I"⟩
abbrev cL_isCovered : ByteArray := method_13_code
def yL_isCovered : MethodName := ⟨RL, "isCovered", "(LPeriscopeTrain;I[J)I"⟩
abbrev cL_mirrorAt : ByteArray := method_14_code
def yL_mirrorAt : MethodName := ⟨RL, "mirrorAt", "(LPeriscopeTrain;I[J)I"⟩
abbrev cL_kindOfJob : ByteArray := method_15_code
def yL_kindOfJob : MethodName := ⟨RL, "kindOfJob", "(LPeriscopeTrain;I[J)I"⟩
abbrev cL_mirrorOfJob : ByteArray := method_16_code
def yL_mirrorOfJob : MethodName := ⟨RL, "mirrorOfJob", "(LPeriscopeTrain;I[J)I"⟩
abbrev cL_orderJob : ByteArray := method_17_code
def yL_orderJob : MethodName := ⟨RL, "orderJob", "(LPeriscopeTrain;II[J)I"⟩
abbrev cL_cancelJob : ByteArray := method_18_code
def yL_cancelJob : MethodName := ⟨RL, "cancelJob", "(LPeriscopeTrain;I[J)I"⟩
abbrev cL_turnMirror : ByteArray := method_19_code
def yL_turnMirror : MethodName := ⟨RL, "turnMirror", "(LPeriscopeTrain;II[J)I"⟩
abbrev cL_dustMirror : ByteArray := method_20_code
def yL_dustMirror : MethodName := ⟨RL, "dustMirror", "(LPeriscopeTrain;II[J)I"⟩
abbrev cL_moveMirror : ByteArray := method_21_code
def yL_moveMirror : MethodName := ⟨RL, "moveMirror", "(LPeriscopeTrain;II[J)I"⟩
abbrev cL_passMinutes : ByteArray := method_22_code
def yL_passMinutes : MethodName := ⟨RL, "passMinutes", "(LPeriscopeTrain;I[J)I"⟩
abbrev cL_lightAfter : ByteArray := method_23_code
def yL_lightAfter : MethodName := ⟨RL, "lightAfter", "(LPeriscopeTrain;I[J)I"⟩
abbrev cL_minutesUntilDone : ByteArray := method_24_code
def yL_minutesUntilDone : MethodName := ⟨RL, "minutesUntilDone", "(LPeriscopeTrain;I[J)I"⟩
abbrev cL_bestOffset : ByteArray := method_25_code
def yL_bestOffset : MethodName := ⟨RL, "bestOffset", "(LPeriscopeTrain;I[J)I"⟩
abbrev cL_law : ByteArray := code
def yL_law : MethodName := ⟨RL, "law", "([I)Z"⟩
abbrev vwCl : List vw_C := [(RX0, TX0, 3), (RX1, TX1, 5), (RX2, TX2, 9), (RX3, TX3, 5), (RX4, TX4, 14), (RX5, TX5, 2), (RX6, TX6, 6), (RX7, TX7, 6), (RX8, TX8, 9), (RX9, TX9, 10), (RX10, TX10, 16), (RX11, TX11, 24)]
end
section
/-! the words that every contract may use: all good words of the tables -/
def TB : List Cond := lw_tbl.filter goodWord
def isNest : Cond → Bool
  | .fieldLinkNest _ _ _ _ _ _ => true
  | .methodLinkNest _ _ _ _ => true
  | _ => false
def NB : List Cond := tables_1.filter isNest
theorem mTB {w : Cond} (h : (decide (w ∈ lw_tbl) && goodWord w) = true) : w ∈ TB := by
  simp only [Bool.and_eq_true, decide_eq_true_eq] at h
  exact List.mem_filter.mpr h
theorem mNB {w : Cond} (h : (decide (w ∈ tables_1) && isNest w) = true) : w ∈ NB := by
  simp only [Bool.and_eq_true, decide_eq_true_eq] at h
  exact List.mem_filter.mpr h
theorem goodTB {w : Cond} (h : w ∈ TB) : goodWord w = true := (List.mem_filter.mp h).2
theorem gTB : GoodIn TB TB := fun _ h => ⟨h, good_of_word (goodTB h)⟩
theorem nestNB {w : Cond} (h : w ∈ NB) : isNest w = true := (List.mem_filter.mp h).2
theorem Nw_warm {w : Cond} {s U : State} (hW : s.WarmedH U.vm) (h : w ∈ NB) (hZ : va_Nw w s) : va_Nw w U := by
  have hn := nestNB h
  cases w <;> first | exact va_Nw.warmF hW hZ | exact va_Nw.warmM hW hZ | cases hn
theorem Nw_same {w : Cond} {u U : State} (hv : u.vm = U.vm) (h : w ∈ NB) (hZ : va_Nw w u) : va_Nw w U := by
  have hn := nestNB h
  cases w <;> first | exact va_Nw.same rfl hv hZ | cases hn
def wz (y : MethodName) (c : ByteArray) (n : Nat) (r : Option FieldType) : List Cond := Cond.code y c n r :: TB
theorem gwz {y : MethodName} {c : ByteArray} {n : Nat} {r : Option FieldType} (h : Cond.code y c n r ∈ TB) : GoodIn TB (wz y c n r) := fun w hw => by
  rcases List.mem_cons.mp hw with rfl | hw
  · exact gTB _ h
  · exact gTB _ hw
/-! the layout: 96 cells; kd: what lies where (below 12: an object of that class; 100000 + n: an int array of n; 200000 + n: a byte array of n) -/
abbrev NC : Nat := 96
def kdL : List Nat := [8, 5, 202000, 6, 100401, 100401, 100401, 100401, 2, 100010, 100010, 100400, 100400, 0, 1, 100010, 2, 100010, 100010, 100400, 100400, 7, 4, 100010, 100010, 100010, 100010, 100010, 100010, 100010, 3, 100012, 100012, 100400, 7, 4, 100010, 100010, 100010, 100010, 100010, 100010, 100010, 3, 100012, 100012, 100400, 11, 102000, 100402, 100402, 100402, 100402, 100010, 10, 100011, 100011, 100017, 100017, 100017, 100017, 100017, 100017, 100800, 100800, 100800, 10, 100011, 100011, 100017, 100017, 100017, 100017, 100017, 100017, 100800, 100800, 100800, 100800, 9, 100010, 100010, 100010, 100010, 100012, 100012, 9, 100010, 100010, 100010, 100010, 100012, 100012, 100010, 100010, 100010]
def kd (i : Nat) : Nat := kdL.getD i 999999
/-- slots: 0 a number; 1000 + d the cell d places on; 2000 + j the cell j -/
def skL : List (List Nat) := [[2003, 2008, 0], [2001, 2003, 2008, 2015, 0], [1001, 1002, 1003, 1004, 0, 0, 0, 0, 0], [1001, 1002, 0, 0, 0], [1001, 1002, 1003, 1004, 1005, 1006, 1007, 0, 0, 0, 0, 0, 0, 0], [2002, 0], [2001, 2004, 2005, 2006, 2007, 0], [2016, 1001, 1009, 1012, 0, 0], [2001, 2003, 2013, 2014, 2008, 2016, 2021, 2034, 0], [1001, 1002, 1003, 1004, 1005, 1006, 0, 0, 0, 0], [0, 0, 0, 1001, 1002, 0, 1003, 1004, 1005, 1006, 1007, 1008, 0, 1009, 1010, 1011], [0, 2048, 0, 0, 2049, 2050, 2051, 2052, 0, 0, 0, 0, 0, 2053, 2054, 2066, 2078, 2079, 2086, 2093, 2094, 2095, 0, 0]]
def sk (ci k : Nat) : Nat := (skL.getD ci []).getD k 0
def nsl (ci : Nat) : Nat := (skL.getD ci []).length
abbrev G : Type := Nat → Nat → Int32
def up (g : G) (o k : Nat) (v : Int32) : G := fun o' k' => if o' = o ∧ k' = k then v else g o' k'
/-- what stays through a run: classes, the two array classes, where the law's heap ended, addresses of cells, of Strings, of their bytes, of the static row of words -/
abbrev EV : Type := va_G × ClassId × ClassId × Nat × (Nat → Nat) × (Nat → Nat) × (Nat → Nat) × Nat
abbrev EV.D (E : EV) : va_G := E.1
abbrev EV.tI (E : EV) : ClassId := E.2.1
abbrev EV.tB (E : EV) : ClassId := E.2.2.1
abbrev EV.sz (E : EV) : Nat := E.2.2.2.1
abbrev EV.ad (E : EV) : Nat → Nat := E.2.2.2.2.1
abbrev EV.aK (E : EV) : Nat → Nat := E.2.2.2.2.2.1
abbrev EV.aV (E : EV) : Nat → Nat := E.2.2.2.2.2.2.1
abbrev EV.tW (E : EV) : Nat := E.2.2.2.2.2.2.2
abbrev EV.tys (E : EV) : List (ClassId × FieldType) := [(E.tI, .int), (E.tB, .byte)]
def fval (E : EV) (g : G) (o c k : Nat) : Value := if c = 0 then .int (g o k) else if c < 2000 then .ref (E.ad (o + (c - 1000))) else .ref (E.ad (c - 2000))
def fsl (E : EV) (g : G) (o ci : Nat) : List Value := (List.range (nsl ci)).map (fun k => fval E g o (sk ci k) k)
def cel (E : EV) (g : G) (o : Nat) : va_E := if kd o < 12 then .inr (kd o, fsl E g o (kd o)) else if kd o < 200000 then .inl (E.tI, kd o - 100000, .inl (g o)) else .inl (E.tB, kd o - 200000, .inl (g o))
def wl (E : EV) (g : G) : va_W := (List.range NC).map (fun o => (E.ad o, cel E g o))
theorem kd_lt {o n : Nat} (h : kd o = n) (hn : n < 999999) : o < NC := by
  rcases Nat.lt_or_ge o NC with q | q
  · exact q
  · exfalso
    have hl : kdL.length ≤ o := Nat.le_trans (by decide) q
    have : kd o = 999999 := by
      unfold kd
      rw [List.getD_eq_getElem?_getD, List.getElem?_eq_none hl]
      rfl
    omega
theorem wl_len {E : EV} {g : G} : (wl E g).length = NC := by simp [wl]
theorem wl_at {E : EV} {g : G} {o : Nat} (ho : o < NC) : (wl E g)[o]? = some (E.ad o, cel E g o) := by
  unfold wl
  rw [List.getElem?_map, List.getElem?_range ho]
  rfl
theorem wlx_at {E : EV} {g : G} {xs : va_W} {o : Nat} (ho : o < NC) : (wl E g ++ xs)[o]? = some (E.ad o, cel E g o) := by
  rw [List.getElem?_append_left (by rw [wl_len]; exact ho), wl_at ho]
theorem wlx_ge {E : EV} {g : G} {xs : va_W} {o : Nat} (ho : ¬ o < NC) : (wl E g ++ xs)[o]? = xs[o - NC]? := by
  rw [List.getElem?_append_right (by rw [wl_len]; omega), wl_len]
theorem cel_o {E : EV} {g : G} {o ci : Nat} (h : kd o = ci) (hc : ci < 12) : cel E g o = .inr (ci, fsl E g o ci) := by
  unfold cel
  rw [h, if_pos hc]
theorem cel_i {E : EV} {g : G} {o n : Nat} (h : kd o = 100000 + n) (hn : n < 100000) : cel E g o = .inl (E.tI, n, .inl (g o)) := by
  unfold cel
  rw [h, if_neg (by omega), if_pos (by omega), Nat.add_sub_cancel_left]
theorem cel_b {E : EV} {g : G} {o n : Nat} (h : kd o = 200000 + n) (hn : n < 100000) : cel E g o = .inl (E.tB, n, .inl (g o)) := by
  unfold cel
  rw [h, if_neg (by omega), if_neg (by omega), Nat.add_sub_cancel_left]
theorem fs_at {E : EV} {g : G} {o ci k : Nat} (hk : k < nsl ci) : (fsl E g o ci)[k]? = some (fval E g o (sk ci k) k) := by
  unfold fsl
  rw [List.getElem?_map, List.getElem?_range hk]
  rfl
theorem fs_len {E : EV} {g : G} {o ci : Nat} : (fsl E g o ci).length = nsl ci := by simp [fsl]
theorem up_ne {g : G} {o k : Nat} {v : Int32} {i : Nat} (h : i ≠ o) : up g o k v i = g i := funext fun _ => if_neg (fun q => h q.1)
theorem up_eq {g : G} {o k : Nat} {v : Int32} : up g o k v o = upd (g o) k v := funext fun j => by simp [up, upd]
theorem cel_same {E : EV} {g : G} {o k : Nat} {v : Int32} {i : Nat} (h : i ≠ o) : cel E (up g o k v) i = cel E g i := by
  unfold cel fsl fval
  rw [up_ne h]
theorem wl_set {E : EV} {g : G} {xs : va_W} {o k : Nat} {v : Int32} {y : va_E} (hy : cel E (up g o k v) o = y) (ho : o < NC) : (wl E g ++ xs).set o (E.ad o, y) = wl E (up g o k v) ++ xs := by
  apply List.ext_getElem?
  intro i
  rw [List.getElem?_set]
  by_cases hi : o = i
  · subst hi
    rw [if_pos rfl, if_pos (by rw [List.length_append, wl_len]; omega), wlx_at ho, hy]
  · rw [if_neg hi]
    by_cases hN : i < NC
    · rw [wlx_at hN, wlx_at hN, cel_same (Ne.symm hi)]
    · rw [wlx_ge hN, wlx_ge hN]
theorem fs_set {E : EV} {g : G} {o ci k : Nat} {v : Int32} (hs : sk ci k = 0) : (fsl E g o ci).set k (.int v) = fsl E (up g o k v) o ci := by
  apply List.ext_getElem?
  intro i
  rw [List.getElem?_set]
  by_cases hi : k = i
  · subst hi
    rw [if_pos rfl]
    by_cases hN : k < nsl ci
    · rw [if_pos (by rw [fs_len]; exact hN), fs_at hN, hs]
      simp [fval, up]
    · rw [if_neg (by rw [fs_len]; exact hN), List.getElem?_eq_none (by rw [fs_len]; omega)]
  · rw [if_neg hi]
    by_cases hN : i < nsl ci
    · rw [fs_at hN, fs_at hN]
      have e : up g o k v o i = g o i := if_neg (fun q => hi q.2.symm)
      unfold fval
      rw [e]
    · rw [List.getElem?_eq_none (by rw [fs_len]; omega), List.getElem?_eq_none (by rw [fs_len]; omega)]
/-! the classes -/
def KC (ci : Nat) (C : String) (T : u_T) (N : Nat) (ty : Nat → FieldType) : Prop := vwCl[ci]? = some (C, T, N) ∧ (∀ w ∈ u_ws C T N, w ∈ TB) ∧ (∀ k, k < N → parseFieldDescriptor (T k).2.2.1 = some (ty k)) ∧ (∀ a, a < N → ∀ b, b < N → a ≠ b → (T a).2.1 ≠ (T b).2.1) ∧ nsl ci = N
theorem KC0 : KC 0 RX0 TX0 3 tyX0 := ⟨rfl, by decide +kernel, tyX0_ok, nmX0, by decide⟩
theorem KC1 : KC 1 RX1 TX1 5 tyX1 := ⟨rfl, by decide +kernel, tyX1_ok, nmX1, by decide⟩
theorem KC2 : KC 2 RX2 TX2 9 tyX2 := ⟨rfl, by decide +kernel, tyX2_ok, nmX2, by decide⟩
theorem KC3 : KC 3 RX3 TX3 5 tyX3 := ⟨rfl, by decide +kernel, tyX3_ok, nmX3, by decide⟩
theorem KC4 : KC 4 RX4 TX4 14 tyX4 := ⟨rfl, by decide +kernel, tyX4_ok, nmX4, by decide⟩
theorem KC5 : KC 5 RX5 TX5 2 tyX5 := ⟨rfl, by decide +kernel, tyX5_ok, nmX5, by decide⟩
theorem KC6 : KC 6 RX6 TX6 6 tyX6 := ⟨rfl, by decide +kernel, tyX6_ok, nmX6, by decide⟩
theorem KC7 : KC 7 RX7 TX7 6 tyX7 := ⟨rfl, by decide +kernel, tyX7_ok, nmX7, by decide⟩
theorem KC8 : KC 8 RX8 TX8 9 tyX8 := ⟨rfl, by decide +kernel, tyX8_ok, nmX8, by decide⟩
theorem KC9 : KC 9 RX9 TX9 10 tyX9 := ⟨rfl, by decide +kernel, tyX9_ok, nmX9, by decide⟩
theorem KC10 : KC 10 RX10 TX10 16 tyX10 := ⟨rfl, by decide +kernel, tyX10_ok, nmX10, by decide⟩
theorem KC11 : KC 11 RX11 TX11 24 tyX11 := ⟨rfl, by decide +kernel, tyX11_ok, nmX11, by decide⟩
theorem KC_lt {ci : Nat} {C : String} {T : u_T} {N : Nat} {ty : Nat → FieldType} (h : KC ci C T N ty) : ci < 12 := (List.getElem?_eq_some_iff.mp h.1).1
def FL (own : String) (index ci k : Nat) (fin : Bool) (ty : FieldType) : Prop := ∃ (C : String) (T : u_T) (N : Nat) (tt : Nat → FieldType), KC ci C T N tt ∧ k < N ∧ (T k).2.2.2 = fin ∧ tt k = ty ∧ (Cond.fieldLink own index (T k).1 (T k).2.1 (T k).2.2.1 ∈ TB ∨ ∃ host, Cond.fieldLinkNest own index (T k).1 (T k).2.1 (T k).2.2.1 host ∈ NB)
/-! outer facts (Strings): see the part of Strings -/
def OO (E : EV) (U : State) (H : Heap) : Prop := True
theorem OO.same {E : EV} {u U : State} {H : Heap} (hv : U.vm = u.vm) (h : OO E u H) : OO E U H := trivial
theorem OO.step {E : EV} {u U : State} {H H1 : Heap} (hW : u.WarmedH U.vm) (hz : E.sz ≤ H.size) (hq : ∀ a : Nat, a < E.sz → H1[a]? = H[a]?) (h : OO E u H) : OO E U H1 := trivial
/-! contracts -/
def AA (E : EV) (sz : Nat) : Nat → Prop := fun q => (∃ i, i < NC ∧ q = E.ad i) ∨ sz ≤ q
def AD (E : EV) : Prop := (∀ i j, i < NC → j < NC → E.ad i = E.ad j → i = j) ∧ ∀ i, i < NC → E.sz ≤ E.ad i
def NK (U : State) : Prop := ∀ w ∈ NB, va_Nw w U
def WB (E : EV) (g : G) (U : State) : Prop := E.sz ≤ U.heap.size ∧ va_P E.D vwCl (wl E g) U.heap ∧ va_K E.D vwCl E.tys U ∧ AD E ∧ NK U ∧ OO E U U.heap
def PC (E : EV) (sz : Nat) (av : List Value) (g : G) : Array Value → State → Prop := va_Pc av (fun U => U.heap.size = sz ∧ WB E g U)
def PT (E : EV) (g : G) : Unit → State → Prop := fun _ t => va_P E.D vwCl (wl E g) t.heap
def QI (E : EV) (sz : Nat) (r : Int32) (g : G) : Array Value → State → Outcome → State → Prop := va_Qi (fun (r' : Int32) (_ : Unit) => r' = r) (PT E g) (AA E sz)
def QL (E : EV) (sz : Nat) (r : Int64) (g : G) : Array Value → State → Outcome → State → Prop := va_Ql (fun (r' : Int64) (_ : Unit) => r' = r) (PT E g) (AA E sz)
def QV (E : EV) (sz : Nat) (g : G) : Array Value → State → Outcome → State → Prop := va_Qv (fun (_ : Unit) => True) (PT E g) (AA E sz)
def QA (E : EV) (sz : Nat) (r : Nat) (g : G) : Array Value → State → Outcome → State → Prop := va_Qr (fun (_ : Unit) => True) (fun _ a t => a = r ∧ PT E g () t) (AA E sz)
def rmD (k mc ms : Nat) : Room := { frames := k, cells := mc, slots := ms, locals := 60 * k }
def MG (E : EV) (l : Launch) (y : MethodName) (c : ByteArray) (n : Nat) (rt : Option FieldType) (k mc ms : Nat) (av : List Value) (g : G) (QQ : Nat → Array Value → State → Outcome → State → Prop) : Prop := ∀ sz, Met l y (wz y c n rt) (rmD k mc ms) (PC E sz av g) (QQ sz) mc ms (AA E sz)
/-- a method with a number as its answer -/
abbrev MI (E : EV) (l : Launch) (y : MethodName) (c : ByteArray) (n : Nat) (rt : Option FieldType) (k mc ms : Nat) (av : List Value) (g : G) (u : Int32 × G) : Prop := MG E l y c n rt k mc ms av g (fun sz => QI E sz u.1 u.2)
abbrev ML (E : EV) (l : Launch) (y : MethodName) (c : ByteArray) (n : Nat) (rt : Option FieldType) (k mc ms : Nat) (av : List Value) (g : G) (u : Int64 × G) : Prop := MG E l y c n rt k mc ms av g (fun sz => QL E sz u.1 u.2)
abbrev MV (E : EV) (l : Launch) (y : MethodName) (c : ByteArray) (n : Nat) (rt : Option FieldType) (k mc ms : Nat) (av : List Value) (g : G) (u : G) : Prop := MG E l y c n rt k mc ms av g (fun sz => QV E sz u)
abbrev MA (E : EV) (l : Launch) (y : MethodName) (c : ByteArray) (n : Nat) (rt : Option FieldType) (k mc ms : Nat) (av : List Value) (g : G) (u : Nat × G) : Prop := MG E l y c n rt k mc ms av g (fun sz => QA E sz (E.aK u.1) u.2)
/-- what holds in a method's frame -/
def Cx (p : Program) (s : State) (m : MethodId) (args : Array Value) (meth : Method) (c : Code) (cc : ByteArray) (n : Nat) (own : String) (E : EV) : Prop :=
  p.tables.exec = Jvm.exec ∧ c.code = cc ∧ c.maxLocals = n ∧ s.vm.findClass own = some m.cls ∧ (∀ w ∈ TB, w.before args s = true) ∧ va_K E.D vwCl E.tys s ∧ NK s ∧ meth.locks = false ∧ E.sz ≤ s.heap.size ∧ AD E ∧ OO E s s.heap
def Gd (E : EV) (s : State) (H : Heap) (locs : List Loc) (g : G) (xs : va_W) : Prop := va_P E.D vwCl (wl E g ++ xs) H ∧ va_D (AA E s.heap.size) (wl E g ++ xs) ∧ va_S (AA E s.heap.size) s.heap H locs
theorem wl_D {E : EV} {g : G} {A : Nat → Prop} (h : AD E) (hA : ∀ i, i < NC → A (E.ad i)) : va_D A (wl E g) := by
  have key : ∀ (k : Nat) (q : Nat × va_E), (wl E g)[k]? = some q → k < NC ∧ q.1 = E.ad k := by
    intro k q hq
    have hk : k < NC := by
      have := (List.getElem?_eq_some_iff.mp hq).1
      rwa [wl_len] at this
    rw [wl_at hk] at hq
    cases hq
    exact ⟨hk, rfl⟩
  refine ⟨fun i j p q hp hq he => ?_, fun k q hq => ?_⟩
  · obtain ⟨hi, ei⟩ := key i p hp
    obtain ⟨hj, ej⟩ := key j q hq
    exact h.1 i j hi hj (by rw [← ei, ← ej, he])
  · obtain ⟨hk, ek⟩ := key k q hq
    rw [ek]
    exact hA k hk
theorem PC_blind {E : EV} {sz : Nat} {av : List Value} {g : G} : FrameBlind (PC E sz av g) := by
  intro a U f mk h
  obtain ⟨h0, h1, h2, h3, h4, h5, h6, h7⟩ := h
  exact ⟨h0, h1, h2, h3, va_K.moved (u := U) (U := U.calling f mk a) (Vm.Alike.refl U.vm) h4, h5, fun w hw => Nw_same (u := U) rfl hw (h6 w hw), OO.same (u := U) rfl h7⟩
theorem AA_ge {E : EV} {sz q : Nat} (h : AD E) (hz : E.sz ≤ sz) (hq : AA E sz q) : E.sz ≤ q := by
  rcases hq with ⟨i, hi, rfl⟩ | hq
  · exact h.2 i hi
  · omega
/-- a method's proof begins -/
theorem MG.of {E : EV} {l : Launch} {y : MethodName} {cc : ByteArray} {n : Nat} {rt : Option FieldType} {k mc ms : Nat} {av : List Value} {g : G} {QQ : Nat → Array Value → State → Outcome → State → Prop} (hy : plainName y.cls = true) (hn : (lg_sl av).length ≤ n)
    (body : ∀ (p : Program) (e : Env) (s : State) (m : MethodId) (args : Array Value) (below : List Frame) (meth : Method) (c : Code), Cx p s m args meth c cc n y.cls E → meth.sig.returnType = rt → meth.name = y.name → ∀ ls : Array Slot, lv_has ls n (lv_args 0 av) → Gd E s s.heap [] g [] →
      W p l e (rmD k mc ms) s m args below meth c s.heap [] 0 0 (MQ below (QQ s.heap.size) args s mc ms (AA E s.heap.size)) (F0 m 0 ls [])) : MG E l y cc n rt k mc ms av g QQ := by
  intro sz
  refine Met.ofW (cc := cc) (maxL := n) (ret := rt) hy rfl ?_
  intro p e s m args below meth c s₁ B hml hv
  obtain ⟨rfl, rfl, h2, h3, h4, h5, h6, h7⟩ := hv
  have hts := atoms_spec (ws := wz y cc n rt) B.pre
  have hown : s.vm.findClass y.cls = some m.cls := findClass_of_methodNamed B.named
  rw [lg_entry_eq]
  refine body p e s m _ below meth c ⟨B.exec, B.bytes, hml, hown, fun w hw => hts w (List.mem_cons_of_mem _ hw), h4, h6, B.notSynchronized, h2, h5, h7⟩ B.returns (name_of_methodNamed B.named B.method).1 _ (lv_entry av hn) ?_
  refine ⟨by rw [List.append_nil]; exact h3, by rw [List.append_nil]; exact wl_D h5 (fun i hi => Or.inl ⟨i, hi, rfl⟩), va_S.rf⟩
/-! the pure side's words -/
def bd {β ρ : Type} (x : β) (f : β → Option ρ) : Option ρ := f x
def ld {ρ : Type} (g : G) (a n : Nat) (i : Int32) (f : Int32 → Option ρ) : Option ρ := if i < 0 ∨ n ≤ i.toNatClampNeg then none else f (g a i.toNatClampNeg)
def sto {ρ : Type} (g : G) (a n : Nat) (i v : Int32) (f : G → Option ρ) : Option ρ := if i < 0 ∨ n ≤ i.toNatClampNeg then none else f (up g a i.toNatClampNeg v)
def dv {ρ : Type} (x y : Int32) (f : Int32 → Option ρ) : Option ρ := if y = 0 then none else f (x / y)
def cpy (g : G) (a b n : Nat) : G := fun o j => if o = b ∧ j < n then g a j else g o j
theorem ld_inv {ρ : Type} {g : G} {a n : Nat} {i : Int32} {f : Int32 → Option ρ} {r : ρ} (h : ld g a n i f = some r) : vp_in i n ∧ f (g a i.toNatClampNeg) = some r := by
  unfold ld at h
  by_cases hc : i < 0 ∨ n ≤ i.toNatClampNeg
  · rw [if_pos hc] at h; cases h
  · rw [if_neg hc] at h; exact ⟨hc, h⟩
theorem sto_inv {ρ : Type} {g : G} {a n : Nat} {i v : Int32} {f : G → Option ρ} {r : ρ} (h : sto g a n i v f = some r) : vp_in i n ∧ f (up g a i.toNatClampNeg v) = some r := by
  unfold sto at h
  by_cases hc : i < 0 ∨ n ≤ i.toNatClampNeg
  · rw [if_pos hc] at h; cases h
  · rw [if_neg hc] at h; exact ⟨hc, h⟩
theorem dv_inv {ρ : Type} {x y : Int32} {f : Int32 → Option ρ} {r : ρ} (h : dv x y f = some r) : ¬ y = 0 ∧ f (x / y) = some r := by
  unfold dv at h
  by_cases hc : y = 0
  · rw [if_pos hc] at h; cases h
  · rw [if_neg hc] at h; exact ⟨hc, h⟩
theorem bind_inv {α ρ : Type} {x : Option α} {f : α → Option ρ} {r : ρ} (h : x.bind f = some r) : ∃ u, x = some u ∧ f u = some r := by
  cases x with
  | none => cases h
  | some u => exact ⟨u, rfl, h⟩
theorem if_inv {ρ : Type} {c : Prop} [Decidable c] {a b r : Option ρ} (h : (if c then a else b) = r) : (c → a = r) ∧ (¬ c → b = r) := ⟨fun hc => by rwa [if_pos hc] at h, fun hc => by rwa [if_neg hc] at h⟩
section ROWS
variable {p : Program} {l : Launch} {e : Env} {R : Room} {s : State} {m : MethodId} {args : Array Value} {below : List Frame} {meth : Method} {c : Code} {H : Heap} {locs : List Loc} {cells slots : Nat} {Q : State → Prop} {cc : ByteArray} {n : Nat} {own : String} {E : EV} {pc : Nat} {ls : Array Slot} {rest : List Value} {g : G} {xs : va_W} {ρ : Type} {r : ρ}
theorem r_get (C : Cx p s m args meth c cc n own E) (hG : Gd E s H locs g xs) {index ci k o : Nat} {fin : Bool} {ty : FieldType} (f : FL own index ci k fin ty) (hk : kd o = ci) (hd : decode cc pc = .ok (.getfield index, 3))
    (kk : W p l e R s m args below meth c H locs cells slots Q (F0 m (pc + 3) ls (fval E g o (sk ci k) k :: rest))) : W p l e R s m args below meth c H locs cells slots Q (F0 m pc ls (.ref (E.ad o) :: rest)) := by
  obtain ⟨hx, hb, -, hown, hts, hK, hN, -⟩ := C
  obtain ⟨cn, T, N, tt, hKC, hk', -, -, hl⟩ := f
  have hci := KC_lt hKC
  obtain ⟨hc, hin, -, -, hn⟩ := hKC
  have ho : o < NC := kd_lt hk (by omega)
  have he : (wl E g ++ xs)[o]? = some (E.ad o, .inr (ci, fsl E g o ci)) := by rw [wlx_at ho, cel_o hk hci]
  have hv : (fsl E g o ci)[k]? = some (fval E g o (sk ci k) k) := fs_at (by omega)
  rcases hl with hl | ⟨host, hl⟩
  · exact va_get (D := E.D) (ci := ci) (C := cn) (T := T) (N := N) hx hb hts hin hown hK hG.1 o he hc k hk' (hts _ hl) (fun _ h9 => h9) hv hd kk
  · exact va_getN (D := E.D) (ci := ci) (C := cn) (T := T) (N := N) hx hb hts hin hown hK hG.1 o he hc k hk' (va_Nw.use rfl (hN _ hl)) (fun _ h9 => h9) hv hd kk
theorem r_getI (C : Cx p s m args meth c cc n own E) (hG : Gd E s H locs g xs) {index ci k o : Nat} {fin : Bool} {ty : FieldType} (f : FL own index ci k fin ty) (hk : kd o = ci) (hs : sk ci k = 0) (hd : decode cc pc = .ok (.getfield index, 3))
    (kk : W p l e R s m args below meth c H locs cells slots Q (F0 m (pc + 3) ls (.int (g o k) :: rest))) : W p l e R s m args below meth c H locs cells slots Q (F0 m pc ls (.ref (E.ad o) :: rest)) :=
  r_get C hG f hk hd (by rw [hs]; exact kk)
theorem r_getR (C : Cx p s m args meth c cc n own E) (hG : Gd E s H locs g xs) {index ci k o d : Nat} {fin : Bool} {ty : FieldType} (f : FL own index ci k fin ty) (hk : kd o = ci) (hs : sk ci k = 1000 + d) (hd9 : d < 1000) (hd : decode cc pc = .ok (.getfield index, 3))
    (kk : W p l e R s m args below meth c H locs cells slots Q (F0 m (pc + 3) ls (.ref (E.ad (o + d)) :: rest))) : W p l e R s m args below meth c H locs cells slots Q (F0 m pc ls (.ref (E.ad o) :: rest)) :=
  r_get C hG f hk hd (by rw [hs, show fval E g o (1000 + d) k = .ref (E.ad (o + d)) by unfold fval; rw [if_neg (by omega), if_pos (by omega), Nat.add_sub_cancel_left]]; exact kk)
theorem r_getA (C : Cx p s m args meth c cc n own E) (hG : Gd E s H locs g xs) {index ci k o j : Nat} {fin : Bool} {ty : FieldType} (f : FL own index ci k fin ty) (hk : kd o = ci) (hs : sk ci k = 2000 + j) (hd : decode cc pc = .ok (.getfield index, 3))
    (kk : W p l e R s m args below meth c H locs cells slots Q (F0 m (pc + 3) ls (.ref (E.ad j) :: rest))) : W p l e R s m args below meth c H locs cells slots Q (F0 m pc ls (.ref (E.ad o) :: rest)) :=
  r_get C hG f hk hd (by rw [hs, show fval E g o (2000 + j) k = .ref (E.ad j) by unfold fval; rw [if_neg (by omega), if_neg (by omega), Nat.add_sub_cancel_left]]; exact kk)
theorem r_put (C : Cx p s m args meth c cc n own E) (hG : Gd E s H locs g xs) {index ci k o : Nat} {ty : FieldType} {v : Int32} (f : FL own index ci k false ty) (hk : kd o = ci) (hs : sk ci k = 0) (hn : narrow ty (.int v) = .int v) (hfit : fits ty (.int v) = true) (hd : decode cc pc = .ok (.putfield index, 3))
    (kk : ∀ (H1 : Heap) (locs1 : List Loc), Gd E s H1 locs1 (up g o k v) xs → W p l e R s m args below meth c H1 locs1 cells slots Q (F0 m (pc + 3) ls rest)) : W p l e R s m args below meth c H locs cells slots Q (F0 m pc ls (.int v :: .ref (E.ad o) :: rest)) := by
  obtain ⟨hx, hb, -, hown, hts, hK, hN, -⟩ := C
  obtain ⟨cn, T, N, tt, hKC, hk', hfin, htt, hl⟩ := f
  have hci := KC_lt hKC
  obtain ⟨hc, hin, hty, hnm, hn2⟩ := hKC
  have ho : o < NC := kd_lt hk (by omega)
  have he : (wl E g ++ xs)[o]? = some (E.ad o, .inr (ci, fsl E g o ci)) := by rw [wlx_at ho, cel_o hk hci]
  have hp9 : parseFieldDescriptor (T k).2.2.1 = some ty := by rw [hty k hk', htt]
  have hset : (wl E g ++ xs).set o (E.ad o, .inr (ci, (fsl E g o ci).set k (.int v))) = wl E (up g o k v) ++ xs := wl_set (by rw [cel_o hk hci, fs_set hs]) ho
  have kk' : ∀ (H1 : Heap) (locs1 : List Loc), va_P E.D vwCl ((wl E g ++ xs).set o (E.ad o, .inr (ci, (fsl E g o ci).set k (.int v)))) H1 → va_D (AA E s.heap.size) ((wl E g ++ xs).set o (E.ad o, .inr (ci, (fsl E g o ci).set k (.int v)))) → va_S (AA E s.heap.size) s.heap H1 locs1 → W p l e R s m args below meth c H1 locs1 cells slots Q (F0 m (pc + 3) ls rest) := by
    intro H1 locs1 a1 a2 a3
    rw [hset] at a1 a2
    exact kk H1 locs1 ⟨a1, a2, a3⟩
  rcases hl with hl | ⟨host, hl⟩
  · exact va_put (D := E.D) (ci := ci) (C := cn) (T := T) (N := N) hx hb hts hin tt hty hnm hown hK hG.1 hG.2.1 hG.2.2 o he hc k hk' (hts _ hl) (fun _ h9 => h9) hfin hp9 hn hfit (by rw [fs_len]; omega) hd kk'
  · exact va_putN (D := E.D) (ci := ci) (C := cn) (T := T) (N := N) hx hb hts hin tt hty hnm hown hK hG.1 hG.2.1 hG.2.2 o he hc k hk' (va_Nw.use rfl (hN _ hl)) (fun _ h9 => h9) hfin hp9 hn hfit (by rw [fs_len]; omega) hd kk'
theorem r_putI (C : Cx p s m args meth c cc n own E) (hG : Gd E s H locs g xs) {index ci k o : Nat} {v : Int32} (f : FL own index ci k false .int) (hk : kd o = ci) (hs : sk ci k = 0) (hd : decode cc pc = .ok (.putfield index, 3)) {fn : G → Option ρ} (h : bd (up g o k v) fn = some r)
    (kk : ∀ (H1 : Heap) (locs1 : List Loc) (g1 : G), Gd E s H1 locs1 g1 xs → fn g1 = some r → W p l e R s m args below meth c H1 locs1 cells slots Q (F0 m (pc + 3) ls rest)) : W p l e R s m args below meth c H locs cells slots Q (F0 m pc ls (.int v :: .ref (E.ad o) :: rest)) :=
  r_put C hG f hk hs rfl rfl hd (fun H1 locs1 a => kk H1 locs1 _ a h)
theorem r_putZ (C : Cx p s m args meth c cc n own E) (hG : Gd E s H locs g xs) {index ci k o : Nat} {v : Int32} (f : FL own index ci k false .boolean) (hk : kd o = ci) (hs : sk ci k = 0) (hv : v = 0 ∨ v = 1) (hd : decode cc pc = .ok (.putfield index, 3)) {fn : G → Option ρ} (h : bd (up g o k v) fn = some r)
    (kk : ∀ (H1 : Heap) (locs1 : List Loc) (g1 : G), Gd E s H1 locs1 g1 xs → fn g1 = some r → W p l e R s m args below meth c H1 locs1 cells slots Q (F0 m (pc + 3) ls rest)) : W p l e R s m args below meth c H locs cells slots Q (F0 m pc ls (.int v :: .ref (E.ad o) :: rest)) :=
  r_put C hG f hk hs (by rcases hv with rfl | rfl <;> rfl) (by rcases hv with rfl | rfl <;> rfl) hd (fun H1 locs1 a => kk H1 locs1 _ a h)
theorem r_ild (C : Cx p s m args meth c cc n own E) (hG : Gd E s H locs g xs) {a N : Nat} {i : Int32} (hk : kd a = 100000 + N) (hN : N < 100000) (hd : decode cc pc = .ok (.iaload, 1)) {fn : Int32 → Option ρ} (h : ld g a N i fn = some r)
    (kk : ∀ x : Int32, fn x = some r → W p l e R s m args below meth c H locs cells slots Q (F0 m (pc + 1) ls (.int x :: rest))) : W p l e R s m args below meth c H locs cells slots Q (F0 m pc ls (.int i :: .ref (E.ad a) :: rest)) := by
  obtain ⟨hx, hb, -, hown, hts, hK, -⟩ := C
  obtain ⟨hin, h⟩ := ld_inv h
  have he : (wl E g ++ xs)[a]? = some (E.ad a, .inl (E.tI, N, .inl (g a))) := by rw [wlx_at (kd_lt hk (by omega)), cel_i hk hN]
  exact va_iald hx hb hK hG.1 a 0 he rfl hin hd (kk _ h)
theorem r_bld (C : Cx p s m args meth c cc n own E) (hG : Gd E s H locs g xs) {a N : Nat} {i : Int32} (hk : kd a = 200000 + N) (hN : N < 100000) (hd : decode cc pc = .ok (.baload, 1)) {fn : Int32 → Option ρ} (h : ld g a N i fn = some r)
    (kk : ∀ x : Int32, fn x = some r → W p l e R s m args below meth c H locs cells slots Q (F0 m (pc + 1) ls (.int x :: rest))) : W p l e R s m args below meth c H locs cells slots Q (F0 m pc ls (.int i :: .ref (E.ad a) :: rest)) := by
  obtain ⟨hx, hb, -, hown, hts, hK, -⟩ := C
  obtain ⟨hin, h⟩ := ld_inv h
  have he : (wl E g ++ xs)[a]? = some (E.ad a, .inl (E.tB, N, .inl (g a))) := by rw [wlx_at (kd_lt hk (by omega)), cel_b hk hN]
  exact va_bald hx hb hK hG.1 a 1 he rfl hin hd (kk _ h)
theorem r_ist (C : Cx p s m args meth c cc n own E) (hG : Gd E s H locs g xs) {a N : Nat} {i v : Int32} (hk : kd a = 100000 + N) (hN : N < 100000) (hd : decode cc pc = .ok (.iastore, 1)) {fn : G → Option ρ} (h : sto g a N i v fn = some r)
    (kk : ∀ (H1 : Heap) (locs1 : List Loc) (g1 : G), Gd E s H1 locs1 g1 xs → fn g1 = some r → W p l e R s m args below meth c H1 locs1 cells slots Q (F0 m (pc + 1) ls rest)) : W p l e R s m args below meth c H locs cells slots Q (F0 m pc ls (.int v :: .int i :: .ref (E.ad a) :: rest)) := by
  obtain ⟨hx, hb, -, hown, hts, hK, -⟩ := C
  obtain ⟨hin, h⟩ := sto_inv h
  have ho : a < NC := kd_lt hk (by omega)
  have he : (wl E g ++ xs)[a]? = some (E.ad a, .inl (E.tI, N, .inl (g a))) := by rw [wlx_at ho, cel_i hk hN]
  have hset : (wl E g ++ xs).set a (E.ad a, .inl (E.tI, N, .inl (upd (g a) i.toNatClampNeg v))) = wl E (up g a i.toNatClampNeg v) ++ xs := wl_set (by rw [cel_i hk hN, up_eq]) ho
  refine va_iast hx hb hK hG.1 hG.2.1 hG.2.2 a 0 he rfl hin hd (fun H1 locs1 a1 a2 a3 => ?_)
  rw [hset] at a1 a2
  exact kk H1 locs1 _ ⟨a1, a2, a3⟩ h
theorem r_bst (C : Cx p s m args meth c cc n own E) (hG : Gd E s H locs g xs) {a N : Nat} {i v : Int32} (hk : kd a = 200000 + N) (hN : N < 100000) (hd : decode cc pc = .ok (.bastore, 1)) {fn : G → Option ρ} (h : sto g a N i v.toInt8.toInt32 fn = some r)
    (kk : ∀ (H1 : Heap) (locs1 : List Loc) (g1 : G), Gd E s H1 locs1 g1 xs → fn g1 = some r → W p l e R s m args below meth c H1 locs1 cells slots Q (F0 m (pc + 1) ls rest)) : W p l e R s m args below meth c H locs cells slots Q (F0 m pc ls (.int v :: .int i :: .ref (E.ad a) :: rest)) := by
  obtain ⟨hx, hb, -, hown, hts, hK, -⟩ := C
  obtain ⟨hin, h⟩ := sto_inv h
  have ho : a < NC := kd_lt hk (by omega)
  have he : (wl E g ++ xs)[a]? = some (E.ad a, .inl (E.tB, N, .inl (g a))) := by rw [wlx_at ho, cel_b hk hN]
  have hset : (wl E g ++ xs).set a (E.ad a, .inl (E.tB, N, .inl (upd (g a) i.toNatClampNeg (vp_nar .byte v)))) = wl E (up g a i.toNatClampNeg v.toInt8.toInt32) ++ xs := wl_set (by rw [cel_b hk hN, up_eq, vp_nar_byte]) ho
  refine va_bast hx hb hK hG.1 hG.2.1 hG.2.2 a 1 he rfl hin hd (fun H1 locs1 a1 a2 a3 => ?_)
  rw [hset] at a1 a2
  exact kk H1 locs1 _ ⟨a1, a2, a3⟩ h
theorem r_alen (C : Cx p s m args meth c cc n own E) (hG : Gd E s H locs g xs) {a N : Nat} {v : Int32} (hk : kd a = 100000 + N) (hN : N < 100000) (hv : Int32.ofNat N = v) (hd : decode cc pc = .ok (.arraylength, 1))
    (kk : W p l e R s m args below meth c H locs cells slots Q (F0 m (pc + 1) ls (.int v :: rest))) : W p l e R s m args below meth c H locs cells slots Q (F0 m pc ls (.ref (E.ad a) :: rest)) := by
  obtain ⟨hx, hb, -, hown, hts, hK, -⟩ := C
  have he : (wl E g ++ xs)[a]? = some (E.ad a, .inl (E.tI, N, .inl (g a))) := by rw [wlx_at (kd_lt hk (by omega)), cel_i hk hN]
  exact va_alen hx hb hK hG.1 a 0 he rfl hv hd kk
theorem r_nm {v : Int32} {fn : Int32 → Option ρ} (h : bd v fn = some r) (kk : ∀ x : Int32, fn x = some r → W p l e R s m args below meth c H locs cells slots Q (F0 m pc ls (.int x :: rest))) : W p l e R s m args below meth c H locs cells slots Q (F0 m pc ls (.int v :: rest)) := kk v h
theorem r_nmL {v : Int64} {fn : Int64 → Option ρ} (h : bd v fn = some r) (kk : ∀ x : Int64, fn x = some r → W p l e R s m args below meth c H locs cells slots Q (F0 m pc ls (.long x :: rest))) : W p l e R s m args below meth c H locs cells slots Q (F0 m pc ls (.long v :: rest)) := kk v h
theorem r_div (C : Cx p s m args meth c cc n own E) {x y : Int32} (hd : decode cc pc = .ok (.idiv, 1)) {fn : Int32 → Option ρ} (h : dv x y fn = some r) (kk : ∀ z : Int32, fn z = some r → W p l e R s m args below meth c H locs cells slots Q (F0 m (pc + 1) ls (.int z :: rest))) : W p l e R s m args below meth c H locs cells slots Q (F0 m pc ls (.int y :: .int x :: rest)) := by
  obtain ⟨h0, h1⟩ := dv_inv h
  exact lv_idiv C.1 C.2.1 hd h0 (kk _ h1)
theorem r_iret (C : Cx p s m args meth c cc n own E) (hG : Gd E s H locs g []) {ty : FieldType} (hr : meth.sig.returnType = some ty) {v : Int32} {u : Int32 × G} (hn : narrow ty (.int v) = .int v) (hd : decode cc pc = .ok (.ireturn, 1)) (h : some (v, g) = some u) : W p l e R s m args below meth c H locs cells slots (MQ below (QI E s.heap.size u.1 u.2) args s cells slots (AA E s.heap.size)) (F0 m pc ls [.int v]) := by
  cases h
  have hl : meth.locks = false := C.2.2.2.2.2.2.2.1
  have hP := hG.1
  rw [List.append_nil] at hP
  exact W.zret C.1 C.2.1 hr hn (fun t ht hW => ⟨⟨v, (), rfl, rfl, by show va_P _ _ _ t.heap; rw [ht]; exact hP⟩, hG.2.2.F ht⟩) hG.2.2.2.2 hd hl
theorem r_vret (C : Cx p s m args meth c cc n own E) (hG : Gd E s H locs g []) (hr : meth.sig.returnType = none) {u : G} (hd : decode cc pc = .ok (.return_, 1)) (h : some g = some u) : W p l e R s m args below meth c H locs cells slots (MQ below (QV E s.heap.size u) args s cells slots (AA E s.heap.size)) (F0 m pc ls []) := by
  cases h
  have hl : meth.locks = false := C.2.2.2.2.2.2.2.1
  have hP := hG.1
  rw [List.append_nil] at hP
  exact W.vret C.1 C.2.1 hr (fun t ht hW => ⟨⟨(), rfl, trivial, by show va_P _ _ _ t.heap; rw [ht]; exact hP⟩, hG.2.2.F ht⟩) hG.2.2.2.2 hd hl
theorem r_lret (C : Cx p s m args meth c cc n own E) (hG : Gd E s H locs g []) (hr : meth.sig.returnType = some .long) {v : Int64} {u : Int64 × G} (hd : decode cc pc = .ok (.lreturn, 1)) (h : some (v, g) = some u) : W p l e R s m args below meth c H locs cells slots (MQ below (QL E s.heap.size u.1 u.2) args s cells slots (AA E s.heap.size)) (F0 m pc ls [.long v]) := by
  cases h
  have hl : meth.locks = false := C.2.2.2.2.2.2.2.1
  have hP := hG.1
  rw [List.append_nil] at hP
  exact W.lret C.1 C.2.1 hr (fun t ht hW => ⟨⟨v, (), rfl, rfl, by show va_P _ _ _ t.heap; rw [ht]; exact hP⟩, hG.2.2.F ht⟩) hG.2.2.2.2 hd hl
end ROWS
end
section
/-! calls: what links a call, the callee's precondition, the world behind it -/
def hdOk (y : MethodName) (np : Nat) : Prop := y.cls ≠ "java/lang/invoke/MethodHandle" ∧ y.cls ≠ "java/lang/invoke/VarHandle" ∧ (parseMethodDescriptor y.desc).map (fun d => d.parameters.length) = some np
def MLV (own : String) (idx : Nat) (y : MethodName) (c : ByteArray) (n : Nat) (rt : Option FieldType) (np : Nat) : Prop := Cond.code y c n rt ∈ TB ∧ Cond.initialized y.cls ∈ TB ∧ Cond.instanceMethod y ∈ TB ∧ Cond.selects y.cls y y ∈ TB ∧ hdOk y np ∧ (Cond.methodLink own idx y ∈ TB ∨ ∃ host, Cond.methodLinkNest own idx y host ∈ NB)
def MLS (own : String) (idx : Nat) (y : MethodName) (c : ByteArray) (n : Nat) (rt : Option FieldType) (np : Nat) : Prop := Cond.code y c n rt ∈ TB ∧ Cond.initialized y.cls ∈ TB ∧ Cond.static y ∈ TB ∧ hdOk y np ∧ (Cond.methodLink own idx y ∈ TB ∨ ∃ host, Cond.methodLinkNest own idx y host ∈ NB)
theorem rm_ok {k K n mc ms mc' ms' : Nat} (h : k < K) (hn : n ≤ 41) : (rmD k mc ms).frames + 1 ≤ (rmD K mc' ms').frames ∧ 8 + (n + 11) + (rmD k mc ms).locals ≤ (rmD K mc' ms').locals := by
  refine ⟨h, ?_⟩
  show 8 + (n + 11) + 60 * k ≤ 60 * K
  omega
section CALLS
variable {p : Program} {l : Launch} {e : Env} {R : Room} {s : State} {m : MethodId} {args : Array Value} {below : List Frame} {meth : Method} {c : Code} {H : Heap} {locs : List Loc} {cells slots : Nat} {Q : State → Prop} {cc : ByteArray} {n : Nat} {own : String} {E : EV} {pc : Nat} {ls : Array Slot} {rest st : List Value} {g : G} {xs : va_W} {ρ : Type} {r : ρ}
theorem pre_ok (C : Cx p s m args meth c cc n own E) (hG : Gd E s H locs g xs) (av : List Value) : ∀ U : State, U.heap = H → s.WarmedH U.vm → PC E H.size av g av.toArray U := by
  intro U hU hW
  obtain ⟨-, -, -, -, -, hK, hN, -, hz, hA, hO⟩ := C
  have hS := hG.2.2
  have hsz : E.sz ≤ H.size := Nat.le_trans hz hS.1
  refine ⟨rfl, by rw [hU], by rw [hU]; exact hsz, ?_, va_K.moved hW.alike hK, hA, fun w hw => Nw_warm hW hw (hN w hw), ?_⟩
  · rw [hU]
    intro k q hq
    refine hG.1 k q ?_
    rw [List.getElem?_append_left (List.getElem?_eq_some_iff.mp hq).1]
    exact hq
  · rw [hU]
    exact OO.step hW hz (fun a ha => hS.2.1 a (Nat.lt_of_lt_of_le ha hz) (fun h => Nat.not_le.mpr ha (AA_ge hA hz h))) hO
theorem Gd_D {A : Nat → Prop} {g1 : G} (h : va_D A (wl E g ++ xs)) : va_D A (wl E g1 ++ xs) := by
  have key : ∀ (i : Nat) (q : Nat × va_E), (wl E g1 ++ xs)[i]? = some q → ∃ q' : Nat × va_E, (wl E g ++ xs)[i]? = some q' ∧ q'.1 = q.1 := by
    intro i q hq
    by_cases hi : i < NC
    · rw [wlx_at hi] at hq
      cases hq
      exact ⟨_, wlx_at hi, rfl⟩
    · rw [wlx_ge hi] at hq
      exact ⟨q, by rw [wlx_ge hi]; exact hq, rfl⟩
  refine ⟨fun i j a b ha hb he => ?_, fun k q hq => ?_⟩
  · obtain ⟨a', h1, e1⟩ := key i a ha
    obtain ⟨b', h2, e2⟩ := key j b hb
    exact h.1 i j a' b' h1 h2 (by rw [e1, e2, he])
  · obtain ⟨q', h1, e1⟩ := key k q hq
    rw [← e1]
    exact h.2 k q' h1
theorem Gd_after (hG : Gd E s H locs g xs) {H1 : Heap} {locs1 : List Loc} {g1 : G} (hB : va_P E.D vwCl (wl E g1) H1) (hk : ∀ q : Nat, q < H.size → ¬ AA E H.size q → H1[q]? = H[q]?) (hS : va_S (AA E s.heap.size) s.heap H1 locs1) : Gd E s H1 locs1 g1 xs := by
  refine ⟨va_P.app hB (fun k q hq => ?_), Gd_D hG.2.1, hS⟩
  have hq' : (wl E g ++ xs)[NC + k]? = some q := by
    rw [wlx_ge (by omega), Nat.add_sub_cancel_left]
    exact hq
  have hat := hG.1 _ q hq'
  have hlt := hat.lt
  refine hat.kept (hk q.1 hlt ?_)
  rintro (⟨i, hi, e9⟩ | hge)
  · have := hG.2.1.1 (NC + k) i q (E.ad i, cel E g i) hq' (wlx_at hi) e9
    omega
  · omega
theorem AA_in (hG : Gd E s H locs g xs) : (∀ q, AA E H.size q → AA E s.heap.size q) := by
  rintro q (h | h)
  · exact Or.inl h
  · exact Or.inr (Nat.le_trans hG.2.2.1 h)
theorem run_V (C : Cx p s m args meth c cc n own E) (hls : ls.size = n) (hG : Gd E s H locs g xs) {y : MethodName} {c' : ByteArray} {n' : Nat} {rt : Option FieldType} {k mc ms np o ci idx N : Nat} {As : List Value} {QQ : Nat → Array Value → State → Outcome → State → Prop} {T : u_T} {tt : Nat → FieldType}
    (hM : MG E l y c' n' rt k mc ms (.ref (E.ad o) :: As) g QQ) (hm : MLV own idx y c' n' rt np) (hk : kd o = ci) (hKC : KC ci y.cls T N tt) (hlen : As.length = np) (hR : (rmD k mc ms).frames + 1 ≤ R.frames ∧ 8 + (n' + 11) + (rmD k mc ms).locals ≤ R.locals) (hrest : (rest.map fun v => v.category).sum ≤ 8) (hf : cells + mc ≤ R.cells ∧ slots + ms ≤ R.slots) (hst : st = As.reverse ++ .ref (E.ad o) :: rest) (hd : decode cc pc = .ok (.invokevirtual idx, 3)) :
    va_Run p l e R s m args below meth c H locs cells slots mc ms (F0 m pc ls st) rest (QQ H.size (Value.ref (E.ad o) :: As).toArray) (AA E H.size) := by
  have hpre := pre_ok C hG (.ref (E.ad o) :: As)
  obtain ⟨hx, hb, hml, hown, hts, hK, hN, -⟩ := id C
  obtain ⟨h1, h2, h3, h4, h5, h6⟩ := hm
  have hci := KC_lt hKC
  have ho : o < NC := kd_lt hk (by omega)
  have he : (wl E g ++ xs)[o]? = some (E.ad o, .inr (ci, fsl E g o ci)) := by rw [wlx_at ho, cel_o hk hci]
  have hrecv := va_recv hK hG.1 (ci := ci) hKC.1 he
  rcases h6 with h6 | ⟨host, h6⟩
  · exact va_runV (C := y.cls) (Ts := TB) ⟨hx, hb, hml, hown, hts⟩ (hM H.size) ⟨callB_of np hts (gwz h1) rfl rfl rfl (hts _ h2) (hts _ h6) h5 hR, hts _ h3, hts _ h4⟩ ⟨PC_blind, hrecv, hpre⟩ rfl hlen hls hst (lv_room hrest) hd hf
  · exact va_runVN (C := y.cls) (Ts := TB) (host := host) ⟨hx, hb, hml, hown, hts⟩ (hM H.size) ⟨va_cnB np hts (gwz h1) rfl rfl rfl (hN _ h6) (hts _ h2) h5 hR, hts _ h3, hts _ h4⟩ ⟨PC_blind, hrecv, hpre⟩ rfl hlen hls hst (lv_room hrest) hd hf
theorem run_S (C : Cx p s m args meth c cc n own E) (hls : ls.size = n) (hG : Gd E s H locs g xs) {y : MethodName} {c' : ByteArray} {n' : Nat} {rt : Option FieldType} {k mc ms np idx : Nat} {As : List Value} {QQ : Nat → Array Value → State → Outcome → State → Prop}
    (hM : MG E l y c' n' rt k mc ms As g QQ) (hm : MLS own idx y c' n' rt np) (hlen : As.length = np) (hR : (rmD k mc ms).frames + 1 ≤ R.frames ∧ 8 + (n' + 11) + (rmD k mc ms).locals ≤ R.locals) (hrest : (rest.map fun v => v.category).sum ≤ 8) (hf : cells + mc ≤ R.cells ∧ slots + ms ≤ R.slots) (hst : st = As.reverse ++ rest) (hd : decode cc pc = .ok (.invokestatic idx, 3)) :
    va_Run p l e R s m args below meth c H locs cells slots mc ms (F0 m pc ls st) rest (QQ H.size As.toArray) (AA E H.size) := by
  have hpre := pre_ok C hG As
  obtain ⟨hx, hb, hml, hown, hts, hK, hN, -⟩ := id C
  obtain ⟨h1, h2, h3, h5, h6⟩ := hm
  rcases h6 with h6 | ⟨host, h6⟩
  · exact va_runS (Ts := TB) ⟨hx, hb, hml, hown, hts⟩ (hM H.size) ⟨callB_of np hts (gwz h1) rfl rfl rfl (hts _ h2) (hts _ h6) h5 hR, hts _ h3⟩ ⟨PC_blind, hpre⟩ rfl hlen hls hst (lv_room hrest) hd hf
  · exact va_runSN (Ts := TB) (host := host) ⟨hx, hb, hml, hown, hts⟩ (hM H.size) ⟨va_cnB np hts (gwz h1) rfl rfl rfl (hN _ h6) (hts _ h2) h5 hR, hts _ h3, trivial⟩ ⟨PC_blind, hpre⟩ rfl hlen hls hst (lv_room hrest) hd hf
theorem af_I (hG : Gd E s H locs g xs) {mc ms : Nat} {a : Array Value} {u : Int32 × G} {st0 : List Value} (hr : va_Run p l e R s m args below meth c H locs cells slots mc ms (F0 m pc ls st0) rest (QI E H.size u.1 u.2 a) (AA E H.size))
    (kk : ∀ (H1 : Heap) (locs1 : List Loc), Gd E s H1 locs1 u.2 xs → W p l e R s m args below meth c H1 locs1 (cells + mc) (slots + ms) Q (F0 m (pc + 3) ls (.int u.1 :: rest))) : W p l e R s m args below meth c H locs cells slots Q (F0 m pc ls st0) := by
  refine va_calli hr hG.2.2 (fun q _ h => AA_in hG q h) (AA_in hG) (fun r9 u9 t H1 locs1 ht hvm hw hB hz hk hS => ?_)
  have hw : r9 = u.1 := hw
  subst hw
  exact kk H1 locs1 (Gd_after hG (by rw [← ht]; exact hB) hk hS)
theorem af_L (hG : Gd E s H locs g xs) {mc ms : Nat} {a : Array Value} {u : Int64 × G} {st0 : List Value} (hr : va_Run p l e R s m args below meth c H locs cells slots mc ms (F0 m pc ls st0) rest (QL E H.size u.1 u.2 a) (AA E H.size))
    (kk : ∀ (H1 : Heap) (locs1 : List Loc), Gd E s H1 locs1 u.2 xs → W p l e R s m args below meth c H1 locs1 (cells + mc) (slots + ms) Q (F0 m (pc + 3) ls (.long u.1 :: rest))) : W p l e R s m args below meth c H locs cells slots Q (F0 m pc ls st0) := by
  refine va_calll hr hG.2.2 (fun q _ h => AA_in hG q h) (AA_in hG) (fun r9 u9 t H1 locs1 ht hvm hw hB hz hk hS => ?_)
  have hw : r9 = u.1 := hw
  subst hw
  exact kk H1 locs1 (Gd_after hG (by rw [← ht]; exact hB) hk hS)
theorem af_V (hG : Gd E s H locs g xs) {mc ms : Nat} {a : Array Value} {u : G} {st0 : List Value} (hr : va_Run p l e R s m args below meth c H locs cells slots mc ms (F0 m pc ls st0) rest (QV E H.size u a) (AA E H.size))
    (kk : ∀ (H1 : Heap) (locs1 : List Loc), Gd E s H1 locs1 u xs → W p l e R s m args below meth c H1 locs1 (cells + mc) (slots + ms) Q (F0 m (pc + 3) ls rest)) : W p l e R s m args below meth c H locs cells slots Q (F0 m pc ls st0) := by
  refine va_callv hr hG.2.2 (fun q _ h => AA_in hG q h) (AA_in hG) (fun u9 t H1 locs1 ht hvm hw hB hz hk hS => ?_)
  exact kk H1 locs1 (Gd_after hG (by rw [← ht]; exact hB) hk hS)
theorem af_A (hG : Gd E s H locs g xs) {mc ms : Nat} {a : Array Value} {u : Nat × G} {st0 : List Value} (hr : va_Run p l e R s m args below meth c H locs cells slots mc ms (F0 m pc ls st0) rest (QA E H.size (E.aK u.1) u.2 a) (AA E H.size))
    (kk : ∀ (H1 : Heap) (locs1 : List Loc), Gd E s H1 locs1 u.2 xs → W p l e R s m args below meth c H1 locs1 (cells + mc) (slots + ms) Q (F0 m (pc + 3) ls (.ref (E.aK u.1) :: rest))) : W p l e R s m args below meth c H locs cells slots Q (F0 m pc ls st0) := by
  refine va_callr hr hG.2.2 (fun q _ h => AA_in hG q h) (AA_in hG) (fun u9 a9 t H1 locs1 ht hvm hw hB hz hk hS => ?_)
  obtain ⟨rfl, hB⟩ := hB
  exact kk H1 locs1 (Gd_after hG (by rw [← ht]; exact hB) hk hS)
theorem r_callVI (C : Cx p s m args meth c cc n own E) (hls : ls.size = n) (hG : Gd E s H locs g xs) {y : MethodName} {c' : ByteArray} {n' : Nat} {rt : Option FieldType} {k np o ci idx N : Nat} (As : List Value) (rest : List Value) {T : u_T} {tt : Nat → FieldType} {kz : Option (Int32 × G)} (hC : ∀ u, kz = some u → MI E l y c' n' rt k 0 0 (.ref (E.ad o) :: As) g u) (hm : MLV own idx y c' n' rt np) (hk : kd o = ci) (hKC : KC ci y.cls T N tt) (hlen : As.length = np) (hR : (rmD k 0 0).frames + 1 ≤ R.frames ∧ 8 + (n' + 11) + (rmD k 0 0).locals ≤ R.locals) (hrest : (rest.map fun v => v.category).sum ≤ 8) (hf : cells + 0 ≤ R.cells ∧ slots + 0 ≤ R.slots) (hst : st = As.reverse ++ .ref (E.ad o) :: rest) (hd : decode cc pc = .ok (.invokevirtual idx, 3)) {fn : Int32 × G → Option ρ} (h : kz.bind fn = some r)
    (kk : ∀ (u : Int32 × G) (H1 : Heap) (locs1 : List Loc), Gd E s H1 locs1 u.2 xs → fn u = some r → W p l e R s m args below meth c H1 locs1 cells slots Q (F0 m (pc + 3) ls (.int u.1 :: rest))) : W p l e R s m args below meth c H locs cells slots Q (F0 m pc ls st) := by
  obtain ⟨u, hu, h⟩ := bind_inv h
  exact af_I hG (run_V C hls hG (hC u hu) hm hk hKC hlen hR hrest hf hst hd) (fun H1 locs1 a => kk u H1 locs1 a h)
theorem r_callVL (C : Cx p s m args meth c cc n own E) (hls : ls.size = n) (hG : Gd E s H locs g xs) {y : MethodName} {c' : ByteArray} {n' : Nat} {rt : Option FieldType} {k np o ci idx N : Nat} (As : List Value) (rest : List Value) {T : u_T} {tt : Nat → FieldType} {kz : Option (Int64 × G)} (hC : ∀ u, kz = some u → ML E l y c' n' rt k 0 0 (.ref (E.ad o) :: As) g u) (hm : MLV own idx y c' n' rt np) (hk : kd o = ci) (hKC : KC ci y.cls T N tt) (hlen : As.length = np) (hR : (rmD k 0 0).frames + 1 ≤ R.frames ∧ 8 + (n' + 11) + (rmD k 0 0).locals ≤ R.locals) (hrest : (rest.map fun v => v.category).sum ≤ 8) (hf : cells + 0 ≤ R.cells ∧ slots + 0 ≤ R.slots) (hst : st = As.reverse ++ .ref (E.ad o) :: rest) (hd : decode cc pc = .ok (.invokevirtual idx, 3)) {fn : Int64 × G → Option ρ} (h : kz.bind fn = some r)
    (kk : ∀ (u : Int64 × G) (H1 : Heap) (locs1 : List Loc), Gd E s H1 locs1 u.2 xs → fn u = some r → W p l e R s m args below meth c H1 locs1 cells slots Q (F0 m (pc + 3) ls (.long u.1 :: rest))) : W p l e R s m args below meth c H locs cells slots Q (F0 m pc ls st) := by
  obtain ⟨u, hu, h⟩ := bind_inv h
  exact af_L hG (run_V C hls hG (hC u hu) hm hk hKC hlen hR hrest hf hst hd) (fun H1 locs1 a => kk u H1 locs1 a h)
theorem r_callVV (C : Cx p s m args meth c cc n own E) (hls : ls.size = n) (hG : Gd E s H locs g xs) {y : MethodName} {c' : ByteArray} {n' : Nat} {rt : Option FieldType} {k np o ci idx N : Nat} (As : List Value) (rest : List Value) {T : u_T} {tt : Nat → FieldType} {kz : Option G} (hC : ∀ u, kz = some u → MV E l y c' n' rt k 0 0 (.ref (E.ad o) :: As) g u) (hm : MLV own idx y c' n' rt np) (hk : kd o = ci) (hKC : KC ci y.cls T N tt) (hlen : As.length = np) (hR : (rmD k 0 0).frames + 1 ≤ R.frames ∧ 8 + (n' + 11) + (rmD k 0 0).locals ≤ R.locals) (hrest : (rest.map fun v => v.category).sum ≤ 8) (hf : cells + 0 ≤ R.cells ∧ slots + 0 ≤ R.slots) (hst : st = As.reverse ++ .ref (E.ad o) :: rest) (hd : decode cc pc = .ok (.invokevirtual idx, 3)) {fn : G → Option ρ} (h : kz.bind fn = some r)
    (kk : ∀ (u : G) (H1 : Heap) (locs1 : List Loc), Gd E s H1 locs1 u xs → fn u = some r → W p l e R s m args below meth c H1 locs1 cells slots Q (F0 m (pc + 3) ls rest)) : W p l e R s m args below meth c H locs cells slots Q (F0 m pc ls st) := by
  obtain ⟨u, hu, h⟩ := bind_inv h
  exact af_V hG (run_V C hls hG (hC u hu) hm hk hKC hlen hR hrest hf hst hd) (fun H1 locs1 a => kk u H1 locs1 a h)
theorem r_callSI (C : Cx p s m args meth c cc n own E) (hls : ls.size = n) (hG : Gd E s H locs g xs) {y : MethodName} {c' : ByteArray} {n' : Nat} {rt : Option FieldType} {k np idx : Nat} (As : List Value) (rest : List Value) {kz : Option (Int32 × G)} (hC : ∀ u, kz = some u → MI E l y c' n' rt k 0 0 As g u) (hm : MLS own idx y c' n' rt np) (hlen : As.length = np) (hR : (rmD k 0 0).frames + 1 ≤ R.frames ∧ 8 + (n' + 11) + (rmD k 0 0).locals ≤ R.locals) (hrest : (rest.map fun v => v.category).sum ≤ 8) (hf : cells + 0 ≤ R.cells ∧ slots + 0 ≤ R.slots) (hst : st = As.reverse ++ rest) (hd : decode cc pc = .ok (.invokestatic idx, 3)) {fn : Int32 × G → Option ρ} (h : kz.bind fn = some r)
    (kk : ∀ (u : Int32 × G) (H1 : Heap) (locs1 : List Loc), Gd E s H1 locs1 u.2 xs → fn u = some r → W p l e R s m args below meth c H1 locs1 cells slots Q (F0 m (pc + 3) ls (.int u.1 :: rest))) : W p l e R s m args below meth c H locs cells slots Q (F0 m pc ls st) := by
  obtain ⟨u, hu, h⟩ := bind_inv h
  exact af_I hG (run_S C hls hG (hC u hu) hm hlen hR hrest hf hst hd) (fun H1 locs1 a => kk u H1 locs1 a h)
theorem r_callSV (C : Cx p s m args meth c cc n own E) (hls : ls.size = n) (hG : Gd E s H locs g xs) {y : MethodName} {c' : ByteArray} {n' : Nat} {rt : Option FieldType} {k np idx : Nat} (As : List Value) (rest : List Value) {kz : Option G} (hC : ∀ u, kz = some u → MV E l y c' n' rt k 0 0 As g u) (hm : MLS own idx y c' n' rt np) (hlen : As.length = np) (hR : (rmD k 0 0).frames + 1 ≤ R.frames ∧ 8 + (n' + 11) + (rmD k 0 0).locals ≤ R.locals) (hrest : (rest.map fun v => v.category).sum ≤ 8) (hf : cells + 0 ≤ R.cells ∧ slots + 0 ≤ R.slots) (hst : st = As.reverse ++ rest) (hd : decode cc pc = .ok (.invokestatic idx, 3)) {fn : G → Option ρ} (h : kz.bind fn = some r)
    (kk : ∀ (u : G) (H1 : Heap) (locs1 : List Loc), Gd E s H1 locs1 u xs → fn u = some r → W p l e R s m args below meth c H1 locs1 cells slots Q (F0 m (pc + 3) ls rest)) : W p l e R s m args below meth c H locs cells slots Q (F0 m pc ls st) := by
  obtain ⟨u, hu, h⟩ := bind_inv h
  exact af_V hG (run_S C hls hG (hC u hu) hm hlen hR hrest hf hst hd) (fun H1 locs1 a => kk u H1 locs1 a h)
theorem r_callSA (C : Cx p s m args meth c cc n own E) (hls : ls.size = n) (hG : Gd E s H locs g xs) {y : MethodName} {c' : ByteArray} {n' : Nat} {rt : Option FieldType} {k np idx : Nat} (As : List Value) (rest : List Value) {kz : Option (Nat × G)} (hC : ∀ u, kz = some u → MA E l y c' n' rt k 0 0 As g u) (hm : MLS own idx y c' n' rt np) (hlen : As.length = np) (hR : (rmD k 0 0).frames + 1 ≤ R.frames ∧ 8 + (n' + 11) + (rmD k 0 0).locals ≤ R.locals) (hrest : (rest.map fun v => v.category).sum ≤ 8) (hf : cells + 0 ≤ R.cells ∧ slots + 0 ≤ R.slots) (hst : st = As.reverse ++ rest) (hd : decode cc pc = .ok (.invokestatic idx, 3)) {fn : Nat × G → Option ρ} (h : kz.bind fn = some r)
    (kk : ∀ (u : Nat × G) (H1 : Heap) (locs1 : List Loc), Gd E s H1 locs1 u.2 xs → fn u = some r → W p l e R s m args below meth c H1 locs1 cells slots Q (F0 m (pc + 3) ls (.ref (E.aK u.1) :: rest))) : W p l e R s m args below meth c H locs cells slots Q (F0 m pc ls st) := by
  obtain ⟨u, hu, h⟩ := bind_inv h
  exact af_A hG (run_S C hls hG (hC u hu) hm hlen hR hrest hf hst hd) (fun H1 locs1 a => kk u H1 locs1 a h)
/-! Math and arraycopy -/
def LMax (own : String) (i : Nat) : Prop := Cond.methodLink own i Lib.Math.max.name ∈ TB ∧ Cond.static Lib.Math.max.name ∈ TB ∧ Cond.initialized "java/lang/Math" ∈ TB ∧ Cond.code Lib.Math.max.name Lib.Math.max.code 2 (some .int) ∈ TB
def LMin (own : String) (i : Nat) : Prop := Cond.methodLink own i Lib.Math.min.name ∈ TB ∧ Cond.static Lib.Math.min.name ∈ TB ∧ Cond.initialized "java/lang/Math" ∈ TB ∧ Cond.code Lib.Math.min.name Lib.Math.min.code 2 (some .int) ∈ TB
def LAbs (own : String) (i : Nat) : Prop := Cond.methodLink own i Lib.Math.abs.name ∈ TB ∧ Cond.static Lib.Math.abs.name ∈ TB ∧ Cond.initialized "java/lang/Math" ∈ TB ∧ Cond.code Lib.Math.abs.name Lib.Math.abs.code 1 (some .int) ∈ TB
def LMaxL (own : String) (i : Nat) : Prop := Cond.methodLink own i Lib.MathLoose.max_long.x ∈ TB ∧ Cond.static Lib.MathLoose.max_long.x ∈ TB ∧ Cond.initialized "java/lang/Math" ∈ TB ∧ Cond.code Lib.MathLoose.max_long.x Lib.MathLoose.max_long.code 4 (some .long) ∈ TB
def LMinL (own : String) (i : Nat) : Prop := Cond.methodLink own i Lib.MathLoose.min_long.x ∈ TB ∧ Cond.static Lib.MathLoose.min_long.x ∈ TB ∧ Cond.initialized "java/lang/Math" ∈ TB ∧ Cond.code Lib.MathLoose.min_long.x Lib.MathLoose.min_long.code 4 (some .long) ∈ TB
def LCpy (own : String) (i : Nat) : Prop := Cond.methodLink own i arraycopyName ∈ TB ∧ Cond.native arraycopyName ∈ TB ∧ Cond.static arraycopyName ∈ TB ∧ Cond.initialized "java/lang/System" ∈ TB
theorem r_max (C : Cx p s m args meth c cc n own E) (hls : ls.size = n) {i : Nat} (hm : LMax own i) (hR : 1 ≤ R.frames ∧ (rest.map fun v => v.category).sum + 13 ≤ R.locals ∧ cells ≤ R.cells ∧ slots ≤ R.slots) {x y : Int32} (hd : decode cc pc = .ok (.invokestatic i, 3))
    (kk : W p l e R s m args below meth c H locs cells slots Q (F0 m (pc + 3) ls (.int (if x < y then y else x) :: rest))) : W p l e R s m args below meth c H locs cells slots Q (F0 m pc ls (.int y :: .int x :: rest)) := by
  obtain ⟨hx, hb, hml, hown, hts, -⟩ := C
  exact va_mmax hx hb (hml.trans hls.symm) hown (hts _ hm.1) (hts _ hm.2.1) (hts _ hm.2.2.1) (hts _ hm.2.2.2) hR.1 hR.2.1 hR.2.2.1 hR.2.2.2 hd kk
theorem r_min (C : Cx p s m args meth c cc n own E) (hls : ls.size = n) {i : Nat} (hm : LMin own i) (hR : 1 ≤ R.frames ∧ (rest.map fun v => v.category).sum + 13 ≤ R.locals ∧ cells ≤ R.cells ∧ slots ≤ R.slots) {x y : Int32} (hd : decode cc pc = .ok (.invokestatic i, 3))
    (kk : W p l e R s m args below meth c H locs cells slots Q (F0 m (pc + 3) ls (.int (if y < x then y else x) :: rest))) : W p l e R s m args below meth c H locs cells slots Q (F0 m pc ls (.int y :: .int x :: rest)) := by
  obtain ⟨hx, hb, hml, hown, hts, -⟩ := C
  exact va_mmin hx hb (hml.trans hls.symm) hown (hts _ hm.1) (hts _ hm.2.1) (hts _ hm.2.2.1) (hts _ hm.2.2.2) hR.1 hR.2.1 hR.2.2.1 hR.2.2.2 hd kk
theorem r_abs (C : Cx p s m args meth c cc n own E) (hls : ls.size = n) {i : Nat} (hm : LAbs own i) (hR : 1 ≤ R.frames ∧ (rest.map fun v => v.category).sum + 13 ≤ R.locals ∧ cells ≤ R.cells ∧ slots ≤ R.slots) {x : Int32} (hd : decode cc pc = .ok (.invokestatic i, 3))
    (kk : W p l e R s m args below meth c H locs cells slots Q (F0 m (pc + 3) ls (.int (if 0 ≤ x then x else 0 - x) :: rest))) : W p l e R s m args below meth c H locs cells slots Q (F0 m pc ls (.int x :: rest)) := by
  obtain ⟨hx, hb, hml, hown, hts, -⟩ := C
  exact va_mabs hx hb (hml.trans hls.symm) hown (hts _ hm.1) (hts _ hm.2.1) (hts _ hm.2.2.1) (hts _ hm.2.2.2) hR.1 hR.2.1 hR.2.2.1 hR.2.2.2 hd kk
theorem r_maxL (C : Cx p s m args meth c cc n own E) (hls : ls.size = n) {i : Nat} (hm : LMaxL own i) (hR : 1 ≤ R.frames ∧ (rest.map fun v => v.category).sum + 15 ≤ R.locals ∧ cells ≤ R.cells ∧ slots ≤ R.slots) {x y : Int64} (hd : decode cc pc = .ok (.invokestatic i, 3))
    (kk : W p l e R s m args below meth c H locs cells slots Q (F0 m (pc + 3) ls (.long (if y < x then x else y) :: rest))) : W p l e R s m args below meth c H locs cells slots Q (F0 m pc ls (.long y :: .long x :: rest)) := by
  obtain ⟨hx, hb, hml, hown, hts, -⟩ := C
  exact va_mmax_long hx hb (hml.trans hls.symm) hown (hts _ hm.1) (hts _ hm.2.1) (hts _ hm.2.2.1) (hts _ hm.2.2.2) hR.1 hR.2.1 hR.2.2.1 hR.2.2.2 hd kk
theorem r_minL (C : Cx p s m args meth c cc n own E) (hls : ls.size = n) {i : Nat} (hm : LMinL own i) (hR : 1 ≤ R.frames ∧ (rest.map fun v => v.category).sum + 15 ≤ R.locals ∧ cells ≤ R.cells ∧ slots ≤ R.slots) {x y : Int64} (hd : decode cc pc = .ok (.invokestatic i, 3))
    (kk : W p l e R s m args below meth c H locs cells slots Q (F0 m (pc + 3) ls (.long (if y < x then y else x) :: rest))) : W p l e R s m args below meth c H locs cells slots Q (F0 m pc ls (.long y :: .long x :: rest)) := by
  obtain ⟨hx, hb, hml, hown, hts, -⟩ := C
  exact va_mmin_long hx hb (hml.trans hls.symm) hown (hts _ hm.1) (hts _ hm.2.1) (hts _ hm.2.2.1) (hts _ hm.2.2.2) hR.1 hR.2.1 hR.2.2.1 hR.2.2.2 hd kk
theorem r_cpy (C : Cx p s m args meth c cc n own E) (hls : ls.size = n) (hG : Gd E s H locs g xs) {i a b N : Nat} (hm : LCpy own i) (ha : kd a = 100000 + N) (hb9 : kd b = 100000 + N) (hN : N < 100000) {z : Int32} (hz : z = nI N) (hR : 1 ≤ R.frames ∧ (rest.map fun v => v.category).sum + (nativeFrameWords "java/lang/System" "arraycopy" 5 + 11) ≤ R.locals) (hd : decode cc pc = .ok (.invokestatic i, 3)) {fn : G → Option ρ} (h : bd (cpy g a b N) fn = some r)
    (kk : ∀ (H1 : Heap) (locs1 : List Loc) (g1 : G), Gd E s H1 locs1 g1 xs → fn g1 = some r → W p l e R s m args below meth c H1 locs1 cells slots Q (F0 m (pc + 3) ls rest)) : W p l e R s m args below meth c H locs cells slots Q (F0 m pc ls (.int z :: .int 0 :: .ref (E.ad b) :: .int 0 :: .ref (E.ad a) :: rest)) := by
  obtain ⟨hx, hb, hml, hown, hts, hK, -⟩ := C
  subst hz
  have hoa : a < NC := kd_lt ha (by omega)
  have hob : b < NC := kd_lt hb9 (by omega)
  have hea : (wl E g ++ xs)[a]? = some (E.ad a, .inl (E.tI, N, .inl (g a))) := by rw [wlx_at hoa, cel_i ha hN]
  have heb : (wl E g ++ xs)[b]? = some (E.ad b, .inl (E.tI, N, .inl (g b))) := by rw [wlx_at hob, cel_i hb9 hN]
  have hcl : (nI N).toNatClampNeg = N := nI_clamp (by omega)
  have h0 : (0 : Int32).toNatClampNeg = 0 := by decide
  have hset : (wl E g ++ xs).set b (E.ad b, .inl (E.tI, N, .inl (va_cpy (g a) (g b) (0 : Int32).toNatClampNeg (0 : Int32).toNatClampNeg (nI N).toNatClampNeg))) = wl E (cpy g a b N) ++ xs := by
    rw [hcl, h0]
    have hf : va_cpy (g a) (g b) 0 0 N = cpy g a b N b := by
      funext j
      by_cases hj : j < N <;> simp [va_cpy, cpy, hj]
    have hne : ∀ i9, i9 ≠ b → cpy g a b N i9 = g i9 := fun i9 hi => funext fun _ => if_neg (fun q => hi q.1)
    apply List.ext_getElem?
    intro i9
    rw [List.getElem?_set]
    by_cases hi : b = i9
    · subst hi
      rw [if_pos rfl, if_pos (by rw [List.length_append, wl_len]; omega), wlx_at hob, cel_i hb9 hN, hf]
    · rw [if_neg hi]
      by_cases hN9 : i9 < NC
      · rw [wlx_at hN9, wlx_at hN9]
        unfold cel fsl fval
        rw [hne i9 (Ne.symm hi)]
      · rw [wlx_ge hN9, wlx_ge hN9]
  refine va_copyi hx hb (hml.trans hls.symm) hown (hts _ hm.1) (hts _ hm.2.1) (hts _ hm.2.2.1) (hts _ hm.2.2.2) hK hG.1 hG.2.1 hG.2.2 a b 0 0 hea heb rfl rfl rfl (by decide) (by decide) (nI_pos (by omega)) (by rw [hcl, h0]; omega) (by rw [hcl, h0]; omega) (fun _ _ => rfl) hR.1 hR.2 hd (fun H1 locs1 a1 a2 a3 => ?_)
  rw [hset] at a1 a2
  exact kk H1 locs1 _ ⟨a1, a2, a3⟩ h
end CALLS
end
