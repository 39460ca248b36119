-- ===== PART A: goes FIRST, ahead of the names: the tables' words, and 'selects' of the private methods out of them =====
/-- a private method of a class that the tables say can be made, by its rows of tables_1 -/
def lw_okq (q : MethodName × Nat) : Prop := (q.1.cls ≠ "java/lang/invoke/MethodHandle" ∧ q.1.cls ≠ "java/lang/invoke/VarHandle") ∧ Cond.instantiable q.1.cls q.2 ∈ tables_1 ∧ Cond.privateMethod q.1 ∈ tables_1 ∧ Cond.instanceMethod q.1 ∈ tables_1
theorem lw_p0 : lw_okq (⟨"PeriscopeTrain$Tokens", "readToken", "(I)I"⟩, 6) := ⟨⟨by decide +kernel, by decide +kernel⟩, List.mem_of_getElem? (i := 51) (by decide +kernel), List.mem_of_getElem? (i := 318) (by decide +kernel), List.mem_of_getElem? (i := 319) (by decide +kernel)⟩
theorem lw_p1 : lw_okq (⟨"PeriscopeTrain$Tokens", "readWord", "(I)I"⟩, 6) := ⟨⟨by decide +kernel, by decide +kernel⟩, List.mem_of_getElem? (i := 51) (by decide +kernel), List.mem_of_getElem? (i := 326) (by decide +kernel), List.mem_of_getElem? (i := 327) (by decide +kernel)⟩
theorem lw_p2 : lw_okq (⟨"PeriscopeTrain$Tokens", "add", "(III)V"⟩, 6) := ⟨⟨by decide +kernel, by decide +kernel⟩, List.mem_of_getElem? (i := 51) (by decide +kernel), List.mem_of_getElem? (i := 420) (by decide +kernel), List.mem_of_getElem? (i := 421) (by decide +kernel)⟩
theorem lw_p3 : lw_okq (⟨"PeriscopeTrain$Tokens", "readNumber", "(I)I"⟩, 6) := ⟨⟨by decide +kernel, by decide +kernel⟩, List.mem_of_getElem? (i := 51) (by decide +kernel), List.mem_of_getElem? (i := 425) (by decide +kernel), List.mem_of_getElem? (i := 426) (by decide +kernel)⟩
theorem lw_p4 : lw_okq (⟨"PeriscopeTrain$Tokens", "readSymbol", "(II)I"⟩, 6) := ⟨⟨by decide +kernel, by decide +kernel⟩, List.mem_of_getElem? (i := 51) (by decide +kernel), List.mem_of_getElem? (i := 437) (by decide +kernel), List.mem_of_getElem? (i := 438) (by decide +kernel)⟩
theorem lw_p5 : lw_okq (⟨"PeriscopeTrain$Grammar", "isNext", "(I)Z"⟩, 3) := ⟨⟨by decide +kernel, by decide +kernel⟩, List.mem_of_getElem? (i := 125) (by decide +kernel), List.mem_of_getElem? (i := 509) (by decide +kernel), List.mem_of_getElem? (i := 510) (by decide +kernel)⟩
theorem lw_p6 : lw_okq (⟨"PeriscopeTrain$Grammar", "line", "()Z"⟩, 3) := ⟨⟨by decide +kernel, by decide +kernel⟩, List.mem_of_getElem? (i := 125) (by decide +kernel), List.mem_of_getElem? (i := 517) (by decide +kernel), List.mem_of_getElem? (i := 518) (by decide +kernel)⟩
theorem lw_p7 : lw_okq (⟨"PeriscopeTrain$Grammar", "take", "(I)Z"⟩, 3) := ⟨⟨by decide +kernel, by decide +kernel⟩, List.mem_of_getElem? (i := 125) (by decide +kernel), List.mem_of_getElem? (i := 521) (by decide +kernel), List.mem_of_getElem? (i := 522) (by decide +kernel)⟩
theorem lw_p8 : lw_okq (⟨"PeriscopeTrain$Grammar", "mirror", "()Z"⟩, 3) := ⟨⟨by decide +kernel, by decide +kernel⟩, List.mem_of_getElem? (i := 125) (by decide +kernel), List.mem_of_getElem? (i := 525) (by decide +kernel), List.mem_of_getElem? (i := 526) (by decide +kernel)⟩
theorem lw_p9 : lw_okq (⟨"PeriscopeTrain$Grammar", "order", "(I)Z"⟩, 3) := ⟨⟨by decide +kernel, by decide +kernel⟩, List.mem_of_getElem? (i := 125) (by decide +kernel), List.mem_of_getElem? (i := 529) (by decide +kernel), List.mem_of_getElem? (i := 530) (by decide +kernel)⟩
theorem lw_p10 : lw_okq (⟨"PeriscopeTrain$Grammar", "sum", "(I)Z"⟩, 3) := ⟨⟨by decide +kernel, by decide +kernel⟩, List.mem_of_getElem? (i := 125) (by decide +kernel), List.mem_of_getElem? (i := 539) (by decide +kernel), List.mem_of_getElem? (i := 540) (by decide +kernel)⟩
theorem lw_p11 : lw_okq (⟨"PeriscopeTrain$Grammar", "product", "(I)Z"⟩, 3) := ⟨⟨by decide +kernel, by decide +kernel⟩, List.mem_of_getElem? (i := 125) (by decide +kernel), List.mem_of_getElem? (i := 543) (by decide +kernel), List.mem_of_getElem? (i := 544) (by decide +kernel)⟩
theorem lw_p12 : lw_okq (⟨"PeriscopeTrain$Grammar", "value", "(I)Z"⟩, 3) := ⟨⟨by decide +kernel, by decide +kernel⟩, List.mem_of_getElem? (i := 125) (by decide +kernel), List.mem_of_getElem? (i := 547) (by decide +kernel), List.mem_of_getElem? (i := 548) (by decide +kernel)⟩
theorem lw_p13 : lw_okq (⟨"PeriscopeTrain$Grammar", "pair", "(II)Z"⟩, 3) := ⟨⟨by decide +kernel, by decide +kernel⟩, List.mem_of_getElem? (i := 125) (by decide +kernel), List.mem_of_getElem? (i := 555) (by decide +kernel), List.mem_of_getElem? (i := 556) (by decide +kernel)⟩
theorem lw_p14 : lw_okq (⟨"PeriscopeTrain$Grammar", "test", "(I)Z"⟩, 3) := ⟨⟨by decide +kernel, by decide +kernel⟩, List.mem_of_getElem? (i := 125) (by decide +kernel), List.mem_of_getElem? (i := 559) (by decide +kernel), List.mem_of_getElem? (i := 560) (by decide +kernel)⟩
theorem lw_p15 : lw_okq (⟨"PeriscopeTrain$Grammar", "both", "(I)Z"⟩, 3) := ⟨⟨by decide +kernel, by decide +kernel⟩, List.mem_of_getElem? (i := 125) (by decide +kernel), List.mem_of_getElem? (i := 563) (by decide +kernel), List.mem_of_getElem? (i := 564) (by decide +kernel)⟩
def lw_privs_1 : List (MethodName × Nat) := [(⟨"PeriscopeTrain$Tokens", "readToken", "(I)I"⟩, 6), (⟨"PeriscopeTrain$Tokens", "readWord", "(I)I"⟩, 6), (⟨"PeriscopeTrain$Tokens", "add", "(III)V"⟩, 6), (⟨"PeriscopeTrain$Tokens", "readNumber", "(I)I"⟩, 6), (⟨"PeriscopeTrain$Tokens", "readSymbol", "(II)I"⟩, 6), (⟨"PeriscopeTrain$Grammar", "isNext", "(I)Z"⟩, 3), (⟨"PeriscopeTrain$Grammar", "line", "()Z"⟩, 3), (⟨"PeriscopeTrain$Grammar", "take", "(I)Z"⟩, 3), (⟨"PeriscopeTrain$Grammar", "mirror", "()Z"⟩, 3), (⟨"PeriscopeTrain$Grammar", "order", "(I)Z"⟩, 3), (⟨"PeriscopeTrain$Grammar", "sum", "(I)Z"⟩, 3), (⟨"PeriscopeTrain$Grammar", "product", "(I)Z"⟩, 3), (⟨"PeriscopeTrain$Grammar", "value", "(I)Z"⟩, 3), (⟨"PeriscopeTrain$Grammar", "pair", "(II)Z"⟩, 3), (⟨"PeriscopeTrain$Grammar", "test", "(I)Z"⟩, 3), (⟨"PeriscopeTrain$Grammar", "both", "(I)Z"⟩, 3)]
theorem lw_r1 : ∀ q ∈ lw_privs_1, lw_okq q := List.forall_mem_cons.mpr ⟨lw_p0, List.forall_mem_cons.mpr ⟨lw_p1, List.forall_mem_cons.mpr ⟨lw_p2, List.forall_mem_cons.mpr ⟨lw_p3, List.forall_mem_cons.mpr ⟨lw_p4, List.forall_mem_cons.mpr ⟨lw_p5, List.forall_mem_cons.mpr ⟨lw_p6, List.forall_mem_cons.mpr ⟨lw_p7, List.forall_mem_cons.mpr ⟨lw_p8, List.forall_mem_cons.mpr ⟨lw_p9, List.forall_mem_cons.mpr ⟨lw_p10, List.forall_mem_cons.mpr ⟨lw_p11, List.forall_mem_cons.mpr ⟨lw_p12, List.forall_mem_cons.mpr ⟨lw_p13, List.forall_mem_cons.mpr ⟨lw_p14, List.forall_mem_cons.mpr ⟨lw_p15, fun _ h => absurd h List.not_mem_nil⟩⟩⟩⟩⟩⟩⟩⟩⟩⟩⟩⟩⟩⟩⟩⟩
theorem lw_p16 : lw_okq (⟨"PeriscopeTrain$Grammar", "single", "(I)Z"⟩, 3) := ⟨⟨by decide +kernel, by decide +kernel⟩, List.mem_of_getElem? (i := 125) (by decide +kernel), List.mem_of_getElem? (i := 567) (by decide +kernel), List.mem_of_getElem? (i := 568) (by decide +kernel)⟩
theorem lw_p17 : lw_okq (⟨"PeriscopeTrain$Meaning", "errorOf", "(I)I"⟩, 5) := ⟨⟨by decide +kernel, by decide +kernel⟩, List.mem_of_getElem? (i := 141) (by decide +kernel), List.mem_of_getElem? (i := 575) (by decide +kernel), List.mem_of_getElem? (i := 576) (by decide +kernel)⟩
theorem lw_p18 : lw_okq (⟨"PeriscopeTrain$Meaning", "errorOfNewName", "(I)I"⟩, 5) := ⟨⟨by decide +kernel, by decide +kernel⟩, List.mem_of_getElem? (i := 141) (by decide +kernel), List.mem_of_getElem? (i := 580) (by decide +kernel), List.mem_of_getElem? (i := 581) (by decide +kernel)⟩
theorem lw_p19 : lw_okq (⟨"PeriscopeTrain$Meaning", "mirrorNamed", "(I)I"⟩, 5) := ⟨⟨by decide +kernel, by decide +kernel⟩, List.mem_of_getElem? (i := 141) (by decide +kernel), List.mem_of_getElem? (i := 584) (by decide +kernel), List.mem_of_getElem? (i := 585) (by decide +kernel)⟩
theorem lw_p20 : lw_okq (⟨"PeriscopeTrain$Meaning", "errorOfName", "(I)I"⟩, 5) := ⟨⟨by decide +kernel, by decide +kernel⟩, List.mem_of_getElem? (i := 141) (by decide +kernel), List.mem_of_getElem? (i := 596) (by decide +kernel), List.mem_of_getElem? (i := 597) (by decide +kernel)⟩
theorem lw_p21 : lw_okq (⟨"PeriscopeTrain$Meaning", "errorOfNumber", "(I)I"⟩, 5) := ⟨⟨by decide +kernel, by decide +kernel⟩, List.mem_of_getElem? (i := 141) (by decide +kernel), List.mem_of_getElem? (i := 601) (by decide +kernel), List.mem_of_getElem? (i := 602) (by decide +kernel)⟩
theorem lw_p22 : lw_okq (⟨"PeriscopeTrain$Meaning", "errorOfOrder", "()I"⟩, 5) := ⟨⟨by decide +kernel, by decide +kernel⟩, List.mem_of_getElem? (i := 141) (by decide +kernel), List.mem_of_getElem? (i := 618) (by decide +kernel), List.mem_of_getElem? (i := 619) (by decide +kernel)⟩
theorem lw_p23 : lw_okq (⟨"PeriscopeTrain$Row", "shine", "()V"⟩, 14) := ⟨⟨by decide +kernel, by decide +kernel⟩, List.mem_of_getElem? (i := 170) (by decide +kernel), List.mem_of_getElem? (i := 675) (by decide +kernel), List.mem_of_getElem? (i := 676) (by decide +kernel)⟩
theorem lw_p24 : lw_okq (⟨"PeriscopeTrain$Row", "has", "(I)Z"⟩, 14) := ⟨⟨by decide +kernel, by decide +kernel⟩, List.mem_of_getElem? (i := 170) (by decide +kernel), List.mem_of_getElem? (i := 683) (by decide +kernel), List.mem_of_getElem? (i := 684) (by decide +kernel)⟩
theorem lw_p25 : lw_okq (⟨"PeriscopeTrain$Row", "isWithinWidth", "(I)Z"⟩, 14) := ⟨⟨by decide +kernel, by decide +kernel⟩, List.mem_of_getElem? (i := 170) (by decide +kernel), List.mem_of_getElem? (i := 687) (by decide +kernel), List.mem_of_getElem? (i := 688) (by decide +kernel)⟩
theorem lw_p26 : lw_okq (⟨"PeriscopeTrain$World", "follow", "(II)V"⟩, 6) := ⟨⟨by decide +kernel, by decide +kernel⟩, List.mem_of_getElem? (i := 164) (by decide +kernel), List.mem_of_getElem? (i := 741) (by decide +kernel), List.mem_of_getElem? (i := 742) (by decide +kernel)⟩
theorem lw_p27 : lw_okq (⟨"PeriscopeTrain$World", "carryOut", "(II)V"⟩, 6) := ⟨⟨by decide +kernel, by decide +kernel⟩, List.mem_of_getElem? (i := 164) (by decide +kernel), List.mem_of_getElem? (i := 746) (by decide +kernel), List.mem_of_getElem? (i := 747) (by decide +kernel)⟩
theorem lw_p28 : lw_okq (⟨"PeriscopeTrain$World", "pop", "()I"⟩, 6) := ⟨⟨by decide +kernel, by decide +kernel⟩, List.mem_of_getElem? (i := 164) (by decide +kernel), List.mem_of_getElem? (i := 750) (by decide +kernel), List.mem_of_getElem? (i := 751) (by decide +kernel)⟩
theorem lw_p29 : lw_okq (⟨"PeriscopeTrain$World", "push", "(I)V"⟩, 6) := ⟨⟨by decide +kernel, by decide +kernel⟩, List.mem_of_getElem? (i := 164) (by decide +kernel), List.mem_of_getElem? (i := 788) (by decide +kernel), List.mem_of_getElem? (i := 789) (by decide +kernel)⟩
theorem lw_p30 : lw_okq (⟨"PeriscopeTrain$World", "valueOf", "(II)I"⟩, 6) := ⟨⟨by decide +kernel, by decide +kernel⟩, List.mem_of_getElem? (i := 164) (by decide +kernel), List.mem_of_getElem? (i := 800) (by decide +kernel), List.mem_of_getElem? (i := 801) (by decide +kernel)⟩
theorem lw_p31 : lw_okq (⟨"PeriscopeTrain$World", "work", "()V"⟩, 6) := ⟨⟨by decide +kernel, by decide +kernel⟩, List.mem_of_getElem? (i := 164) (by decide +kernel), List.mem_of_getElem? (i := 814) (by decide +kernel), List.mem_of_getElem? (i := 815) (by decide +kernel)⟩
def lw_privs_2 : List (MethodName × Nat) := [(⟨"PeriscopeTrain$Grammar", "single", "(I)Z"⟩, 3), (⟨"PeriscopeTrain$Meaning", "errorOf", "(I)I"⟩, 5), (⟨"PeriscopeTrain$Meaning", "errorOfNewName", "(I)I"⟩, 5), (⟨"PeriscopeTrain$Meaning", "mirrorNamed", "(I)I"⟩, 5), (⟨"PeriscopeTrain$Meaning", "errorOfName", "(I)I"⟩, 5), (⟨"PeriscopeTrain$Meaning", "errorOfNumber", "(I)I"⟩, 5), (⟨"PeriscopeTrain$Meaning", "errorOfOrder", "()I"⟩, 5), (⟨"PeriscopeTrain$Row", "shine", "()V"⟩, 14), (⟨"PeriscopeTrain$Row", "has", "(I)Z"⟩, 14), (⟨"PeriscopeTrain$Row", "isWithinWidth", "(I)Z"⟩, 14), (⟨"PeriscopeTrain$World", "follow", "(II)V"⟩, 6), (⟨"PeriscopeTrain$World", "carryOut", "(II)V"⟩, 6), (⟨"PeriscopeTrain$World", "pop", "()I"⟩, 6), (⟨"PeriscopeTrain$World", "push", "(I)V"⟩, 6), (⟨"PeriscopeTrain$World", "valueOf", "(II)I"⟩, 6), (⟨"PeriscopeTrain$World", "work", "()V"⟩, 6)]
theorem lw_r2 : ∀ q ∈ lw_privs_2, lw_okq q := List.forall_mem_cons.mpr ⟨lw_p16, List.forall_mem_cons.mpr ⟨lw_p17, List.forall_mem_cons.mpr ⟨lw_p18, List.forall_mem_cons.mpr ⟨lw_p19, List.forall_mem_cons.mpr ⟨lw_p20, List.forall_mem_cons.mpr ⟨lw_p21, List.forall_mem_cons.mpr ⟨lw_p22, List.forall_mem_cons.mpr ⟨lw_p23, List.forall_mem_cons.mpr ⟨lw_p24, List.forall_mem_cons.mpr ⟨lw_p25, List.forall_mem_cons.mpr ⟨lw_p26, List.forall_mem_cons.mpr ⟨lw_p27, List.forall_mem_cons.mpr ⟨lw_p28, List.forall_mem_cons.mpr ⟨lw_p29, List.forall_mem_cons.mpr ⟨lw_p30, List.forall_mem_cons.mpr ⟨lw_p31, fun _ h => absurd h List.not_mem_nil⟩⟩⟩⟩⟩⟩⟩⟩⟩⟩⟩⟩⟩⟩⟩⟩
theorem lw_p32 : lw_okq (⟨"PeriscopeTrain$World", "minutesFor", "(II)I"⟩, 6) := ⟨⟨by decide +kernel, by decide +kernel⟩, List.mem_of_getElem? (i := 164) (by decide +kernel), List.mem_of_getElem? (i := 826) (by decide +kernel), List.mem_of_getElem? (i := 827) (by decide +kernel)⟩
theorem lw_p33 : lw_okq (⟨"PeriscopeTrain$World", "finish", "(II)V"⟩, 6) := ⟨⟨by decide +kernel, by decide +kernel⟩, List.mem_of_getElem? (i := 164) (by decide +kernel), List.mem_of_getElem? (i := 845) (by decide +kernel), List.mem_of_getElem? (i := 846) (by decide +kernel)⟩
theorem lw_p34 : lw_okq (⟨"PeriscopeTrain", "digestOfMirror", "(JI)J"⟩, 9) := ⟨⟨by decide +kernel, by decide +kernel⟩, List.mem_of_getElem? (i := 27) (by decide +kernel), List.mem_of_getElem? (i := 883) (by decide +kernel), List.mem_of_getElem? (i := 884) (by decide +kernel)⟩
theorem lw_p35 : lw_okq (⟨"java/lang/Throwable", "fillInStackTrace", "(I)Ljava/lang/Throwable;"⟩, 6) := ⟨⟨by decide +kernel, by decide +kernel⟩, List.mem_of_getElem? (i := 942) (by decide +kernel), List.mem_of_getElem? (i := 940) (by decide +kernel), List.mem_of_getElem? (i := 941) (by decide +kernel)⟩
theorem lw_p36 : lw_okq (⟨"PeriscopeTrain", "checkMirror", "(I)V"⟩, 9) := ⟨⟨by decide +kernel, by decide +kernel⟩, List.mem_of_getElem? (i := 27) (by decide +kernel), List.mem_of_getElem? (i := 1019) (by decide +kernel), List.mem_of_getElem? (i := 1020) (by decide +kernel)⟩
theorem lw_p37 : lw_okq (⟨"PeriscopeTrain", "checkJob", "(I)V"⟩, 9) := ⟨⟨by decide +kernel, by decide +kernel⟩, List.mem_of_getElem? (i := 27) (by decide +kernel), List.mem_of_getElem? (i := 1104) (by decide +kernel), List.mem_of_getElem? (i := 1105) (by decide +kernel)⟩
theorem lw_p38 : lw_okq (⟨"PeriscopeTrain", "lightIfTurned", "(II)I"⟩, 9) := ⟨⟨by decide +kernel, by decide +kernel⟩, List.mem_of_getElem? (i := 27) (by decide +kernel), List.mem_of_getElem? (i := 1197) (by decide +kernel), List.mem_of_getElem? (i := 1198) (by decide +kernel)⟩
theorem lw_p39 : lw_okq (⟨"PeriscopeTrainModel", "no", "(I)I"⟩, 24) := ⟨⟨by decide +kernel, by decide +kernel⟩, List.mem_of_getElem? (i := 1201) (by decide +kernel), List.mem_of_getElem? (i := 1409) (by decide +kernel), List.mem_of_getElem? (i := 1410) (by decide +kernel)⟩
theorem lw_p40 : lw_okq (⟨"PeriscopeTrainModel", "readAll", "()V"⟩, 24) := ⟨⟨by decide +kernel, by decide +kernel⟩, List.mem_of_getElem? (i := 1201) (by decide +kernel), List.mem_of_getElem? (i := 1428) (by decide +kernel), List.mem_of_getElem? (i := 1429) (by decide +kernel)⟩
theorem lw_p41 : lw_okq (⟨"PeriscopeTrainModel", "skip", "(I)I"⟩, 24) := ⟨⟨by decide +kernel, by decide +kernel⟩, List.mem_of_getElem? (i := 1201) (by decide +kernel), List.mem_of_getElem? (i := 1432) (by decide +kernel), List.mem_of_getElem? (i := 1433) (by decide +kernel)⟩
theorem lw_p42 : lw_okq (⟨"PeriscopeTrainModel", "byteAt", "(I)I"⟩, 24) := ⟨⟨by decide +kernel, by decide +kernel⟩, List.mem_of_getElem? (i := 1201) (by decide +kernel), List.mem_of_getElem? (i := 1436) (by decide +kernel), List.mem_of_getElem? (i := 1437) (by decide +kernel)⟩
theorem lw_p43 : lw_okq (⟨"PeriscopeTrainModel", "read", "(II)I"⟩, 24) := ⟨⟨by decide +kernel, by decide +kernel⟩, List.mem_of_getElem? (i := 1201) (by decide +kernel), List.mem_of_getElem? (i := 1440) (by decide +kernel), List.mem_of_getElem? (i := 1441) (by decide +kernel)⟩
theorem lw_p44 : lw_okq (⟨"PeriscopeTrainModel", "keyword", "(II)I"⟩, 24) := ⟨⟨by decide +kernel, by decide +kernel⟩, List.mem_of_getElem? (i := 1201) (by decide +kernel), List.mem_of_getElem? (i := 1450) (by decide +kernel), List.mem_of_getElem? (i := 1451) (by decide +kernel)⟩
theorem lw_p45 : lw_okq (⟨"PeriscopeTrainModel", "isWord", "(IILjava/lang/String;)Z"⟩, 24) := ⟨⟨by decide +kernel, by decide +kernel⟩, List.mem_of_getElem? (i := 1201) (by decide +kernel), List.mem_of_getElem? (i := 1456) (by decide +kernel), List.mem_of_getElem? (i := 1457) (by decide +kernel)⟩
theorem lw_p46 : lw_okq (⟨"PeriscopeTrainModel", "train", "()V"⟩, 24) := ⟨⟨by decide +kernel, by decide +kernel⟩, List.mem_of_getElem? (i := 1201) (by decide +kernel), List.mem_of_getElem? (i := 1465) (by decide +kernel), List.mem_of_getElem? (i := 1466) (by decide +kernel)⟩
theorem lw_p47 : lw_okq (⟨"PeriscopeTrainModel", "line", "()V"⟩, 24) := ⟨⟨by decide +kernel, by decide +kernel⟩, List.mem_of_getElem? (i := 1201) (by decide +kernel), List.mem_of_getElem? (i := 1469) (by decide +kernel), List.mem_of_getElem? (i := 1470) (by decide +kernel)⟩
def lw_privs_3 : List (MethodName × Nat) := [(⟨"PeriscopeTrain$World", "minutesFor", "(II)I"⟩, 6), (⟨"PeriscopeTrain$World", "finish", "(II)V"⟩, 6), (⟨"PeriscopeTrain", "digestOfMirror", "(JI)J"⟩, 9), (⟨"java/lang/Throwable", "fillInStackTrace", "(I)Ljava/lang/Throwable;"⟩, 6), (⟨"PeriscopeTrain", "checkMirror", "(I)V"⟩, 9), (⟨"PeriscopeTrain", "checkJob", "(I)V"⟩, 9), (⟨"PeriscopeTrain", "lightIfTurned", "(II)I"⟩, 9), (⟨"PeriscopeTrainModel", "no", "(I)I"⟩, 24), (⟨"PeriscopeTrainModel", "readAll", "()V"⟩, 24), (⟨"PeriscopeTrainModel", "skip", "(I)I"⟩, 24), (⟨"PeriscopeTrainModel", "byteAt", "(I)I"⟩, 24), (⟨"PeriscopeTrainModel", "read", "(II)I"⟩, 24), (⟨"PeriscopeTrainModel", "keyword", "(II)I"⟩, 24), (⟨"PeriscopeTrainModel", "isWord", "(IILjava/lang/String;)Z"⟩, 24), (⟨"PeriscopeTrainModel", "train", "()V"⟩, 24), (⟨"PeriscopeTrainModel", "line", "()V"⟩, 24)]
theorem lw_r3 : ∀ q ∈ lw_privs_3, lw_okq q := List.forall_mem_cons.mpr ⟨lw_p32, List.forall_mem_cons.mpr ⟨lw_p33, List.forall_mem_cons.mpr ⟨lw_p34, List.forall_mem_cons.mpr ⟨lw_p35, List.forall_mem_cons.mpr ⟨lw_p36, List.forall_mem_cons.mpr ⟨lw_p37, List.forall_mem_cons.mpr ⟨lw_p38, List.forall_mem_cons.mpr ⟨lw_p39, List.forall_mem_cons.mpr ⟨lw_p40, List.forall_mem_cons.mpr ⟨lw_p41, List.forall_mem_cons.mpr ⟨lw_p42, List.forall_mem_cons.mpr ⟨lw_p43, List.forall_mem_cons.mpr ⟨lw_p44, List.forall_mem_cons.mpr ⟨lw_p45, List.forall_mem_cons.mpr ⟨lw_p46, List.forall_mem_cons.mpr ⟨lw_p47, fun _ h => absurd h List.not_mem_nil⟩⟩⟩⟩⟩⟩⟩⟩⟩⟩⟩⟩⟩⟩⟩⟩
theorem lw_p48 : lw_okq (⟨"PeriscopeTrainModel", "takes", "(I)Z"⟩, 24) := ⟨⟨by decide +kernel, by decide +kernel⟩, List.mem_of_getElem? (i := 1201) (by decide +kernel), List.mem_of_getElem? (i := 1473) (by decide +kernel), List.mem_of_getElem? (i := 1474) (by decide +kernel)⟩
theorem lw_p49 : lw_okq (⟨"PeriscopeTrainModel", "is", "(I)Z"⟩, 24) := ⟨⟨by decide +kernel, by decide +kernel⟩, List.mem_of_getElem? (i := 1201) (by decide +kernel), List.mem_of_getElem? (i := 1477) (by decide +kernel), List.mem_of_getElem? (i := 1478) (by decide +kernel)⟩
theorem lw_p50 : lw_okq (⟨"PeriscopeTrainModel", "mirror", "()V"⟩, 24) := ⟨⟨by decide +kernel, by decide +kernel⟩, List.mem_of_getElem? (i := 1201) (by decide +kernel), List.mem_of_getElem? (i := 1481) (by decide +kernel), List.mem_of_getElem? (i := 1482) (by decide +kernel)⟩
theorem lw_p51 : lw_okq (⟨"PeriscopeTrainModel", "known", "()I"⟩, 24) := ⟨⟨by decide +kernel, by decide +kernel⟩, List.mem_of_getElem? (i := 1201) (by decide +kernel), List.mem_of_getElem? (i := 1486) (by decide +kernel), List.mem_of_getElem? (i := 1487) (by decide +kernel)⟩
theorem lw_p52 : lw_okq (⟨"PeriscopeTrainModel", "isSameName", "(II)Z"⟩, 24) := ⟨⟨by decide +kernel, by decide +kernel⟩, List.mem_of_getElem? (i := 1201) (by decide +kernel), List.mem_of_getElem? (i := 1490) (by decide +kernel), List.mem_of_getElem? (i := 1491) (by decide +kernel)⟩
theorem lw_p53 : lw_okq (⟨"PeriscopeTrainModel", "mark", "(I)V"⟩, 24) := ⟨⟨by decide +kernel, by decide +kernel⟩, List.mem_of_getElem? (i := 1201) (by decide +kernel), List.mem_of_getElem? (i := 1494) (by decide +kernel), List.mem_of_getElem? (i := 1495) (by decide +kernel)⟩
theorem lw_p54 : lw_okq (⟨"PeriscopeTrainModel", "take", "(I)V"⟩, 24) := ⟨⟨by decide +kernel, by decide +kernel⟩, List.mem_of_getElem? (i := 1201) (by decide +kernel), List.mem_of_getElem? (i := 1498) (by decide +kernel), List.mem_of_getElem? (i := 1499) (by decide +kernel)⟩
theorem lw_p55 : lw_okq (⟨"PeriscopeTrainModel", "wrong", "()V"⟩, 24) := ⟨⟨by decide +kernel, by decide +kernel⟩, List.mem_of_getElem? (i := 1201) (by decide +kernel), List.mem_of_getElem? (i := 1502) (by decide +kernel), List.mem_of_getElem? (i := 1503) (by decide +kernel)⟩
theorem lw_p56 : lw_okq (⟨"PeriscopeTrainModel", "numberTo", "(I)I"⟩, 24) := ⟨⟨by decide +kernel, by decide +kernel⟩, List.mem_of_getElem? (i := 1201) (by decide +kernel), List.mem_of_getElem? (i := 1506) (by decide +kernel), List.mem_of_getElem? (i := 1507) (by decide +kernel)⟩
theorem lw_p57 : lw_okq (⟨"PeriscopeTrainModel", "order", "(I)V"⟩, 24) := ⟨⟨by decide +kernel, by decide +kernel⟩, List.mem_of_getElem? (i := 1201) (by decide +kernel), List.mem_of_getElem? (i := 1510) (by decide +kernel), List.mem_of_getElem? (i := 1511) (by decide +kernel)⟩
theorem lw_p58 : lw_okq (⟨"PeriscopeTrainModel", "name", "()I"⟩, 24) := ⟨⟨by decide +kernel, by decide +kernel⟩, List.mem_of_getElem? (i := 1201) (by decide +kernel), List.mem_of_getElem? (i := 1514) (by decide +kernel), List.mem_of_getElem? (i := 1515) (by decide +kernel)⟩
theorem lw_p59 : lw_okq (⟨"PeriscopeTrainModel", "sum", "()I"⟩, 24) := ⟨⟨by decide +kernel, by decide +kernel⟩, List.mem_of_getElem? (i := 1201) (by decide +kernel), List.mem_of_getElem? (i := 1519) (by decide +kernel), List.mem_of_getElem? (i := 1520) (by decide +kernel)⟩
theorem lw_p60 : lw_okq (⟨"PeriscopeTrainModel", "product", "()I"⟩, 24) := ⟨⟨by decide +kernel, by decide +kernel⟩, List.mem_of_getElem? (i := 1201) (by decide +kernel), List.mem_of_getElem? (i := 1523) (by decide +kernel), List.mem_of_getElem? (i := 1524) (by decide +kernel)⟩
theorem lw_p61 : lw_okq (⟨"PeriscopeTrainModel", "value", "()I"⟩, 24) := ⟨⟨by decide +kernel, by decide +kernel⟩, List.mem_of_getElem? (i := 1201) (by decide +kernel), List.mem_of_getElem? (i := 1527) (by decide +kernel), List.mem_of_getElem? (i := 1528) (by decide +kernel)⟩
theorem lw_p62 : lw_okq (⟨"PeriscopeTrainModel", "node", "(III)I"⟩, 24) := ⟨⟨by decide +kernel, by decide +kernel⟩, List.mem_of_getElem? (i := 1201) (by decide +kernel), List.mem_of_getElem? (i := 1531) (by decide +kernel), List.mem_of_getElem? (i := 1532) (by decide +kernel)⟩
theorem lw_p63 : lw_okq (⟨"PeriscopeTrainModel", "isMeasure", "()Z"⟩, 24) := ⟨⟨by decide +kernel, by decide +kernel⟩, List.mem_of_getElem? (i := 1201) (by decide +kernel), List.mem_of_getElem? (i := 1535) (by decide +kernel), List.mem_of_getElem? (i := 1536) (by decide +kernel)⟩
def lw_privs_4 : List (MethodName × Nat) := [(⟨"PeriscopeTrainModel", "takes", "(I)Z"⟩, 24), (⟨"PeriscopeTrainModel", "is", "(I)Z"⟩, 24), (⟨"PeriscopeTrainModel", "mirror", "()V"⟩, 24), (⟨"PeriscopeTrainModel", "known", "()I"⟩, 24), (⟨"PeriscopeTrainModel", "isSameName", "(II)Z"⟩, 24), (⟨"PeriscopeTrainModel", "mark", "(I)V"⟩, 24), (⟨"PeriscopeTrainModel", "take", "(I)V"⟩, 24), (⟨"PeriscopeTrainModel", "wrong", "()V"⟩, 24), (⟨"PeriscopeTrainModel", "numberTo", "(I)I"⟩, 24), (⟨"PeriscopeTrainModel", "order", "(I)V"⟩, 24), (⟨"PeriscopeTrainModel", "name", "()I"⟩, 24), (⟨"PeriscopeTrainModel", "sum", "()I"⟩, 24), (⟨"PeriscopeTrainModel", "product", "()I"⟩, 24), (⟨"PeriscopeTrainModel", "value", "()I"⟩, 24), (⟨"PeriscopeTrainModel", "node", "(III)I"⟩, 24), (⟨"PeriscopeTrainModel", "isMeasure", "()Z"⟩, 24)]
theorem lw_r4 : ∀ q ∈ lw_privs_4, lw_okq q := List.forall_mem_cons.mpr ⟨lw_p48, List.forall_mem_cons.mpr ⟨lw_p49, List.forall_mem_cons.mpr ⟨lw_p50, List.forall_mem_cons.mpr ⟨lw_p51, List.forall_mem_cons.mpr ⟨lw_p52, List.forall_mem_cons.mpr ⟨lw_p53, List.forall_mem_cons.mpr ⟨lw_p54, List.forall_mem_cons.mpr ⟨lw_p55, List.forall_mem_cons.mpr ⟨lw_p56, List.forall_mem_cons.mpr ⟨lw_p57, List.forall_mem_cons.mpr ⟨lw_p58, List.forall_mem_cons.mpr ⟨lw_p59, List.forall_mem_cons.mpr ⟨lw_p60, List.forall_mem_cons.mpr ⟨lw_p61, List.forall_mem_cons.mpr ⟨lw_p62, List.forall_mem_cons.mpr ⟨lw_p63, fun _ h => absurd h List.not_mem_nil⟩⟩⟩⟩⟩⟩⟩⟩⟩⟩⟩⟩⟩⟩⟩⟩
theorem lw_p64 : lw_okq (⟨"PeriscopeTrainModel", "measure", "()I"⟩, 24) := ⟨⟨by decide +kernel, by decide +kernel⟩, List.mem_of_getElem? (i := 1201) (by decide +kernel), List.mem_of_getElem? (i := 1539) (by decide +kernel), List.mem_of_getElem? (i := 1540) (by decide +kernel)⟩
theorem lw_p65 : lw_okq (⟨"PeriscopeTrainModel", "ofTwo", "(I)I"⟩, 24) := ⟨⟨by decide +kernel, by decide +kernel⟩, List.mem_of_getElem? (i := 1201) (by decide +kernel), List.mem_of_getElem? (i := 1543) (by decide +kernel), List.mem_of_getElem? (i := 1544) (by decide +kernel)⟩
theorem lw_p66 : lw_okq (⟨"PeriscopeTrainModel", "deeper", "()V"⟩, 24) := ⟨⟨by decide +kernel, by decide +kernel⟩, List.mem_of_getElem? (i := 1201) (by decide +kernel), List.mem_of_getElem? (i := 1547) (by decide +kernel), List.mem_of_getElem? (i := 1548) (by decide +kernel)⟩
theorem lw_p67 : lw_okq (⟨"PeriscopeTrainModel", "inBrackets", "()I"⟩, 24) := ⟨⟨by decide +kernel, by decide +kernel⟩, List.mem_of_getElem? (i := 1201) (by decide +kernel), List.mem_of_getElem? (i := 1551) (by decide +kernel), List.mem_of_getElem? (i := 1552) (by decide +kernel)⟩
theorem lw_p68 : lw_okq (⟨"PeriscopeTrainModel", "test", "()I"⟩, 24) := ⟨⟨by decide +kernel, by decide +kernel⟩, List.mem_of_getElem? (i := 1201) (by decide +kernel), List.mem_of_getElem? (i := 1555) (by decide +kernel), List.mem_of_getElem? (i := 1556) (by decide +kernel)⟩
theorem lw_p69 : lw_okq (⟨"PeriscopeTrainModel", "both", "()I"⟩, 24) := ⟨⟨by decide +kernel, by decide +kernel⟩, List.mem_of_getElem? (i := 1201) (by decide +kernel), List.mem_of_getElem? (i := 1559) (by decide +kernel), List.mem_of_getElem? (i := 1560) (by decide +kernel)⟩
theorem lw_p70 : lw_okq (⟨"PeriscopeTrainModel", "single", "()I"⟩, 24) := ⟨⟨by decide +kernel, by decide +kernel⟩, List.mem_of_getElem? (i := 1201) (by decide +kernel), List.mem_of_getElem? (i := 1563) (by decide +kernel), List.mem_of_getElem? (i := 1564) (by decide +kernel)⟩
theorem lw_p71 : lw_okq (⟨"PeriscopeTrainModel", "comparison", "()I"⟩, 24) := ⟨⟨by decide +kernel, by decide +kernel⟩, List.mem_of_getElem? (i := 1201) (by decide +kernel), List.mem_of_getElem? (i := 1567) (by decide +kernel), List.mem_of_getElem? (i := 1568) (by decide +kernel)⟩
theorem lw_p72 : lw_okq (⟨"PeriscopeTrainModel", "ok", "(I)I"⟩, 24) := ⟨⟨by decide +kernel, by decide +kernel⟩, List.mem_of_getElem? (i := 1201) (by decide +kernel), List.mem_of_getElem? (i := 1587) (by decide +kernel), List.mem_of_getElem? (i := 1588) (by decide +kernel)⟩
theorem lw_p73 : lw_okq (⟨"PeriscopeTrainModel", "light", "(LPeriscopeTrainModel$State;)I"⟩, 24) := ⟨⟨by decide +kernel, by decide +kernel⟩, List.mem_of_getElem? (i := 1201) (by decide +kernel), List.mem_of_getElem? (i := 1611) (by decide +kernel), List.mem_of_getElem? (i := 1612) (by decide +kernel)⟩
theorem lw_p74 : lw_okq (⟨"PeriscopeTrainModel", "shine", "(LPeriscopeTrainModel$State;)V"⟩, 24) := ⟨⟨by decide +kernel, by decide +kernel⟩, List.mem_of_getElem? (i := 1201) (by decide +kernel), List.mem_of_getElem? (i := 1615) (by decide +kernel), List.mem_of_getElem? (i := 1616) (by decide +kernel)⟩
theorem lw_p75 : lw_okq (⟨"PeriscopeTrainModel", "isWide", "(I)Z"⟩, 24) := ⟨⟨by decide +kernel, by decide +kernel⟩, List.mem_of_getElem? (i := 1201) (by decide +kernel), List.mem_of_getElem? (i := 1619) (by decide +kernel), List.mem_of_getElem? (i := 1620) (by decide +kernel)⟩
theorem lw_p76 : lw_okq (⟨"PeriscopeTrainModel", "seen", "(LPeriscopeTrainModel$State;)Z"⟩, 24) := ⟨⟨by decide +kernel, by decide +kernel⟩, List.mem_of_getElem? (i := 1201) (by decide +kernel), List.mem_of_getElem? (i := 1635) (by decide +kernel), List.mem_of_getElem? (i := 1636) (by decide +kernel)⟩
theorem lw_p77 : lw_okq (⟨"PeriscopeTrainModel", "isMirror", "(I)Z"⟩, 24) := ⟨⟨by decide +kernel, by decide +kernel⟩, List.mem_of_getElem? (i := 1201) (by decide +kernel), List.mem_of_getElem? (i := 1647) (by decide +kernel), List.mem_of_getElem? (i := 1648) (by decide +kernel)⟩
theorem lw_p78 : lw_okq (⟨"PeriscopeTrainModel", "place", "(I)I"⟩, 24) := ⟨⟨by decide +kernel, by decide +kernel⟩, List.mem_of_getElem? (i := 1201) (by decide +kernel), List.mem_of_getElem? (i := 1663) (by decide +kernel), List.mem_of_getElem? (i := 1664) (by decide +kernel)⟩
theorem lw_p79 : lw_okq (⟨"PeriscopeTrainModel", "isJob", "(I)Z"⟩, 24) := ⟨⟨by decide +kernel, by decide +kernel⟩, List.mem_of_getElem? (i := 1201) (by decide +kernel), List.mem_of_getElem? (i := 1699) (by decide +kernel), List.mem_of_getElem? (i := 1700) (by decide +kernel)⟩
def lw_privs_5 : List (MethodName × Nat) := [(⟨"PeriscopeTrainModel", "measure", "()I"⟩, 24), (⟨"PeriscopeTrainModel", "ofTwo", "(I)I"⟩, 24), (⟨"PeriscopeTrainModel", "deeper", "()V"⟩, 24), (⟨"PeriscopeTrainModel", "inBrackets", "()I"⟩, 24), (⟨"PeriscopeTrainModel", "test", "()I"⟩, 24), (⟨"PeriscopeTrainModel", "both", "()I"⟩, 24), (⟨"PeriscopeTrainModel", "single", "()I"⟩, 24), (⟨"PeriscopeTrainModel", "comparison", "()I"⟩, 24), (⟨"PeriscopeTrainModel", "ok", "(I)I"⟩, 24), (⟨"PeriscopeTrainModel", "light", "(LPeriscopeTrainModel$State;)I"⟩, 24), (⟨"PeriscopeTrainModel", "shine", "(LPeriscopeTrainModel$State;)V"⟩, 24), (⟨"PeriscopeTrainModel", "isWide", "(I)Z"⟩, 24), (⟨"PeriscopeTrainModel", "seen", "(LPeriscopeTrainModel$State;)Z"⟩, 24), (⟨"PeriscopeTrainModel", "isMirror", "(I)Z"⟩, 24), (⟨"PeriscopeTrainModel", "place", "(I)I"⟩, 24), (⟨"PeriscopeTrainModel", "isJob", "(I)Z"⟩, 24)]
theorem lw_r5 : ∀ q ∈ lw_privs_5, lw_okq q := List.forall_mem_cons.mpr ⟨lw_p64, List.forall_mem_cons.mpr ⟨lw_p65, List.forall_mem_cons.mpr ⟨lw_p66, List.forall_mem_cons.mpr ⟨lw_p67, List.forall_mem_cons.mpr ⟨lw_p68, List.forall_mem_cons.mpr ⟨lw_p69, List.forall_mem_cons.mpr ⟨lw_p70, List.forall_mem_cons.mpr ⟨lw_p71, List.forall_mem_cons.mpr ⟨lw_p72, List.forall_mem_cons.mpr ⟨lw_p73, List.forall_mem_cons.mpr ⟨lw_p74, List.forall_mem_cons.mpr ⟨lw_p75, List.forall_mem_cons.mpr ⟨lw_p76, List.forall_mem_cons.mpr ⟨lw_p77, List.forall_mem_cons.mpr ⟨lw_p78, List.forall_mem_cons.mpr ⟨lw_p79, fun _ h => absurd h List.not_mem_nil⟩⟩⟩⟩⟩⟩⟩⟩⟩⟩⟩⟩⟩⟩⟩⟩
theorem lw_p80 : lw_okq (⟨"PeriscopeTrainModel", "pass", "(LPeriscopeTrainModel$State;)Z"⟩, 24) := ⟨⟨by decide +kernel, by decide +kernel⟩, List.mem_of_getElem? (i := 1201) (by decide +kernel), List.mem_of_getElem? (i := 1747) (by decide +kernel), List.mem_of_getElem? (i := 1748) (by decide +kernel)⟩
theorem lw_p81 : lw_okq (⟨"PeriscopeTrainModel", "carryOut", "(LPeriscopeTrainModel$State;I)V"⟩, 24) := ⟨⟨by decide +kernel, by decide +kernel⟩, List.mem_of_getElem? (i := 1201) (by decide +kernel), List.mem_of_getElem? (i := 1751) (by decide +kernel), List.mem_of_getElem? (i := 1752) (by decide +kernel)⟩
theorem lw_p82 : lw_okq (⟨"PeriscopeTrainModel", "reckon", "(LPeriscopeTrainModel$State;III)I"⟩, 24) := ⟨⟨by decide +kernel, by decide +kernel⟩, List.mem_of_getElem? (i := 1201) (by decide +kernel), List.mem_of_getElem? (i := 1755) (by decide +kernel), List.mem_of_getElem? (i := 1756) (by decide +kernel)⟩
theorem lw_p83 : lw_okq (⟨"PeriscopeTrainModel$State", "takes", "()I"⟩, 10) := ⟨⟨by decide +kernel, by decide +kernel⟩, List.mem_of_getElem? (i := 1281) (by decide +kernel), List.mem_of_getElem? (i := 1772) (by decide +kernel), List.mem_of_getElem? (i := 1773) (by decide +kernel)⟩
def lw_privs_6 : List (MethodName × Nat) := [(⟨"PeriscopeTrainModel", "pass", "(LPeriscopeTrainModel$State;)Z"⟩, 24), (⟨"PeriscopeTrainModel", "carryOut", "(LPeriscopeTrainModel$State;I)V"⟩, 24), (⟨"PeriscopeTrainModel", "reckon", "(LPeriscopeTrainModel$State;III)I"⟩, 24), (⟨"PeriscopeTrainModel$State", "takes", "()I"⟩, 10)]
theorem lw_r6 : ∀ q ∈ lw_privs_6, lw_okq q := List.forall_mem_cons.mpr ⟨lw_p80, List.forall_mem_cons.mpr ⟨lw_p81, List.forall_mem_cons.mpr ⟨lw_p82, List.forall_mem_cons.mpr ⟨lw_p83, fun _ h => absurd h List.not_mem_nil⟩⟩⟩⟩
def lw_privs : List (MethodName × Nat) := lw_privs_1 ++ (lw_privs_2 ++ (lw_privs_3 ++ (lw_privs_4 ++ (lw_privs_5 ++ (lw_privs_6)))))
def lw_tbl : List Cond := k2_sels lw_privs ++ tables_1
theorem lw_privs_ok : ∀ q ∈ lw_privs, lw_okq q := by
  show ∀ q ∈ lw_privs_1 ++ (lw_privs_2 ++ (lw_privs_3 ++ (lw_privs_4 ++ (lw_privs_5 ++ (lw_privs_6))))), lw_okq q
  exact List.forall_mem_append.mpr ⟨lw_r1, List.forall_mem_append.mpr ⟨lw_r2, List.forall_mem_append.mpr ⟨lw_r3, List.forall_mem_append.mpr ⟨lw_r4, List.forall_mem_append.mpr ⟨lw_r5, lw_r6⟩⟩⟩⟩⟩
/-- the streams that the claim lets the run draw from -/
abbrev lw_cs : List Choice := [Jvm.Choice.named "NaN.bits"]
theorem lw_bits : nanBits ∈ lw_cs := by first | decide | exact List.mem_cons_self | simp [lw_cs, nanBits]
-- ===== end of PART A; then your names; then what follows =====
def RX0 : String := "PeriscopeTrain$Grammar"
def TX0 : u_T := fun k => match k with
  | 0 => ("PeriscopeTrain$Grammar", "tokens", "LPeriscopeTrain$Tokens;", true)
  | 1 => ("PeriscopeTrain$Grammar", "draft", "LPeriscopeTrain$Plan;", true)
  | _ => ("PeriscopeTrain$Grammar", "at", "I", false)
def tyX0 : Nat → FieldType := fun k => match k with
  | 0 => .object "PeriscopeTrain$Tokens"
  | 1 => .object "PeriscopeTrain$Plan"
  | _ => .int
theorem nmX0 : ∀ a, a < 3 → ∀ b, b < 3 → a ≠ b → (TX0 a).2.1 ≠ (TX0 b).2.1 := by decide +kernel
theorem tyX0_ok : ∀ k, k < 3 → parseFieldDescriptor (TX0 k).2.2.1 = some (tyX0 k) := by decide +kernel
abbrev cX0_init : ByteArray := prog_2_method_1_code
def yX0_init : MethodName := ⟨RX0, "<init>", "(LPeriscopeTrain$Tokens;LPeriscopeTrain$Plan;)V"⟩
abbrev cX0_firstMisfit : ByteArray := prog_2_method_2_code
def yX0_firstMisfit : MethodName := ⟨RX0, "firstMisfit", "()I"⟩
abbrev cX0_isNext : ByteArray := prog_2_method_3_code
def yX0_isNext : MethodName := ⟨RX0, "isNext", "(I)Z"⟩
abbrev cX0_take : ByteArray := prog_2_method_4_code
def yX0_take : MethodName := ⟨RX0, "take", "(I)Z"⟩
abbrev cX0_line : ByteArray := prog_2_method_5_code
def yX0_line : MethodName := ⟨RX0, "line", "()Z"⟩
abbrev cX0_mirror : ByteArray := prog_2_method_6_code
def yX0_mirror : MethodName := ⟨RX0, "mirror", "()Z"⟩
abbrev cX0_order : ByteArray := prog_2_method_7_code
def yX0_order : MethodName := ⟨RX0, "order", "(I)Z"⟩
abbrev cX0_test : ByteArray := prog_2_method_8_code
def yX0_test : MethodName := ⟨RX0, "test", "(I)Z"⟩
abbrev cX0_both : ByteArray := prog_2_method_9_code
def yX0_both : MethodName := ⟨RX0, "both", "(I)Z"⟩
abbrev cX0_single : ByteArray := prog_2_method_10_code
def yX0_single : MethodName := ⟨RX0, "single", "(I)Z"⟩
abbrev cX0_sum : ByteArray := prog_2_method_11_code
def yX0_sum : MethodName := ⟨RX0, "sum", "(I)Z"⟩
abbrev cX0_product : ByteArray := prog_2_method_12_code
def yX0_product : MethodName := ⟨RX0, "product", "(I)Z"⟩
abbrev cX0_value : ByteArray := prog_2_method_13_code
def yX0_value : MethodName := ⟨RX0, "value", "(I)Z"⟩
abbrev cX0_pair : ByteArray := prog_2_method_14_code
def yX0_pair : MethodName := ⟨RX0, "pair", "(II)Z"⟩
def RX1 : String := "PeriscopeTrain$Meaning"
def TX1 : u_T := fun k => match k with
  | 0 => ("PeriscopeTrain$Meaning", "tape", "LPeriscopeTrain$Tape;", true)
  | 1 => ("PeriscopeTrain$Meaning", "tokens", "LPeriscopeTrain$Tokens;", true)
  | 2 => ("PeriscopeTrain$Meaning", "draft", "LPeriscopeTrain$Plan;", true)
  | 3 => ("PeriscopeTrain$Meaning", "names", "[I", true)
  | _ => ("PeriscopeTrain$Meaning", "error", "I", false)
def tyX1 : Nat → FieldType := fun k => match k with
  | 0 => .object "PeriscopeTrain$Tape"
  | 1 => .object "PeriscopeTrain$Tokens"
  | 2 => .object "PeriscopeTrain$Plan"
  | 3 => .array .int
  | _ => .int
theorem nmX1 : ∀ a, a < 5 → ∀ b, b < 5 → a ≠ b → (TX1 a).2.1 ≠ (TX1 b).2.1 := by decide +kernel
theorem tyX1_ok : ∀ k, k < 5 → parseFieldDescriptor (TX1 k).2.2.1 = some (tyX1 k) := by decide +kernel
abbrev cX1_init : ByteArray := prog_3_method_1_code
def yX1_init : MethodName := ⟨RX1, "<init>", "(LPeriscopeTrain$Tape;LPeriscopeTrain$Tokens;LPeriscopeTrain$Plan;)V"⟩
abbrev cX1_firstMistake : ByteArray := prog_3_method_2_code
def yX1_firstMistake : MethodName := ⟨RX1, "firstMistake", "()I"⟩
abbrev cX1_errorOf : ByteArray := prog_3_method_3_code
def yX1_errorOf : MethodName := ⟨RX1, "errorOf", "(I)I"⟩
abbrev cX1_errorOfNewName : ByteArray := prog_3_method_4_code
def yX1_errorOfNewName : MethodName := ⟨RX1, "errorOfNewName", "(I)I"⟩
abbrev cX1_errorOfName : ByteArray := prog_3_method_5_code
def yX1_errorOfName : MethodName := ⟨RX1, "errorOfName", "(I)I"⟩
abbrev cX1_mirrorNamed : ByteArray := prog_3_method_6_code
def yX1_mirrorNamed : MethodName := ⟨RX1, "mirrorNamed", "(I)I"⟩
abbrev cX1_errorOfOrder : ByteArray := prog_3_method_7_code
def yX1_errorOfOrder : MethodName := ⟨RX1, "errorOfOrder", "()I"⟩
abbrev cX1_errorOfNumber : ByteArray := prog_3_method_8_code
def yX1_errorOfNumber : MethodName := ⟨RX1, "errorOfNumber", "(I)I"⟩
def RX2 : String := "PeriscopeTrain$Plan"
def TX2 : u_T := fun k => match k with
  | 0 => ("PeriscopeTrain$Plan", "clarity", "[I", true)
  | 1 => ("PeriscopeTrain$Plan", "offset", "[I", true)
  | 2 => ("PeriscopeTrain$Plan", "step", "[I", true)
  | 3 => ("PeriscopeTrain$Plan", "value", "[I", true)
  | 4 => ("PeriscopeTrain$Plan", "mirrors", "I", false)
  | 5 => ("PeriscopeTrain$Plan", "orders", "I", false)
  | 6 => ("PeriscopeTrain$Plan", "width", "I", false)
  | 7 => ("PeriscopeTrain$Plan", "limit", "I", false)
  | _ => ("PeriscopeTrain$Plan", "length", "I", false)
def tyX2 : Nat → FieldType := fun k => match k with
  | 0 => .array .int
  | 1 => .array .int
  | 2 => .array .int
  | 3 => .array .int
  | 4 => .int
  | 5 => .int
  | 6 => .int
  | 7 => .int
  | _ => .int
theorem nmX2 : ∀ a, a < 9 → ∀ b, b < 9 → a ≠ b → (TX2 a).2.1 ≠ (TX2 b).2.1 := by decide +kernel
theorem tyX2_ok : ∀ k, k < 9 → parseFieldDescriptor (TX2 k).2.2.1 = some (tyX2 k) := by decide +kernel
abbrev cX2_init : ByteArray := prog_4_method_1_code
def yX2_init : MethodName := ⟨RX2, "<init>", "()V"⟩
abbrev cX2_clear : ByteArray := prog_4_method_2_code
def yX2_clear : MethodName := ⟨RX2, "clear", "()V"⟩
abbrev cX2_write : ByteArray := prog_4_method_3_code
def yX2_write : MethodName := ⟨RX2, "write", "(II)V"⟩
abbrev cX2_tellClarity : ByteArray := prog_4_method_4_code
def yX2_tellClarity : MethodName := ⟨RX2, "tellClarity", "(I)V"⟩
abbrev cX2_tellOffset : ByteArray := prog_4_method_5_code
def yX2_tellOffset : MethodName := ⟨RX2, "tellOffset", "(I)V"⟩
abbrev cX2_takeOver : ByteArray := prog_4_method_6_code
def yX2_takeOver : MethodName := ⟨RX2, "takeOver", "(LPeriscopeTrain$Plan;LPeriscopeTrain$Tokens;)V"⟩
def RX3 : String := "PeriscopeTrain$Queue"
def TX3 : u_T := fun k => match k with
  | 0 => ("PeriscopeTrain$Queue", "kind", "[I", true)
  | 1 => ("PeriscopeTrain$Queue", "mirror", "[I", true)
  | 2 => ("PeriscopeTrain$Queue", "size", "I", false)
  | 3 => ("PeriscopeTrain$Queue", "toGo", "I", false)
  | _ => ("PeriscopeTrain$Queue", "done", "I", false)
def tyX3 : Nat → FieldType := fun k => match k with
  | 0 => .array .int
  | 1 => .array .int
  | 2 => .int
  | 3 => .int
  | _ => .int
theorem nmX3 : ∀ a, a < 5 → ∀ b, b < 5 → a ≠ b → (TX3 a).2.1 ≠ (TX3 b).2.1 := by decide +kernel
theorem tyX3_ok : ∀ k, k < 5 → parseFieldDescriptor (TX3 k).2.2.1 = some (tyX3 k) := by decide +kernel
abbrev cX3_init : ByteArray := prog_5_method_1_code
def yX3_init : MethodName := ⟨RX3, "<init>", "()V"⟩
abbrev cX3_begin : ByteArray := prog_5_method_2_code
def yX3_begin : MethodName := ⟨RX3, "begin", "()V"⟩
abbrev cX3_copy : ByteArray := prog_5_method_3_code
def yX3_copy : MethodName := ⟨RX3, "copy", "(LPeriscopeTrain$Queue;)V"⟩
abbrev cX3_kindIn : ByteArray := prog_5_method_4_code
def yX3_kindIn : MethodName := ⟨RX3, "kindIn", "(I)I"⟩
abbrev cX3_mirrorIn : ByteArray := prog_5_method_5_code
def yX3_mirrorIn : MethodName := ⟨RX3, "mirrorIn", "(I)I"⟩
abbrev cX3_hasJobFor : ByteArray := prog_5_method_6_code
def yX3_hasJobFor : MethodName := ⟨RX3, "hasJobFor", "(I)Z"⟩
abbrev cX3_takesIn : ByteArray := prog_5_method_7_code
def yX3_takesIn : MethodName := ⟨RX3, "takesIn", "(II)Z"⟩
abbrev cX3_add : ByteArray := prog_5_method_8_code
def yX3_add : MethodName := ⟨RX3, "add", "(II)V"⟩
abbrev cX3_remove : ByteArray := prog_5_method_9_code
def yX3_remove : MethodName := ⟨RX3, "remove", "(I)V"⟩
def RX4 : String := "PeriscopeTrain$Row"
def TX4 : u_T := fun k => match k with
  | 0 => ("PeriscopeTrain$Row", "clarity", "[I", true)
  | 1 => ("PeriscopeTrain$Row", "best", "[I", true)
  | 2 => ("PeriscopeTrain$Row", "offset", "[I", true)
  | 3 => ("PeriscopeTrain$Row", "mirrorAtPlace", "[I", true)
  | 4 => ("PeriscopeTrain$Row", "light", "[I", true)
  | 5 => ("PeriscopeTrain$Row", "lost", "[I", true)
  | 6 => ("PeriscopeTrain$Row", "tilt", "[I", true)
  | 7 => ("PeriscopeTrain$Row", "count", "I", false)
  | 8 => ("PeriscopeTrain$Row", "width", "I", false)
  | 9 => ("PeriscopeTrain$Row", "limit", "I", false)
  | 10 => ("PeriscopeTrain$Row", "covered", "I", false)
  | 11 => ("PeriscopeTrain$Row", "endLight", "I", false)
  | 12 => ("PeriscopeTrain$Row", "endTilt", "I", false)
  | _ => ("PeriscopeTrain$Row", "isLit", "Z", false)
def tyX4 : Nat → FieldType := fun k => match k with
  | 0 => .array .int
  | 1 => .array .int
  | 2 => .array .int
  | 3 => .array .int
  | 4 => .array .int
  | 5 => .array .int
  | 6 => .array .int
  | 7 => .int
  | 8 => .int
  | 9 => .int
  | 10 => .int
  | 11 => .int
  | 12 => .int
  | _ => .boolean
theorem nmX4 : ∀ a, a < 14 → ∀ b, b < 14 → a ≠ b → (TX4 a).2.1 ≠ (TX4 b).2.1 := by decide +kernel
theorem tyX4_ok : ∀ k, k < 14 → parseFieldDescriptor (TX4 k).2.2.1 = some (tyX4 k) := by decide +kernel
abbrev cX4_init : ByteArray := prog_6_method_1_code
def yX4_init : MethodName := ⟨RX4, "<init>", "()V"⟩
abbrev cX4_begin : ByteArray := prog_6_method_2_code
def yX4_begin : MethodName := ⟨RX4, "begin", "(LPeriscopeTrain$Plan;)V"⟩
abbrev cX4_copy : ByteArray := prog_6_method_3_code
def yX4_copy : MethodName := ⟨RX4, "copy", "(LPeriscopeTrain$Row;)V"⟩
abbrev cX4_has : ByteArray := prog_6_method_4_code
def yX4_has : MethodName := ⟨RX4, "has", "(I)Z"⟩
abbrev cX4_mirrorIn : ByteArray := prog_6_method_5_code
def yX4_mirrorIn : MethodName := ⟨RX4, "mirrorIn", "(I)I"⟩
abbrev cX4_findPlace : ByteArray := prog_6_method_6_code
def yX4_findPlace : MethodName := ⟨RX4, "findPlace", "(I)I"⟩
abbrev cX4_valueOf : ByteArray := prog_6_method_7_code
def yX4_valueOf : MethodName := ⟨RX4, "valueOf", "(II)I"⟩
abbrev cX4_lastLight : ByteArray := prog_6_method_8_code
def yX4_lastLight : MethodName := ⟨RX4, "lastLight", "()I"⟩
abbrev cX4_lastTilt : ByteArray := prog_6_method_9_code
def yX4_lastTilt : MethodName := ⟨RX4, "lastTilt", "()I"⟩
abbrev cX4_showsLight : ByteArray := prog_6_method_10_code
def yX4_showsLight : MethodName := ⟨RX4, "showsLight", "()Z"⟩
abbrev cX4_mostLosing : ByteArray := prog_6_method_11_code
def yX4_mostLosing : MethodName := ⟨RX4, "mostLosing", "()I"⟩
abbrev cX4_isWithinWidth : ByteArray := prog_6_method_12_code
def yX4_isWithinWidth : MethodName := ⟨RX4, "isWithinWidth", "(I)Z"⟩
abbrev cX4_shine : ByteArray := prog_6_method_13_code
def yX4_shine : MethodName := ⟨RX4, "shine", "()V"⟩
abbrev cX4_cover : ByteArray := prog_6_method_14_code
def yX4_cover : MethodName := ⟨RX4, "cover", "(I)V"⟩
abbrev cX4_turn : ByteArray := prog_6_method_15_code
def yX4_turn : MethodName := ⟨RX4, "turn", "(II)V"⟩
abbrev cX4_shake : ByteArray := prog_6_method_16_code
def yX4_shake : MethodName := ⟨RX4, "shake", "(II)V"⟩
abbrev cX4_dim : ByteArray := prog_6_method_17_code
def yX4_dim : MethodName := ⟨RX4, "dim", "(III)V"⟩
abbrev cX4_dust : ByteArray := prog_6_method_18_code
def yX4_dust : MethodName := ⟨RX4, "dust", "(II)V"⟩
abbrev cX4_clean : ByteArray := prog_6_method_19_code
def yX4_clean : MethodName := ⟨RX4, "clean", "(I)V"⟩
abbrev cX4_replace : ByteArray := prog_6_method_20_code
def yX4_replace : MethodName := ⟨RX4, "replace", "(I)V"⟩
abbrev cX4_move : ByteArray := prog_6_method_21_code
def yX4_move : MethodName := ⟨RX4, "move", "(II)V"⟩
def RX5 : String := "PeriscopeTrain$Tape"
def TX5 : u_T := fun k => match k with
  | 0 => ("PeriscopeTrain$Tape", "bytes", "[B", true)
  | _ => ("PeriscopeTrain$Tape", "length", "I", false)
def tyX5 : Nat → FieldType := fun k => match k with
  | 0 => .array .byte
  | _ => .int
theorem nmX5 : ∀ a, a < 2 → ∀ b, b < 2 → a ≠ b → (TX5 a).2.1 ≠ (TX5 b).2.1 := by decide +kernel
theorem tyX5_ok : ∀ k, k < 2 → parseFieldDescriptor (TX5 k).2.2.1 = some (tyX5 k) := by decide +kernel
abbrev cX5_init : ByteArray := prog_7_method_1_code
def yX5_init : MethodName := ⟨RX5, "<init>", "()V"⟩
abbrev cX5_append : ByteArray := prog_7_method_2_code
def yX5_append : MethodName := ⟨RX5, "append", "(I)V"⟩
abbrev cX5_byteAt : ByteArray := prog_7_method_3_code
def yX5_byteAt : MethodName := ⟨RX5, "byteAt", "(I)I"⟩
abbrev cX5_skipBlanks : ByteArray := prog_7_method_4_code
def yX5_skipBlanks : MethodName := ⟨RX5, "skipBlanks", "(I)I"⟩
abbrev cX5_skipDigits : ByteArray := prog_7_method_5_code
def yX5_skipDigits : MethodName := ⟨RX5, "skipDigits", "(I)I"⟩
abbrev cX5_skipLettersAndDigits : ByteArray := prog_7_method_6_code
def yX5_skipLettersAndDigits : MethodName := ⟨RX5, "skipLettersAndDigits", "(I)I"⟩
abbrev cX5_holdsText : ByteArray := prog_7_method_7_code
def yX5_holdsText : MethodName := ⟨RX5, "holdsText", "(Ljava/lang/String;II)Z"⟩
abbrev cX5_holdsSame : ByteArray := prog_7_method_8_code
def yX5_holdsSame : MethodName := ⟨RX5, "holdsSame", "(III)Z"⟩
abbrev cX5_isBlank : ByteArray := prog_7_method_9_code
def yX5_isBlank : MethodName := ⟨RX5, "isBlank", "(I)Z"⟩
abbrev cX5_isLetter : ByteArray := prog_7_method_10_code
def yX5_isLetter : MethodName := ⟨RX5, "isLetter", "(I)Z"⟩
abbrev cX5_isDigit : ByteArray := prog_7_method_11_code
def yX5_isDigit : MethodName := ⟨RX5, "isDigit", "(I)Z"⟩
def RX6 : String := "PeriscopeTrain$Tokens"
def TX6 : u_T := fun k => match k with
  | 0 => ("PeriscopeTrain$Tokens", "tape", "LPeriscopeTrain$Tape;", true)
  | 1 => ("PeriscopeTrain$Tokens", "kind", "[I", true)
  | 2 => ("PeriscopeTrain$Tokens", "start", "[I", true)
  | 3 => ("PeriscopeTrain$Tokens", "size", "[I", true)
  | 4 => ("PeriscopeTrain$Tokens", "value", "[I", true)
  | _ => ("PeriscopeTrain$Tokens", "count", "I", false)
def tyX6 : Nat → FieldType := fun k => match k with
  | 0 => .object "PeriscopeTrain$Tape"
  | 1 => .array .int
  | 2 => .array .int
  | 3 => .array .int
  | 4 => .array .int
  | _ => .int
theorem nmX6 : ∀ a, a < 6 → ∀ b, b < 6 → a ≠ b → (TX6 a).2.1 ≠ (TX6 b).2.1 := by decide +kernel
theorem tyX6_ok : ∀ k, k < 6 → parseFieldDescriptor (TX6 k).2.2.1 = some (tyX6 k) := by decide +kernel
abbrev cX6_init : ByteArray := prog_8_method_1_code
def yX6_init : MethodName := ⟨RX6, "<init>", "(LPeriscopeTrain$Tape;)V"⟩
abbrev cX6_kindAt : ByteArray := prog_8_method_2_code
def yX6_kindAt : MethodName := ⟨RX6, "kindAt", "(I)I"⟩
abbrev cX6_valueAt : ByteArray := prog_8_method_3_code
def yX6_valueAt : MethodName := ⟨RX6, "valueAt", "(I)I"⟩
abbrev cX6_setValue : ByteArray := prog_8_method_4_code
def yX6_setValue : MethodName := ⟨RX6, "setValue", "(II)V"⟩
abbrev cX6_positionOf : ByteArray := prog_8_method_5_code
def yX6_positionOf : MethodName := ⟨RX6, "positionOf", "(I)I"⟩
abbrev cX6_areSameNames : ByteArray := prog_8_method_6_code
def yX6_areSameNames : MethodName := ⟨RX6, "areSameNames", "(II)Z"⟩
abbrev cX6_readTape : ByteArray := prog_8_method_7_code
def yX6_readTape : MethodName := ⟨RX6, "readTape", "()V"⟩
abbrev cX6_readToken : ByteArray := prog_8_method_8_code
def yX6_readToken : MethodName := ⟨RX6, "readToken", "(I)I"⟩
abbrev cX6_readWord : ByteArray := prog_8_method_9_code
def yX6_readWord : MethodName := ⟨RX6, "readWord", "(I)I"⟩
abbrev cX6_readNumber : ByteArray := prog_8_method_10_code
def yX6_readNumber : MethodName := ⟨RX6, "readNumber", "(I)I"⟩
abbrev cX6_readSymbol : ByteArray := prog_8_method_11_code
def yX6_readSymbol : MethodName := ⟨RX6, "readSymbol", "(II)I"⟩
abbrev cX6_add : ByteArray := prog_8_method_12_code
def yX6_add : MethodName := ⟨RX6, "add", "(III)V"⟩
abbrev cX6_keyword : ByteArray := prog_8_method_13_code
def yX6_keyword : MethodName := ⟨RX6, "keyword", "(I)Ljava/lang/String;"⟩
def RX7 : String := "PeriscopeTrain$World"
def TX7 : u_T := fun k => match k with
  | 0 => ("PeriscopeTrain$World", "plan", "LPeriscopeTrain$Plan;", true)
  | 1 => ("PeriscopeTrain$World", "row", "LPeriscopeTrain$Row;", true)
  | 2 => ("PeriscopeTrain$World", "queue", "LPeriscopeTrain$Queue;", true)
  | 3 => ("PeriscopeTrain$World", "answers", "[I", true)
  | 4 => ("PeriscopeTrain$World", "answered", "I", false)
  | _ => ("PeriscopeTrain$World", "minute", "I", false)
def tyX7 : Nat → FieldType := fun k => match k with
  | 0 => .object "PeriscopeTrain$Plan"
  | 1 => .object "PeriscopeTrain$Row"
  | 2 => .object "PeriscopeTrain$Queue"
  | 3 => .array .int
  | 4 => .int
  | _ => .int
theorem nmX7 : ∀ a, a < 6 → ∀ b, b < 6 → a ≠ b → (TX7 a).2.1 ≠ (TX7 b).2.1 := by decide +kernel
theorem tyX7_ok : ∀ k, k < 6 → parseFieldDescriptor (TX7 k).2.2.1 = some (tyX7 k) := by decide +kernel
abbrev cX7_init : ByteArray := prog_9_method_1_code
def yX7_init : MethodName := ⟨RX7, "<init>", "(LPeriscopeTrain$Plan;)V"⟩
abbrev cX7_begin : ByteArray := prog_9_method_2_code
def yX7_begin : MethodName := ⟨RX7, "begin", "()V"⟩
abbrev cX7_copy : ByteArray := prog_9_method_3_code
def yX7_copy : MethodName := ⟨RX7, "copy", "(LPeriscopeTrain$World;)V"⟩
abbrev cX7_pass : ByteArray := prog_9_method_4_code
def yX7_pass : MethodName := ⟨RX7, "pass", "(I)V"⟩
abbrev cX7_dropJob : ByteArray := prog_9_method_5_code
def yX7_dropJob : MethodName := ⟨RX7, "dropJob", "(I)V"⟩
abbrev cX7_follow : ByteArray := prog_9_method_6_code
def yX7_follow : MethodName := ⟨RX7, "follow", "(II)V"⟩
abbrev cX7_push : ByteArray := prog_9_method_7_code
def yX7_push : MethodName := ⟨RX7, "push", "(I)V"⟩
abbrev cX7_pop : ByteArray := prog_9_method_8_code
def yX7_pop : MethodName := ⟨RX7, "pop", "()I"⟩
abbrev cX7_carryOut : ByteArray := prog_9_method_9_code
def yX7_carryOut : MethodName := ⟨RX7, "carryOut", "(II)V"⟩
abbrev cX7_valueOf : ByteArray := prog_9_method_10_code
def yX7_valueOf : MethodName := ⟨RX7, "valueOf", "(II)I"⟩
abbrev cX7_joinsTwo : ByteArray := prog_9_method_11_code
def yX7_joinsTwo : MethodName := ⟨RX7, "joinsTwo", "(I)Z"⟩
abbrev cX7_join : ByteArray := prog_9_method_12_code
def yX7_join : MethodName := ⟨RX7, "join", "(III)I"⟩
abbrev cX7_work : ByteArray := prog_9_method_13_code
def yX7_work : MethodName := ⟨RX7, "work", "()V"⟩
abbrev cX7_minutesFor : ByteArray := prog_9_method_14_code
def yX7_minutesFor : MethodName := ⟨RX7, "minutesFor", "(II)I"⟩
abbrev cX7_finish : ByteArray := prog_9_method_15_code
def yX7_finish : MethodName := ⟨RX7, "finish", "(II)V"⟩
def RX8 : String := "PeriscopeTrain"
def TX8 : u_T := fun k => match k with
  | 0 => ("PeriscopeTrain", "tape", "LPeriscopeTrain$Tape;", true)
  | 1 => ("PeriscopeTrain", "tokens", "LPeriscopeTrain$Tokens;", true)
  | 2 => ("PeriscopeTrain", "grammar", "LPeriscopeTrain$Grammar;", true)
  | 3 => ("PeriscopeTrain", "meaning", "LPeriscopeTrain$Meaning;", true)
  | 4 => ("PeriscopeTrain", "draft", "LPeriscopeTrain$Plan;", true)
  | 5 => ("PeriscopeTrain", "plan", "LPeriscopeTrain$Plan;", true)
  | 6 => ("PeriscopeTrain", "now", "LPeriscopeTrain$World;", true)
  | 7 => ("PeriscopeTrain", "would", "LPeriscopeTrain$World;", true)
  | _ => ("PeriscopeTrain", "errorPosition", "I", false)
def tyX8 : Nat → FieldType := fun k => match k with
  | 0 => .object "PeriscopeTrain$Tape"
  | 1 => .object "PeriscopeTrain$Tokens"
  | 2 => .object "PeriscopeTrain$Grammar"
  | 3 => .object "PeriscopeTrain$Meaning"
  | 4 => .object "PeriscopeTrain$Plan"
  | 5 => .object "PeriscopeTrain$Plan"
  | 6 => .object "PeriscopeTrain$World"
  | 7 => .object "PeriscopeTrain$World"
  | _ => .int
theorem nmX8 : ∀ a, a < 9 → ∀ b, b < 9 → a ≠ b → (TX8 a).2.1 ≠ (TX8 b).2.1 := by decide +kernel
theorem tyX8_ok : ∀ k, k < 9 → parseFieldDescriptor (TX8 k).2.2.1 = some (tyX8 k) := by decide +kernel
abbrev cX8_init : ByteArray := prog_1_method_1_code
def yX8_init : MethodName := ⟨RX8, "<init>", "()V"⟩
abbrev cX8_feed : ByteArray := prog_1_method_2_code
def yX8_feed : MethodName := ⟨RX8, "feed", "(IIIII)I"⟩
abbrev cX8_trim : ByteArray := prog_1_method_3_code
def yX8_trim : MethodName := ⟨RX8, "trim", "(I)I"⟩
abbrev cX8_teach : ByteArray := prog_1_method_4_code
def yX8_teach : MethodName := ⟨RX8, "teach", "()I"⟩
abbrev cX8_errorAt : ByteArray := prog_1_method_5_code
def yX8_errorAt : MethodName := ⟨RX8, "errorAt", "()I"⟩
abbrev cX8_mirrors : ByteArray := prog_1_method_6_code
def yX8_mirrors : MethodName := ⟨RX8, "mirrors", "()I"⟩
abbrev cX8_orders : ByteArray := prog_1_method_7_code
def yX8_orders : MethodName := ⟨RX8, "orders", "()I"⟩
abbrev cX8_minutes : ByteArray := prog_1_method_8_code
def yX8_minutes : MethodName := ⟨RX8, "minutes", "()I"⟩
abbrev cX8_tapeBytes : ByteArray := prog_1_method_9_code
def yX8_tapeBytes : MethodName := ⟨RX8, "tapeBytes", "()I"⟩
abbrev cX8_lightAtEnd : ByteArray := prog_1_method_10_code
def yX8_lightAtEnd : MethodName := ⟨RX8, "lightAtEnd", "()I"⟩
abbrev cX8_tiltAtEnd : ByteArray := prog_1_method_11_code
def yX8_tiltAtEnd : MethodName := ⟨RX8, "tiltAtEnd", "()I"⟩
abbrev cX8_isSeen : ByteArray := prog_1_method_12_code
def yX8_isSeen : MethodName := ⟨RX8, "isSeen", "()Z"⟩
abbrev cX8_worstMirror : ByteArray := prog_1_method_13_code
def yX8_worstMirror : MethodName := ⟨RX8, "worstMirror", "()I"⟩
abbrev cX8_clarityOf : ByteArray := prog_1_method_14_code
def yX8_clarityOf : MethodName := ⟨RX8, "clarityOf", "(I)I"⟩
abbrev cX8_bestClarityOf : ByteArray := prog_1_method_15_code
def yX8_bestClarityOf : MethodName := ⟨RX8, "bestClarityOf", "(I)I"⟩
abbrev cX8_offsetOf : ByteArray := prog_1_method_16_code
def yX8_offsetOf : MethodName := ⟨RX8, "offsetOf", "(I)I"⟩
abbrev cX8_placeOf : ByteArray := prog_1_method_17_code
def yX8_placeOf : MethodName := ⟨RX8, "placeOf", "(I)I"⟩
abbrev cX8_lightBehind : ByteArray := prog_1_method_18_code
def yX8_lightBehind : MethodName := ⟨RX8, "lightBehind", "(I)I"⟩
abbrev cX8_lostAt : ByteArray := prog_1_method_19_code
def yX8_lostAt : MethodName := ⟨RX8, "lostAt", "(I)I"⟩
abbrev cX8_tiltBehind : ByteArray := prog_1_method_20_code
def yX8_tiltBehind : MethodName := ⟨RX8, "tiltBehind", "(I)I"⟩
abbrev cX8_isCovered : ByteArray := prog_1_method_21_code
def yX8_isCovered : MethodName := ⟨RX8, "isCovered", "(I)Z"⟩
abbrev cX8_mirrorAt : ByteArray := prog_1_method_22_code
def yX8_mirrorAt : MethodName := ⟨RX8, "mirrorAt", "(I)I"⟩
abbrev cX8_jobs : ByteArray := prog_1_method_23_code
def yX8_jobs : MethodName := ⟨RX8, "jobs", "()I"⟩
abbrev cX8_jobsDone : ByteArray := prog_1_method_24_code
def yX8_jobsDone : MethodName := ⟨RX8, "jobsDone", "()I"⟩
abbrev cX8_kindOfJob : ByteArray := prog_1_method_25_code
def yX8_kindOfJob : MethodName := ⟨RX8, "kindOfJob", "(I)I"⟩
abbrev cX8_mirrorOfJob : ByteArray := prog_1_method_26_code
def yX8_mirrorOfJob : MethodName := ⟨RX8, "mirrorOfJob", "(I)I"⟩
abbrev cX8_minutesToGo : ByteArray := prog_1_method_27_code
def yX8_minutesToGo : MethodName := ⟨RX8, "minutesToGo", "()I"⟩
abbrev cX8_orderJob : ByteArray := prog_1_method_28_code
def yX8_orderJob : MethodName := ⟨RX8, "orderJob", "(II)I"⟩
abbrev cX8_cancelJob : ByteArray := prog_1_method_29_code
def yX8_cancelJob : MethodName := ⟨RX8, "cancelJob", "(I)I"⟩
abbrev cX8_turnMirror : ByteArray := prog_1_method_30_code
def yX8_turnMirror : MethodName := ⟨RX8, "turnMirror", "(II)I"⟩
abbrev cX8_dustMirror : ByteArray := prog_1_method_31_code
def yX8_dustMirror : MethodName := ⟨RX8, "dustMirror", "(II)I"⟩
abbrev cX8_moveMirror : ByteArray := prog_1_method_32_code
def yX8_moveMirror : MethodName := ⟨RX8, "moveMirror", "(II)I"⟩
abbrev cX8_passMinutes : ByteArray := prog_1_method_33_code
def yX8_passMinutes : MethodName := ⟨RX8, "passMinutes", "(I)I"⟩
abbrev cX8_lightAfter : ByteArray := prog_1_method_34_code
def yX8_lightAfter : MethodName := ⟨RX8, "lightAfter", "(I)I"⟩
abbrev cX8_minutesUntilSeen : ByteArray := prog_1_method_35_code
def yX8_minutesUntilSeen : MethodName := ⟨RX8, "minutesUntilSeen", "()I"⟩
abbrev cX8_minutesUntilDone : ByteArray := prog_1_method_36_code
def yX8_minutesUntilDone : MethodName := ⟨RX8, "minutesUntilDone", "(I)I"⟩
abbrev cX8_bestToClean : ByteArray := prog_1_method_37_code
def yX8_bestToClean : MethodName := ⟨RX8, "bestToClean", "()I"⟩
abbrev cX8_bestOffset : ByteArray := prog_1_method_38_code
def yX8_bestOffset : MethodName := ⟨RX8, "bestOffset", "(I)I"⟩
abbrev cX8_meanClarity : ByteArray := prog_1_method_39_code
def yX8_meanClarity : MethodName := ⟨RX8, "meanClarity", "()D"⟩
abbrev cX8_digest : ByteArray := prog_1_method_40_code
def yX8_digest : MethodName := ⟨RX8, "digest", "()J"⟩
abbrev cX8_digestOfMirror : ByteArray := prog_1_method_41_code
def yX8_digestOfMirror : MethodName := ⟨RX8, "digestOfMirror", "(JI)J"⟩
abbrev cX8_lightIfTurned : ByteArray := prog_1_method_42_code
def yX8_lightIfTurned : MethodName := ⟨RX8, "lightIfTurned", "(II)I"⟩
abbrev cX8_checkMirror : ByteArray := prog_1_method_43_code
def yX8_checkMirror : MethodName := ⟨RX8, "checkMirror", "(I)V"⟩
abbrev cX8_checkJob : ByteArray := prog_1_method_44_code
def yX8_checkJob : MethodName := ⟨RX8, "checkJob", "(I)V"⟩
abbrev cX8_checkMinutes : ByteArray := prog_1_method_45_code
def yX8_checkMinutes : MethodName := ⟨RX8, "checkMinutes", "(I)V"⟩
abbrev cX8_isOrder : ByteArray := prog_1_method_46_code
def yX8_isOrder : MethodName := ⟨RX8, "isOrder", "(I)Z"⟩
abbrev cX8_isOrderBySum : ByteArray := prog_1_method_47_code
def yX8_isOrderBySum : MethodName := ⟨RX8, "isOrderBySum", "(I)Z"⟩
abbrev cX8_hold : ByteArray := prog_1_method_48_code
def yX8_hold : MethodName := ⟨RX8, "hold", "(JII)I"⟩
def RX9 : String := "PeriscopeTrainModel$State"
def TX9 : u_T := fun k => match k with
  | 0 => ("PeriscopeTrainModel$State", "clarity", "[I", true)
  | 1 => ("PeriscopeTrainModel$State", "best", "[I", true)
  | 2 => ("PeriscopeTrainModel$State", "offset", "[I", true)
  | 3 => ("PeriscopeTrainModel$State", "row", "[I", true)
  | 4 => ("PeriscopeTrainModel$State", "job", "[I", true)
  | 5 => ("PeriscopeTrainModel$State", "jobMirror", "[I", true)
  | 6 => ("PeriscopeTrainModel$State", "jobs", "I", false)
  | 7 => ("PeriscopeTrainModel$State", "toGo", "I", false)
  | 8 => ("PeriscopeTrainModel$State", "minutes", "I", false)
  | _ => ("PeriscopeTrainModel$State", "done", "I", false)
def tyX9 : Nat → FieldType := fun k => match k with
  | 0 => .array .int
  | 1 => .array .int
  | 2 => .array .int
  | 3 => .array .int
  | 4 => .array .int
  | 5 => .array .int
  | 6 => .int
  | 7 => .int
  | 8 => .int
  | _ => .int
theorem nmX9 : ∀ a, a < 10 → ∀ b, b < 10 → a ≠ b → (TX9 a).2.1 ≠ (TX9 b).2.1 := by decide +kernel
theorem tyX9_ok : ∀ k, k < 10 → parseFieldDescriptor (TX9 k).2.2.1 = some (tyX9 k) := by decide +kernel
abbrev cX9_init : ByteArray := prog_12_method_1_code
def yX9_init : MethodName := ⟨RX9, "<init>", "()V"⟩
abbrev cX9_become : ByteArray := prog_12_method_2_code
def yX9_become : MethodName := ⟨RX9, "become", "(LPeriscopeTrainModel$State;)V"⟩
abbrev cX9_begin : ByteArray := prog_12_method_3_code
def yX9_begin : MethodName := ⟨RX9, "begin", "(LPeriscopeTrainModel$Told;)V"⟩
abbrev cX9_isCovered : ByteArray := prog_12_method_4_code
def yX9_isCovered : MethodName := ⟨RX9, "isCovered", "(I)Z"⟩
abbrev cX9_find : ByteArray := prog_12_method_5_code
def yX9_find : MethodName := ⟨RX9, "find", "(II)I"⟩
abbrev cX9_order : ByteArray := prog_12_method_6_code
def yX9_order : MethodName := ⟨RX9, "order", "(II)Z"⟩
abbrev cX9_take : ByteArray := prog_12_method_7_code
def yX9_take : MethodName := ⟨RX9, "take", "(I)I"⟩
abbrev cX9_clean : ByteArray := prog_12_method_8_code
def yX9_clean : MethodName := ⟨RX9, "clean", "(I)V"⟩
abbrev cX9_takes : ByteArray := prog_12_method_9_code
def yX9_takes : MethodName := ⟨RX9, "takes", "()I"⟩
abbrev cX9_works : ByteArray := prog_12_method_10_code
def yX9_works : MethodName := ⟨RX9, "works", "()Z"⟩
def RX10 : String := "PeriscopeTrainModel$Told"
def TX10 : u_T := fun k => match k with
  | 0 => ("PeriscopeTrainModel$Told", "mirrors", "I", false)
  | 1 => ("PeriscopeTrainModel$Told", "width", "I", false)
  | 2 => ("PeriscopeTrainModel$Told", "limit", "I", false)
  | 3 => ("PeriscopeTrainModel$Told", "clarity", "[I", true)
  | 4 => ("PeriscopeTrainModel$Told", "offset", "[I", true)
  | 5 => ("PeriscopeTrainModel$Told", "orders", "I", false)
  | 6 => ("PeriscopeTrainModel$Told", "does", "[I", true)
  | 7 => ("PeriscopeTrainModel$Told", "mirror", "[I", true)
  | 8 => ("PeriscopeTrainModel$Told", "from", "[I", true)
  | 9 => ("PeriscopeTrainModel$Told", "to", "[I", true)
  | 10 => ("PeriscopeTrainModel$Told", "sum", "[I", true)
  | 11 => ("PeriscopeTrainModel$Told", "test", "[I", true)
  | 12 => ("PeriscopeTrainModel$Told", "nodes", "I", false)
  | 13 => ("PeriscopeTrainModel$Told", "sort", "[I", true)
  | 14 => ("PeriscopeTrainModel$Told", "left", "[I", true)
  | _ => ("PeriscopeTrainModel$Told", "right", "[I", true)
def tyX10 : Nat → FieldType := fun k => match k with
  | 0 => .int
  | 1 => .int
  | 2 => .int
  | 3 => .array .int
  | 4 => .array .int
  | 5 => .int
  | 6 => .array .int
  | 7 => .array .int
  | 8 => .array .int
  | 9 => .array .int
  | 10 => .array .int
  | 11 => .array .int
  | 12 => .int
  | 13 => .array .int
  | 14 => .array .int
  | _ => .array .int
theorem nmX10 : ∀ a, a < 16 → ∀ b, b < 16 → a ≠ b → (TX10 a).2.1 ≠ (TX10 b).2.1 := by decide +kernel
theorem tyX10_ok : ∀ k, k < 16 → parseFieldDescriptor (TX10 k).2.2.1 = some (tyX10 k) := by decide +kernel
abbrev cX10_init : ByteArray := prog_13_method_1_code
def yX10_init : MethodName := ⟨RX10, "<init>", "()V"⟩
abbrev cX10_begin : ByteArray := prog_13_method_2_code
def yX10_begin : MethodName := ⟨RX10, "begin", "()V"⟩
abbrev cX10_copy : ByteArray := prog_13_method_3_code
def yX10_copy : MethodName := ⟨RX10, "copy", "([I[I)V"⟩
abbrev cX10_become : ByteArray := prog_13_method_4_code
def yX10_become : MethodName := ⟨RX10, "become", "(LPeriscopeTrainModel$Told;)V"⟩
def RX11 : String := "PeriscopeTrainModel"
def TX11 : u_T := fun k => match k with
  | 0 => ("PeriscopeTrainModel", "thrown", "I", false)
  | 1 => ("PeriscopeTrainModel", "tape", "[I", true)
  | 2 => ("PeriscopeTrainModel", "bytes", "I", false)
  | 3 => ("PeriscopeTrainModel", "errorAt", "I", false)
  | 4 => ("PeriscopeTrainModel", "kind", "[I", true)
  | 5 => ("PeriscopeTrainModel", "number", "[I", true)
  | 6 => ("PeriscopeTrainModel", "position", "[I", true)
  | 7 => ("PeriscopeTrainModel", "length", "[I", true)
  | 8 => ("PeriscopeTrainModel", "token", "I", false)
  | 9 => ("PeriscopeTrainModel", "isWrong", "Z", false)
  | 10 => ("PeriscopeTrainModel", "error", "I", false)
  | 11 => ("PeriscopeTrainModel", "errorToken", "I", false)
  | 12 => ("PeriscopeTrainModel", "deep", "I", false)
  | 13 => ("PeriscopeTrainModel", "named", "[I", true)
  | 14 => ("PeriscopeTrainModel", "told", "LPeriscopeTrainModel$Told;", true)
  | 15 => ("PeriscopeTrainModel", "fresh", "LPeriscopeTrainModel$Told;", true)
  | 16 => ("PeriscopeTrainModel", "value", "[I", true)
  | 17 => ("PeriscopeTrainModel", "now", "LPeriscopeTrainModel$State;", true)
  | 18 => ("PeriscopeTrainModel", "ahead", "LPeriscopeTrainModel$State;", true)
  | 19 => ("PeriscopeTrainModel", "comes", "[I", true)
  | 20 => ("PeriscopeTrainModel", "behind", "[I", true)
  | 21 => ("PeriscopeTrainModel", "tilt", "[I", true)
  | 22 => ("PeriscopeTrainModel", "endLight", "I", false)
  | _ => ("PeriscopeTrainModel", "endTilt", "I", false)
def tyX11 : Nat → FieldType := fun k => match k with
  | 0 => .int
  | 1 => .array .int
  | 2 => .int
  | 3 => .int
  | 4 => .array .int
  | 5 => .array .int
  | 6 => .array .int
  | 7 => .array .int
  | 8 => .int
  | 9 => .boolean
  | 10 => .int
  | 11 => .int
  | 12 => .int
  | 13 => .array .int
  | 14 => .object "PeriscopeTrainModel$Told"
  | 15 => .object "PeriscopeTrainModel$Told"
  | 16 => .array .int
  | 17 => .object "PeriscopeTrainModel$State"
  | 18 => .object "PeriscopeTrainModel$State"
  | 19 => .array .int
  | 20 => .array .int
  | 21 => .array .int
  | 22 => .int
  | _ => .int
theorem nmX11 : ∀ a, a < 24 → ∀ b, b < 24 → a ≠ b → (TX11 a).2.1 ≠ (TX11 b).2.1 := by decide +kernel
theorem tyX11_ok : ∀ k, k < 24 → parseFieldDescriptor (TX11 k).2.2.1 = some (tyX11 k) := by decide +kernel
abbrev cX11_init : ByteArray := prog_11_method_1_code
def yX11_init : MethodName := ⟨RX11, "<init>", "()V"⟩
abbrev cX11_thrown : ByteArray := prog_11_method_2_code
def yX11_thrown : MethodName := ⟨RX11, "thrown", "()I"⟩
abbrev cX11_no : ByteArray := prog_11_method_3_code
def yX11_no : MethodName := ⟨RX11, "no", "(I)I"⟩
abbrev cX11_ok : ByteArray := prog_11_method_5_code
def yX11_ok : MethodName := ⟨RX11, "ok", "(I)I"⟩
abbrev cX11_isIn : ByteArray := prog_11_method_6_code
def yX11_isIn : MethodName := ⟨RX11, "isIn", "(III)Z"⟩
abbrev cX11_isLetter : ByteArray := prog_11_method_7_code
def yX11_isLetter : MethodName := ⟨RX11, "isLetter", "(I)Z"⟩
abbrev cX11_isDigit : ByteArray := prog_11_method_8_code
def yX11_isDigit : MethodName := ⟨RX11, "isDigit", "(I)Z"⟩
abbrev cX11_byteAt : ByteArray := prog_11_method_9_code
def yX11_byteAt : MethodName := ⟨RX11, "byteAt", "(I)I"⟩
abbrev cX11_isWord : ByteArray := prog_11_method_10_code
def yX11_isWord : MethodName := ⟨RX11, "isWord", "(IILjava/lang/String;)Z"⟩
abbrev cX11_keyword : ByteArray := prog_11_method_11_code
def yX11_keyword : MethodName := ⟨RX11, "keyword", "(II)I"⟩
abbrev cX11_symbol : ByteArray := prog_11_method_12_code
def yX11_symbol : MethodName := ⟨RX11, "symbol", "(I)I"⟩
abbrev cX11_read : ByteArray := prog_11_method_13_code
def yX11_read : MethodName := ⟨RX11, "read", "(II)I"⟩
abbrev cX11_skip : ByteArray := prog_11_method_14_code
def yX11_skip : MethodName := ⟨RX11, "skip", "(I)I"⟩
abbrev cX11_readAll : ByteArray := prog_11_method_15_code
def yX11_readAll : MethodName := ⟨RX11, "readAll", "()V"⟩
abbrev cX11_is : ByteArray := prog_11_method_16_code
def yX11_is : MethodName := ⟨RX11, "is", "(I)Z"⟩
abbrev cX11_wrong : ByteArray := prog_11_method_17_code
def yX11_wrong : MethodName := ⟨RX11, "wrong", "()V"⟩
abbrev cX11_take : ByteArray := prog_11_method_18_code
def yX11_take : MethodName := ⟨RX11, "take", "(I)V"⟩
abbrev cX11_takes : ByteArray := prog_11_method_19_code
def yX11_takes : MethodName := ⟨RX11, "takes", "(I)Z"⟩
abbrev cX11_deeper : ByteArray := prog_11_method_20_code
def yX11_deeper : MethodName := ⟨RX11, "deeper", "()V"⟩
abbrev cX11_mark : ByteArray := prog_11_method_21_code
def yX11_mark : MethodName := ⟨RX11, "mark", "(I)V"⟩
abbrev cX11_node : ByteArray := prog_11_method_22_code
def yX11_node : MethodName := ⟨RX11, "node", "(III)I"⟩
abbrev cX11_isSameName : ByteArray := prog_11_method_23_code
def yX11_isSameName : MethodName := ⟨RX11, "isSameName", "(II)Z"⟩
abbrev cX11_known : ByteArray := prog_11_method_24_code
def yX11_known : MethodName := ⟨RX11, "known", "()I"⟩
abbrev cX11_name : ByteArray := prog_11_method_25_code
def yX11_name : MethodName := ⟨RX11, "name", "()I"⟩
abbrev cX11_inBrackets : ByteArray := prog_11_method_26_code
def yX11_inBrackets : MethodName := ⟨RX11, "inBrackets", "()I"⟩
abbrev cX11_ofTwo : ByteArray := prog_11_method_27_code
def yX11_ofTwo : MethodName := ⟨RX11, "ofTwo", "(I)I"⟩
abbrev cX11_isMeasure : ByteArray := prog_11_method_28_code
def yX11_isMeasure : MethodName := ⟨RX11, "isMeasure", "()Z"⟩
abbrev cX11_measure : ByteArray := prog_11_method_29_code
def yX11_measure : MethodName := ⟨RX11, "measure", "()I"⟩
abbrev cX11_value : ByteArray := prog_11_method_30_code
def yX11_value : MethodName := ⟨RX11, "value", "()I"⟩
abbrev cX11_product : ByteArray := prog_11_method_31_code
def yX11_product : MethodName := ⟨RX11, "product", "()I"⟩
abbrev cX11_sum : ByteArray := prog_11_method_32_code
def yX11_sum : MethodName := ⟨RX11, "sum", "()I"⟩
abbrev cX11_comparison : ByteArray := prog_11_method_33_code
def yX11_comparison : MethodName := ⟨RX11, "comparison", "()I"⟩
abbrev cX11_single : ByteArray := prog_11_method_34_code
def yX11_single : MethodName := ⟨RX11, "single", "()I"⟩
abbrev cX11_both : ByteArray := prog_11_method_35_code
def yX11_both : MethodName := ⟨RX11, "both", "()I"⟩
abbrev cX11_test : ByteArray := prog_11_method_36_code
def yX11_test : MethodName := ⟨RX11, "test", "()I"⟩
abbrev cX11_numberTo : ByteArray := prog_11_method_37_code
def yX11_numberTo : MethodName := ⟨RX11, "numberTo", "(I)I"⟩
abbrev cX11_mirror : ByteArray := prog_11_method_38_code
def yX11_mirror : MethodName := ⟨RX11, "mirror", "()V"⟩
abbrev cX11_order : ByteArray := prog_11_method_39_code
def yX11_order : MethodName := ⟨RX11, "order", "(I)V"⟩
abbrev cX11_line : ByteArray := prog_11_method_40_code
def yX11_line : MethodName := ⟨RX11, "line", "()V"⟩
abbrev cX11_train : ByteArray := prog_11_method_41_code
def yX11_train : MethodName := ⟨RX11, "train", "()V"⟩
abbrev cX11_feed : ByteArray := prog_11_method_42_code
def yX11_feed : MethodName := ⟨RX11, "feed", "(IIIII)I"⟩
abbrev cX11_trim : ByteArray := prog_11_method_43_code
def yX11_trim : MethodName := ⟨RX11, "trim", "(I)I"⟩
abbrev cX11_teach : ByteArray := prog_11_method_44_code
def yX11_teach : MethodName := ⟨RX11, "teach", "()I"⟩
abbrev cX11_errorAt : ByteArray := prog_11_method_45_code
def yX11_errorAt : MethodName := ⟨RX11, "errorAt", "()I"⟩
abbrev cX11_isWide : ByteArray := prog_11_method_46_code
def yX11_isWide : MethodName := ⟨RX11, "isWide", "(I)Z"⟩
abbrev cX11_shine : ByteArray := prog_11_method_47_code
def yX11_shine : MethodName := ⟨RX11, "shine", "(LPeriscopeTrainModel$State;)V"⟩
abbrev cX11_light : ByteArray := prog_11_method_48_code
def yX11_light : MethodName := ⟨RX11, "light", "(LPeriscopeTrainModel$State;)I"⟩
abbrev cX11_seen : ByteArray := prog_11_method_49_code
def yX11_seen : MethodName := ⟨RX11, "seen", "(LPeriscopeTrainModel$State;)Z"⟩
abbrev cX11_reckon : ByteArray := prog_11_method_50_code
def yX11_reckon : MethodName := ⟨RX11, "reckon", "(LPeriscopeTrainModel$State;III)I"⟩
abbrev cX11_joined : ByteArray := prog_11_method_51_code
def yX11_joined : MethodName := ⟨RX11, "joined", "(III)I"⟩
abbrev cX11_held : ByteArray := prog_11_method_52_code
def yX11_held : MethodName := ⟨RX11, "held", "(JII)I"⟩
abbrev cX11_carryOut : ByteArray := prog_11_method_53_code
def yX11_carryOut : MethodName := ⟨RX11, "carryOut", "(LPeriscopeTrainModel$State;I)V"⟩
abbrev cX11_pass : ByteArray := prog_11_method_54_code
def yX11_pass : MethodName := ⟨RX11, "pass", "(LPeriscopeTrainModel$State;)Z"⟩
abbrev cX11_mirrors : ByteArray := prog_11_method_55_code
def yX11_mirrors : MethodName := ⟨RX11, "mirrors", "()I"⟩
abbrev cX11_orders : ByteArray := prog_11_method_56_code
def yX11_orders : MethodName := ⟨RX11, "orders", "()I"⟩
abbrev cX11_minutes : ByteArray := prog_11_method_57_code
def yX11_minutes : MethodName := ⟨RX11, "minutes", "()I"⟩
abbrev cX11_tapeBytes : ByteArray := prog_11_method_58_code
def yX11_tapeBytes : MethodName := ⟨RX11, "tapeBytes", "()I"⟩
abbrev cX11_lightAtEnd : ByteArray := prog_11_method_59_code
def yX11_lightAtEnd : MethodName := ⟨RX11, "lightAtEnd", "()I"⟩
abbrev cX11_tiltAtEnd : ByteArray := prog_11_method_60_code
def yX11_tiltAtEnd : MethodName := ⟨RX11, "tiltAtEnd", "()I"⟩
abbrev cX11_isSeen : ByteArray := prog_11_method_61_code
def yX11_isSeen : MethodName := ⟨RX11, "isSeen", "()Z"⟩
abbrev cX11_worstMirror : ByteArray := prog_11_method_62_code
def yX11_worstMirror : MethodName := ⟨RX11, "worstMirror", "()I"⟩
abbrev cX11_isMirror : ByteArray := prog_11_method_63_code
def yX11_isMirror : MethodName := ⟨RX11, "isMirror", "(I)Z"⟩
abbrev cX11_clarityOf : ByteArray := prog_11_method_64_code
def yX11_clarityOf : MethodName := ⟨RX11, "clarityOf", "(I)I"⟩
abbrev cX11_bestClarityOf : ByteArray := prog_11_method_65_code
def yX11_bestClarityOf : MethodName := ⟨RX11, "bestClarityOf", "(I)I"⟩
abbrev cX11_offsetOf : ByteArray := prog_11_method_66_code
def yX11_offsetOf : MethodName := ⟨RX11, "offsetOf", "(I)I"⟩
abbrev cX11_place : ByteArray := prog_11_method_67_code
def yX11_place : MethodName := ⟨RX11, "place", "(I)I"⟩
abbrev cX11_placeOf : ByteArray := prog_11_method_68_code
def yX11_placeOf : MethodName := ⟨RX11, "placeOf", "(I)I"⟩
abbrev cX11_lightBehind : ByteArray := prog_11_method_69_code
def yX11_lightBehind : MethodName := ⟨RX11, "lightBehind", "(I)I"⟩
abbrev cX11_lostAt : ByteArray := prog_11_method_70_code
def yX11_lostAt : MethodName := ⟨RX11, "lostAt", "(I)I"⟩
abbrev cX11_tiltBehind : ByteArray := prog_11_method_71_code
def yX11_tiltBehind : MethodName := ⟨RX11, "tiltBehind", "(I)I"⟩
abbrev cX11_isCovered : ByteArray := prog_11_method_72_code
def yX11_isCovered : MethodName := ⟨RX11, "isCovered", "(I)Z"⟩
abbrev cX11_mirrorAt : ByteArray := prog_11_method_73_code
def yX11_mirrorAt : MethodName := ⟨RX11, "mirrorAt", "(I)I"⟩
abbrev cX11_isJob : ByteArray := prog_11_method_74_code
def yX11_isJob : MethodName := ⟨RX11, "isJob", "(I)Z"⟩
abbrev cX11_jobs : ByteArray := prog_11_method_75_code
def yX11_jobs : MethodName := ⟨RX11, "jobs", "()I"⟩
abbrev cX11_jobsDone : ByteArray := prog_11_method_76_code
def yX11_jobsDone : MethodName := ⟨RX11, "jobsDone", "()I"⟩
abbrev cX11_kindOfJob : ByteArray := prog_11_method_77_code
def yX11_kindOfJob : MethodName := ⟨RX11, "kindOfJob", "(I)I"⟩
abbrev cX11_mirrorOfJob : ByteArray := prog_11_method_78_code
def yX11_mirrorOfJob : MethodName := ⟨RX11, "mirrorOfJob", "(I)I"⟩
abbrev cX11_minutesToGo : ByteArray := prog_11_method_79_code
def yX11_minutesToGo : MethodName := ⟨RX11, "minutesToGo", "()I"⟩
abbrev cX11_orderJob : ByteArray := prog_11_method_80_code
def yX11_orderJob : MethodName := ⟨RX11, "orderJob", "(II)I"⟩
abbrev cX11_cancelJob : ByteArray := prog_11_method_81_code
def yX11_cancelJob : MethodName := ⟨RX11, "cancelJob", "(I)I"⟩
abbrev cX11_turnMirror : ByteArray := prog_11_method_82_code
def yX11_turnMirror : MethodName := ⟨RX11, "turnMirror", "(II)I"⟩
abbrev cX11_dustMirror : ByteArray := prog_11_method_83_code
def yX11_dustMirror : MethodName := ⟨RX11, "dustMirror", "(II)I"⟩
abbrev cX11_moveMirror : ByteArray := prog_11_method_84_code
def yX11_moveMirror : MethodName := ⟨RX11, "moveMirror", "(II)I"⟩
abbrev cX11_passMinutes : ByteArray := prog_11_method_85_code
def yX11_passMinutes : MethodName := ⟨RX11, "passMinutes", "(I)I"⟩
abbrev cX11_lightAfter : ByteArray := prog_11_method_86_code
def yX11_lightAfter : MethodName := ⟨RX11, "lightAfter", "(I)I"⟩
abbrev cX11_minutesUntilSeen : ByteArray := prog_11_method_87_code
def yX11_minutesUntilSeen : MethodName := ⟨RX11, "minutesUntilSeen", "()I"⟩
abbrev cX11_minutesUntilDone : ByteArray := prog_11_method_88_code
def yX11_minutesUntilDone : MethodName := ⟨RX11, "minutesUntilDone", "(I)I"⟩
abbrev cX11_bestToClean : ByteArray := prog_11_method_89_code
def yX11_bestToClean : MethodName := ⟨RX11, "bestToClean", "()I"⟩
abbrev cX11_bestOffset : ByteArray := prog_11_method_90_code
def yX11_bestOffset : MethodName := ⟨RX11, "bestOffset", "(I)I"⟩
abbrev cX11_meanClarity : ByteArray := prog_11_method_91_code
def yX11_meanClarity : MethodName := ⟨RX11, "meanClarity", "()D"⟩
abbrev cX11_digest : ByteArray := prog_11_method_92_code
def yX11_digest : MethodName := ⟨RX11, "digest", "()J"⟩
def RJ11 : String := "java/lang/Character"
abbrev cJ11_isValidCodePoint_9a6ad : ByteArray := prog_14_method_11_code
def yJ11_isValidCodePoint_9a6ad : MethodName := ⟨RJ11, "isValidCodePoint", "(I)Z"⟩
abbrev cJ11_highSurrogate_5068e : ByteArray := prog_14_method_28_code
def yJ11_highSurrogate_5068e : MethodName := ⟨RJ11, "highSurrogate", "(I)C"⟩
abbrev cJ11_lowSurrogate_5068e : ByteArray := prog_14_method_29_code
def yJ11_lowSurrogate_5068e : MethodName := ⟨RJ11, "lowSurrogate", "(I)C"⟩
def RJ9 : String := "java/lang/Math"
abbrev cJ9_abs_0f7a4 : ByteArray := prog_19_method_59_code
def yJ9_abs_0f7a4 : MethodName := ⟨RJ9, "abs", "(I)I"⟩
abbrev cJ9_max_7cf53 : ByteArray := prog_19_method_65_code
def yJ9_max_7cf53 : MethodName := ⟨RJ9, "max", "(II)I"⟩
abbrev cJ9_max_f86c9 : ByteArray := prog_19_method_66_code
def yJ9_max_f86c9 : MethodName := ⟨RJ9, "max", "(JJ)J"⟩
abbrev cJ9_min_7cf53 : ByteArray := prog_19_method_69_code
def yJ9_min_7cf53 : MethodName := ⟨RJ9, "min", "(II)I"⟩
abbrev cJ9_min_f86c9 : ByteArray := prog_19_method_70_code
def yJ9_min_f86c9 : MethodName := ⟨RJ9, "min", "(JJ)J"⟩
def RJ0 : String := "java/lang/String"
abbrev cJ0_length_8abf5 : ByteArray := prog_21_method_54_code
def yJ0_length_8abf5 : MethodName := ⟨RJ0, "length", "()I"⟩
abbrev cJ0_charAt_5068e : ByteArray := prog_21_method_56_code
def yJ0_charAt_5068e : MethodName := ⟨RJ0, "charAt", "(I)C"⟩
abbrev cJ0_indexOf_0f7a4 : ByteArray := prog_21_method_79_code
def yJ0_indexOf_0f7a4 : MethodName := ⟨RJ0, "indexOf", "(I)I"⟩
abbrev cJ0_indexOf_7cf53 : ByteArray := prog_21_method_80_code
def yJ0_indexOf_7cf53 : MethodName := ⟨RJ0, "indexOf", "(II)I"⟩
abbrev cJ0_coder_7d493 : ByteArray := prog_21_method_152_code
def yJ0_coder_7d493 : MethodName := ⟨RJ0, "coder", "()B"⟩
abbrev cJ0_isLatin1_aae02 : ByteArray := prog_21_method_154_code
def yJ0_isLatin1_aae02 : MethodName := ⟨RJ0, "isLatin1", "()Z"⟩
abbrev cJ0_checkIndex_df160 : ByteArray := prog_21_method_155_code
def yJ0_checkIndex_df160 : MethodName := ⟨RJ0, "checkIndex", "(II)V"⟩
abbrev cJ0_checkBoundsBeginEnd_23922 : ByteArray := prog_21_method_158_code
def yJ0_checkBoundsBeginEnd_23922 : MethodName := ⟨RJ0, "checkBoundsBeginEnd", "(III)V"⟩
def RJ1 : String := "java/lang/StringLatin1"
abbrev cJ1_charAt_3b067 : ByteArray := prog_22_method_2_code
def yJ1_charAt_3b067 : MethodName := ⟨RJ1, "charAt", "([BI)C"⟩
abbrev cJ1_canEncode_9a6ad : ByteArray := prog_22_method_4_code
def yJ1_canEncode_9a6ad : MethodName := ⟨RJ1, "canEncode", "(I)Z"⟩
abbrev cJ1_indexOf_4cfef : ByteArray := prog_22_method_22_code
def yJ1_indexOf_4cfef : MethodName := ⟨RJ1, "indexOf", "([BIII)I"⟩
abbrev cJ1_indexOfChar_4cfef : ByteArray := prog_22_method_23_code
def yJ1_indexOfChar_4cfef : MethodName := ⟨RJ1, "indexOfChar", "([BIII)I"⟩
def RJ2 : String := "java/lang/StringUTF16"
abbrev cJ2_getChar_3b067 : ByteArray := prog_23_method_5_code
def yJ2_getChar_3b067 : MethodName := ⟨RJ2, "getChar", "([BI)C"⟩
abbrev cJ2_length_9d52b : ByteArray := prog_23_method_6_code
def yJ2_length_9d52b : MethodName := ⟨RJ2, "length", "([B)I"⟩
abbrev cJ2_indexOf_4cfef : ByteArray := prog_23_method_40_code
def yJ2_indexOf_4cfef : MethodName := ⟨RJ2, "indexOf", "([BIII)I"⟩
abbrev cJ2_indexOfChar_4cfef : ByteArray := prog_23_method_47_code
def yJ2_indexOfChar_4cfef : MethodName := ⟨RJ2, "indexOfChar", "([BIII)I"⟩
abbrev cJ2_indexOfCharUnsafe_4cfef : ByteArray := prog_23_method_48_code
def yJ2_indexOfCharUnsafe_4cfef : MethodName := ⟨RJ2, "indexOfCharUnsafe", "([BIII)I"⟩
abbrev cJ2_indexOfSupplementary_4cfef : ByteArray := prog_23_method_49_code
def yJ2_indexOfSupplementary_4cfef : MethodName := ⟨RJ2, "indexOfSupplementary", "([BIII)I"⟩
abbrev cJ2_charAt_3b067 : ByteArray := prog_23_method_83_code
def yJ2_charAt_3b067 : MethodName := ⟨RJ2, "charAt", "([BI)C"⟩
abbrev cJ2_checkIndex_2214a : ByteArray := prog_23_method_91_code
def yJ2_checkIndex_2214a : MethodName := ⟨RJ2, "checkIndex", "(I[B)V"⟩
abbrev cJ2_checkBoundsBeginEnd_d044e : ByteArray := prog_23_method_93_code
def yJ2_checkBoundsBeginEnd_d044e : MethodName := ⟨RJ2, "checkBoundsBeginEnd", "(II[B)V"⟩
def RJ10 : String := "java/lang/System"
def RJ3 : String := "jdk/internal/util/Preconditions"
abbrev cJ3_checkIndex_8e157 : ByteArray := prog_26_method_11_code
def yJ3_checkIndex_8e157 : MethodName := ⟨RJ3, "checkIndex", "(IILjava/util/function/BiFunction;)I"⟩
abbrev cJ3_checkFromToIndex_8c36e : ByteArray := prog_26_method_12_code
def yJ3_checkFromToIndex_8c36e : MethodName := ⟨RJ3, "checkFromToIndex", "(IIILjava/util/function/BiFunction;)I"⟩
def RL : String := "PeriscopeTrainLaw"
abbrev cL_feed : ByteArray := method_3_code
def yL_feed : MethodName := ⟨RL, "feed", "(LPeriscopeTrain;IIIII[J)I"⟩
abbrev cL_trim : ByteArray := method_4_code
def yL_trim : MethodName := ⟨RL, "trim", "(LPeriscopeTrain;I[J)I"⟩
abbrev cL_worstMirror : ByteArray := method_5_code
def yL_worstMirror : MethodName := ⟨RL, "worstMirror", "(LPeriscopeTrain;[J)I"⟩
abbrev cL_clarityOf : ByteArray := method_6_code
def yL_clarityOf : MethodName := ⟨RL, "clarityOf", "(LPeriscopeTrain;I[J)I"⟩
abbrev cL_bestClarityOf : ByteArray := method_7_code
def yL_bestClarityOf : MethodName := ⟨RL, "bestClarityOf", "(LPeriscopeTrain;I[J)I"⟩
abbrev cL_offsetOf : ByteArray := method_8_code
def yL_offsetOf : MethodName := ⟨RL, "offsetOf", "(LPeriscopeTrain;I[J)I"⟩
abbrev cL_placeOf : ByteArray := method_9_code
def yL_placeOf : MethodName := ⟨RL, "placeOf", "(LPeriscopeTrain;I[J)I"⟩
abbrev cL_lightBehind : ByteArray := method_10_code
def yL_lightBehind : MethodName := ⟨RL, "lightBehind", "(LPeriscopeTrain;I[J)I"⟩
abbrev cL_lostAt : ByteArray := method_11_code
def yL_lostAt : MethodName := ⟨RL, "lostAt", "(LPeriscopeTrain;I[J)I"⟩
abbrev cL_tiltBehind : ByteArray := method_12_code
def yL_tiltBehind : MethodName := ⟨RL, "tiltBehind", "(LPeriscopeTrain;I[J)I"⟩
abbrev cL_isCovered : ByteArray := method_13_code
def yL_isCovered : MethodName := ⟨RL, "isCovered", "(LPeriscopeTrain;I[J)I"⟩
abbrev cL_mirrorAt : ByteArray := method_14_code
def yL_mirrorAt : MethodName := ⟨RL, "mirrorAt", "(LPeriscopeTrain;I[J)I"⟩
abbrev cL_kindOfJob : ByteArray := method_15_code
def yL_kindOfJob : MethodName := ⟨RL, "kindOfJob", "(LPeriscopeTrain;I[J)I"⟩
abbrev cL_mirrorOfJob : ByteArray := method_16_code
def yL_mirrorOfJob : MethodName := ⟨RL, "mirrorOfJob", "(LPeriscopeTrain;I[J)I"⟩
abbrev cL_orderJob : ByteArray := method_17_code
def yL_orderJob : MethodName := ⟨RL, "orderJob", "(LPeriscopeTrain;II[J)I"⟩
abbrev cL_cancelJob : ByteArray := method_18_code
def yL_cancelJob : MethodName := ⟨RL, "cancelJob", "(LPeriscopeTrain;I[J)I"⟩
abbrev cL_turnMirror : ByteArray := method_19_code
def yL_turnMirror : MethodName := ⟨RL, "turnMirror", "(LPeriscopeTrain;II[J)I"⟩
abbrev cL_dustMirror : ByteArray := method_20_code
def yL_dustMirror : MethodName := ⟨RL, "dustMirror", "(LPeriscopeTrain;II[J)I"⟩
abbrev cL_moveMirror : ByteArray := method_21_code
def yL_moveMirror : MethodName := ⟨RL, "moveMirror", "(LPeriscopeTrain;II[J)I"⟩
abbrev cL_passMinutes : ByteArray := method_22_code
def yL_passMinutes : MethodName := ⟨RL, "passMinutes", "(LPeriscopeTrain;I[J)I"⟩
abbrev cL_lightAfter : ByteArray := method_23_code
def yL_lightAfter : MethodName := ⟨RL, "lightAfter", "(LPeriscopeTrain;I[J)I"⟩
abbrev cL_minutesUntilDone : ByteArray := method_24_code
def yL_minutesUntilDone : MethodName := ⟨RL, "minutesUntilDone", "(LPeriscopeTrain;I[J)I"⟩
abbrev cL_bestOffset : ByteArray := method_25_code
def yL_bestOffset : MethodName := ⟨RL, "bestOffset", "(LPeriscopeTrain;I[J)I"⟩
abbrev cL_law : ByteArray := code
def yL_law : MethodName := ⟨RL, "law", "([I)Z"⟩
abbrev vwCl : List vw_C := [(RX0, TX0, 3), (RX1, TX1, 5), (RX2, TX2, 9), (RX3, TX3, 5), (RX4, TX4, 14), (RX5, TX5, 2), (RX6, TX6, 6), (RX7, TX7, 6), (RX8, TX8, 9), (RX9, TX9, 10), (RX10, TX10, 16), (RX11, TX11, 24)]
