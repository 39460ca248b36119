section
-- ===== PART A: goes FIRST, ahead of the names: the tables' words, and 'selects' of the private methods out of them =====
/-- a private method of a class that the tables say can be made, by its rows of tables_1 -/
def lw_okq (q : MethodName × Nat) : Prop := (q.1.cls ≠ "java/lang/invoke/MethodHandle" ∧ q.1.cls ≠ "java/lang/invoke/VarHandle") ∧ Cond.instantiable q.1.cls q.2 ∈ tables_1 ∧ Cond.privateMethod q.1 ∈ tables_1 ∧ Cond.instanceMethod q.1 ∈ tables_1
theorem lw_p0 : lw_okq (⟨"PeriscopeTrain$Tokens", "readToken", "(I)I"⟩, 6) := ⟨⟨by decide +kernel, by decide +kernel⟩, List.mem_of_getElem? (i := 51) (by decide +kernel), List.mem_of_getElem? (i := 318) (by decide +kernel), List.mem_of_getElem? (i := 319) (by decide +kernel)⟩
theorem lw_p1 : lw_okq (⟨"PeriscopeTrain$Tokens", "readWord", "(I)I"⟩, 6) := ⟨⟨by decide +kernel, by decide +kernel⟩, List.mem_of_getElem? (i := 51) (by decide +kernel), List.mem_of_getElem? (i := 326) (by decide +kernel), List.mem_of_getElem? (i := 327) (by decide +kernel)⟩
theorem lw_p2 : lw_okq (⟨"PeriscopeTrain$Tokens", "add", "(III)V"⟩, 6) := ⟨⟨by decide +kernel, by decide +kernel⟩, List.mem_of_getElem? (i := 51) (by decide +kernel), List.mem_of_getElem? (i := 420) (by decide +kernel), List.mem_of_getElem? (i := 421) (by decide +kernel)⟩
theorem lw_p3 : lw_okq (⟨"PeriscopeTrain$Tokens", "readNumber", "(I)I"⟩, 6) := ⟨⟨by decide +kernel, by decide +kernel⟩, List.mem_of_getElem? (i := 51) (by decide +kernel), List.mem_of_getElem? (i := 425) (by decide +kernel), List.mem_of_getElem? (i := 426) (by decide +kernel)⟩
theorem lw_p4 : lw_okq (⟨"PeriscopeTrain$Tokens", "readSymbol", "(II)I"⟩, 6) := ⟨⟨by decide +kernel, by decide +kernel⟩, List.mem_of_getElem? (i := 51) (by decide +kernel), List.mem_of_getElem? (i := 437) (by decide +kernel), List.mem_of_getElem? (i := 438) (by decide +kernel)⟩
theorem lw_p5 : lw_okq (⟨"PeriscopeTrain$Grammar", "isNext", "(I)Z"⟩, 3) := ⟨⟨by decide +kernel, by decide +kernel⟩, List.mem_of_getElem? (i := 125) (by decide +kernel), List.mem_of_getElem? (i := 509) (by decide +kernel), List.mem_of_getElem? (i := 510) (by decide +kernel)⟩
theorem lw_p6 : lw_okq (⟨"PeriscopeTrain$Grammar", "line", "()Z"⟩, 3) := ⟨⟨by decide +kernel, by decide +kernel⟩, List.mem_of_getElem? (i := 125) (by decide +kernel), List.mem_of_getElem? (i := 517) (by decide +kernel), List.mem_of_getElem? (i := 518) (by decide +kernel)⟩
theorem lw_p7 : lw_okq (⟨"PeriscopeTrain$Grammar", "take", "(I)Z"⟩, 3) := ⟨⟨by decide +kernel, by decide +kernel⟩, List.mem_of_getElem? (i := 125) (by decide +kernel), List.mem_of_getElem? (i := 521) (by decide +kernel), List.mem_of_getElem? (i := 522) (by decide +kernel)⟩
theorem lw_p8 : lw_okq (⟨"PeriscopeTrain$Grammar", "mirror", "()Z"⟩, 3) := ⟨⟨by decide +kernel, by decide +kernel⟩, List.mem_of_getElem? (i := 125) (by decide +kernel), List.mem_of_getElem? (i := 525) (by decide +kernel), List.mem_of_getElem? (i := 526) (by decide +kernel)⟩
theorem lw_p9 : lw_okq (⟨"PeriscopeTrain$Grammar", "order", "(I)Z"⟩, 3) := ⟨⟨by decide +kernel, by decide +kernel⟩, List.mem_of_getElem? (i := 125) (by decide +kernel), List.mem_of_getElem? (i := 529) (by decide +kernel), List.mem_of_getElem? (i := 530) (by decide +kernel)⟩
theorem lw_p10 : lw_okq (⟨"PeriscopeTrain$Grammar", "sum", "(I)Z"⟩, 3) := ⟨⟨by decide +kernel, by decide +kernel⟩, List.mem_of_getElem? (i := 125) (by decide +kernel), List.mem_of_getElem? (i := 539) (by decide +kernel), List.mem_of_getElem? (i := 540) (by decide +kernel)⟩
theorem lw_p11 : lw_okq (⟨"PeriscopeTrain$Grammar", "product", "(I)Z"⟩, 3) := ⟨⟨by decide +kernel, by decide +kernel⟩, List.mem_of_getElem? (i := 125) (by decide +kernel), List.mem_of_getElem? (i := 543) (by decide +kernel), List.mem_of_getElem? (i := 544) (by decide +kernel)⟩
theorem lw_p12 : lw_okq (⟨"PeriscopeTrain$Grammar", "value", "(I)Z"⟩, 3) := ⟨⟨by decide +kernel, by decide +kernel⟩, List.mem_of_getElem? (i := 125) (by decide +kernel), List.mem_of_getElem? (i := 547) (by decide +kernel), List.mem_of_getElem? (i := 548) (by decide +kernel)⟩
theorem lw_p13 : lw_okq (⟨"PeriscopeTrain$Grammar", "pair", "(II)Z"⟩, 3) := ⟨⟨by decide +kernel, by decide +kernel⟩, List.mem_of_getElem? (i := 125) (by decide +kernel), List.mem_of_getElem? (i := 555) (by decide +kernel), List.mem_of_getElem? (i := 556) (by decide +kernel)⟩
theorem lw_p14 : lw_okq (⟨"PeriscopeTrain$Grammar", "test", "(I)Z"⟩, 3) := ⟨⟨by decide +kernel, by decide +kernel⟩, List.mem_of_getElem? (i := 125) (by decide +kernel), List.mem_of_getElem? (i := 559) (by decide +kernel), List.mem_of_getElem? (i := 560) (by decide +kernel)⟩
theorem lw_p15 : lw_okq (⟨"PeriscopeTrain$Grammar", "both", "(I)Z"⟩, 3) := ⟨⟨by decide +kernel, by decide +kernel⟩, List.mem_of_getElem? (i := 125) (by decide +kernel), List.mem_of_getElem? (i := 563) (by decide +kernel), List.mem_of_getElem? (i := 564) (by decide +kernel)⟩
def lw_privs_1 : List (MethodName × Nat) := [(⟨"PeriscopeTrain$Tokens", "readToken", "(I)I"⟩, 6), (⟨"PeriscopeTrain$Tokens", "readWord", "(I)I"⟩, 6), (⟨"PeriscopeTrain$Tokens", "add", "(III)V"⟩, 6), (⟨"PeriscopeTrain$Tokens", "readNumber", "(I)I"⟩, 6), (⟨"PeriscopeTrain$Tokens", "readSymbol", "(II)I"⟩, 6), (⟨"PeriscopeTrain$Grammar", "isNext", "(I)Z"⟩, 3), (⟨"PeriscopeTrain$Grammar", "line", "()Z"⟩, 3), (⟨"PeriscopeTrain$Grammar", "take", "(I)Z"⟩, 3), (⟨"PeriscopeTrain$Grammar", "mirror", "()Z"⟩, 3), (⟨"PeriscopeTrain$Grammar", "order", "(I)Z"⟩, 3), (⟨"PeriscopeTrain$Grammar", "sum", "(I)Z"⟩, 3), (⟨"PeriscopeTrain$Grammar", "product", "(I)Z"⟩, 3), (⟨"PeriscopeTrain$Grammar", "value", "(I)Z"⟩, 3), (⟨"PeriscopeTrain$Grammar", "pair", "(II)Z"⟩, 3), (⟨"PeriscopeTrain$Grammar", "test", "(I)Z"⟩, 3), (⟨"PeriscopeTrain$Grammar", "both", "(I)Z"⟩, 3)]
theorem lw_r1 : ∀ q ∈ lw_privs_1, lw_okq q := List.forall_mem_cons.mpr ⟨lw_p0, List.forall_mem_cons.mpr ⟨lw_p1, List.forall_mem_cons.mpr ⟨lw_p2, List.forall_mem_cons.mpr ⟨lw_p3, List.forall_mem_cons.mpr ⟨lw_p4, List.forall_mem_cons.mpr ⟨lw_p5, List.forall_mem_cons.mpr ⟨lw_p6, List.forall_mem_cons.mpr ⟨lw_p7, List.forall_mem_cons.mpr ⟨lw_p8, List.forall_mem_cons.mpr ⟨lw_p9, List.forall_mem_cons.mpr ⟨lw_p10, List.forall_mem_cons.mpr ⟨lw_p11, List.forall_mem_cons.mpr ⟨lw_p12, List.forall_mem_cons.mpr ⟨lw_p13, List.forall_mem_cons.mpr ⟨lw_p14, List.forall_mem_cons.mpr ⟨lw_p15, fun _ h => absurd h List.not_mem_nil⟩⟩⟩⟩⟩⟩⟩⟩⟩⟩⟩⟩⟩⟩⟩⟩
theorem lw_p16 : lw_okq (⟨"PeriscopeTrain$Grammar", "single", "(I)Z"⟩, 3) := ⟨⟨by decide +kernel, by decide +kernel⟩, List.mem_of_getElem? (i := 125) (by decide +kernel), List.mem_of_getElem? (i := 567) (by decide +kernel), List.mem_of_getElem? (i := 568) (by decide +kernel)⟩
theorem lw_p17 : lw_okq (⟨"PeriscopeTrain$Meaning", "errorOf", "(I)I"⟩, 5) := ⟨⟨by decide +kernel, by decide +kernel⟩, List.mem_of_getElem? (i := 141) (by decide +kernel), List.mem_of_getElem? (i := 575) (by decide +kernel), List.mem_of_getElem? (i := 576) (by decide +kernel)⟩
theorem lw_p18 : lw_okq (⟨"PeriscopeTrain$Meaning", "errorOfNewName", "(I)I"⟩, 5) := ⟨⟨by decide +kernel, by decide +kernel⟩, List.mem_of_getElem? (i := 141) (by decide +kernel), List.mem_of_getElem? (i := 580) (by decide +kernel), List.mem_of_getElem? (i := 581) (by decide +kernel)⟩
theorem lw_p19 : lw_okq (⟨"PeriscopeTrain$Meaning", "mirrorNamed", "(I)I"⟩, 5) := ⟨⟨by decide +kernel, by decide +kernel⟩, List.mem_of_getElem? (i := 141) (by decide +kernel), List.mem_of_getElem? (i := 584) (by decide +kernel), List.mem_of_getElem? (i := 585) (by decide +kernel)⟩
theorem lw_p20 : lw_okq (⟨"PeriscopeTrain$Meaning", "errorOfName", "(I)I"⟩, 5) := ⟨⟨by decide +kernel, by decide +kernel⟩, List.mem_of_getElem? (i := 141) (by decide +kernel), List.mem_of_getElem? (i := 596) (by decide +kernel), List.mem_of_getElem? (i := 597) (by decide +kernel)⟩
theorem lw_p21 : lw_okq (⟨"PeriscopeTrain$Meaning", "errorOfNumber", "(I)I"⟩, 5) := ⟨⟨by decide +kernel, by decide +kernel⟩, List.mem_of_getElem? (i := 141) (by decide +kernel), List.mem_of_getElem? (i := 601) (by decide +kernel), List.mem_of_getElem? (i := 602) (by decide +kernel)⟩
theorem lw_p22 : lw_okq (⟨"PeriscopeTrain$Meaning", "errorOfOrder", "()I"⟩, 5) := ⟨⟨by decide +kernel, by decide +kernel⟩, List.mem_of_getElem? (i := 141) (by decide +kernel), List.mem_of_getElem? (i := 618) (by decide +kernel), List.mem_of_getElem? (i := 619) (by decide +kernel)⟩
theorem lw_p23 : lw_okq (⟨"PeriscopeTrain$Row", "shine", "()V"⟩, 14) := ⟨⟨by decide +kernel, by decide +kernel⟩, List.mem_of_getElem? (i := 170) (by decide +kernel), List.mem_of_getElem? (i := 675) (by decide +kernel), List.mem_of_getElem? (i := 676) (by decide +kernel)⟩
theorem lw_p24 : lw_okq (⟨"PeriscopeTrain$Row", "has", "(I)Z"⟩, 14) := ⟨⟨by decide +kernel, by decide +kernel⟩, List.mem_of_getElem? (i := 170) (by decide +kernel), List.mem_of_getElem? (i := 683) (by decide +kernel), List.mem_of_getElem? (i := 684) (by decide +kernel)⟩
theorem lw_p25 : lw_okq (⟨"PeriscopeTrain$Row", "isWithinWidth", "(I)Z"⟩, 14) := ⟨⟨by decide +kernel, by decide +kernel⟩, List.mem_of_getElem? (i := 170) (by decide +kernel), List.mem_of_getElem? (i := 687) (by decide +kernel), List.mem_of_getElem? (i := 688) (by decide +kernel)⟩
theorem lw_p26 : lw_okq (⟨"PeriscopeTrain$World", "follow", "(II)V"⟩, 6) := ⟨⟨by decide +kernel, by decide +kernel⟩, List.mem_of_getElem? (i := 164) (by decide +kernel), List.mem_of_getElem? (i := 741) (by decide +kernel), List.mem_of_getElem? (i := 742) (by decide +kernel)⟩
theorem lw_p27 : lw_okq (⟨"PeriscopeTrain$World", "carryOut", "(II)V"⟩, 6) := ⟨⟨by decide +kernel, by decide +kernel⟩, List.mem_of_getElem? (i := 164) (by decide +kernel), List.mem_of_getElem? (i := 746) (by decide +kernel), List.mem_of_getElem? (i := 747) (by decide +kernel)⟩
theorem lw_p28 : lw_okq (⟨"PeriscopeTrain$World", "pop", "()I"⟩, 6) := ⟨⟨by decide +kernel, by decide +kernel⟩, List.mem_of_getElem? (i := 164) (by decide +kernel), List.mem_of_getElem? (i := 750) (by decide +kernel), List.mem_of_getElem? (i := 751) (by decide +kernel)⟩
theorem lw_p29 : lw_okq (⟨"PeriscopeTrain$World", "push", "(I)V"⟩, 6) := ⟨⟨by decide +kernel, by decide +kernel⟩, List.mem_of_getElem? (i := 164) (by decide +kernel), List.mem_of_getElem? (i := 788) (by decide +kernel), List.mem_of_getElem? (i := 789) (by decide +kernel)⟩
theorem lw_p30 : lw_okq (⟨"PeriscopeTrain$World", "valueOf", "(II)I"⟩, 6) := ⟨⟨by decide +kernel, by decide +kernel⟩, List.mem_of_getElem? (i := 164) (by decide +kernel), List.mem_of_getElem? (i := 800) (by decide +kernel), List.mem_of_getElem? (i := 801) (by decide +kernel)⟩
theorem lw_p31 : lw_okq (⟨"PeriscopeTrain$World", "work", "()V"⟩, 6) := ⟨⟨by decide +kernel, by decide +kernel⟩, List.mem_of_getElem? (i := 164) (by decide +kernel), List.mem_of_getElem? (i := 814) (by decide +kernel), List.mem_of_getElem? (i := 815) (by decide +kernel)⟩
def lw_privs_2 : List (MethodName × Nat) := [(⟨"PeriscopeTrain$Grammar", "single", "(I)Z"⟩, 3), (⟨"PeriscopeTrain$Meaning", "errorOf", "(I)I"⟩, 5), (⟨"PeriscopeTrain$Meaning", "errorOfNewName", "(I)I"⟩, 5), (⟨"PeriscopeTrain$Meaning", "mirrorNamed", "(I)I"⟩, 5), (⟨"PeriscopeTrain$Meaning", "errorOfName", "(I)I"⟩, 5), (⟨"PeriscopeTrain$Meaning", "errorOfNumber", "(I)I"⟩, 5), (⟨"PeriscopeTrain$Meaning", "errorOfOrder", "()I"⟩, 5), (⟨"PeriscopeTrain$Row", "shine", "()V"⟩, 14), (⟨"PeriscopeTrain$Row", "has", "(I)Z"⟩, 14), (⟨"PeriscopeTrain$Row", "isWithinWidth", "(I)Z"⟩, 14), (⟨"PeriscopeTrain$World", "follow", "(II)V"⟩, 6), (⟨"PeriscopeTrain$World", "carryOut", "(II)V"⟩, 6), (⟨"PeriscopeTrain$World", "pop", "()I"⟩, 6), (⟨"PeriscopeTrain$World", "push", "(I)V"⟩, 6), (⟨"PeriscopeTrain$World", "valueOf", "(II)I"⟩, 6), (⟨"PeriscopeTrain$World", "work", "()V"⟩, 6)]
theorem lw_r2 : ∀ q ∈ lw_privs_2, lw_okq q := List.forall_mem_cons.mpr ⟨lw_p16, List.forall_mem_cons.mpr ⟨lw_p17, List.forall_mem_cons.mpr ⟨lw_p18, List.forall_mem_cons.mpr ⟨lw_p19, List.forall_mem_cons.mpr ⟨lw_p20, List.forall_mem_cons.mpr ⟨lw_p21, List.forall_mem_cons.mpr ⟨lw_p22, List.forall_mem_cons.mpr ⟨lw_p23, List.forall_mem_cons.mpr ⟨lw_p24, List.forall_mem_cons.mpr ⟨lw_p25, List.forall_mem_cons.mpr ⟨lw_p26, List.forall_mem_cons.mpr ⟨lw_p27, List.forall_mem_cons.mpr ⟨lw_p28, List.forall_mem_cons.mpr ⟨lw_p29, List.forall_mem_cons.mpr ⟨lw_p30, List.forall_mem_cons.mpr ⟨lw_p31, fun _ h => absurd h List.not_mem_nil⟩⟩⟩⟩⟩⟩⟩⟩⟩⟩⟩⟩⟩⟩⟩⟩
theorem lw_p32 : lw_okq (⟨"PeriscopeTrain$World", "minutesFor", "(II)I"⟩, 6) := ⟨⟨by decide +kernel, by decide +kernel⟩, List.mem_of_getElem? (i := 164) (by decide +kernel), List.mem_of_getElem? (i := 826) (by decide +kernel), List.mem_of_getElem? (i := 827) (by decide +kernel)⟩
theorem lw_p33 : lw_okq (⟨"PeriscopeTrain$World", "finish", "(II)V"⟩, 6) := ⟨⟨by decide +kernel, by decide +kernel⟩, List.mem_of_getElem? (i := 164) (by decide +kernel), List.mem_of_getElem? (i := 845) (by decide +kernel), List.mem_of_getElem? (i := 846) (by decide +kernel)⟩
theorem lw_p34 : lw_okq (⟨"PeriscopeTrain", "digestOfMirror", "(JI)J"⟩, 9) := ⟨⟨by decide +kernel, by decide +kernel⟩, List.mem_of_getElem? (i := 27) (by decide +kernel), List.mem_of_getElem? (i := 883) (by decide +kernel), List.mem_of_getElem? (i := 884) (by decide +kernel)⟩
theorem lw_p35 : lw_okq (⟨"java/lang/Throwable", "fillInStackTrace", "(I)Ljava/lang/Throwable;"⟩, 6) := ⟨⟨by decide +kernel, by decide +kernel⟩, List.mem_of_getElem? (i := 942) (by decide +kernel), List.mem_of_getElem? (i := 940) (by decide +kernel), List.mem_of_getElem? (i := 941) (by decide +kernel)⟩
theorem lw_p36 : lw_okq (⟨"PeriscopeTrain", "checkMirror", "(I)V"⟩, 9) := ⟨⟨by decide +kernel, by decide +kernel⟩, List.mem_of_getElem? (i := 27) (by decide +kernel), List.mem_of_getElem? (i := 1019) (by decide +kernel), List.mem_of_getElem? (i := 1020) (by decide +kernel)⟩
theorem lw_p37 : lw_okq (⟨"PeriscopeTrain", "checkJob", "(I)V"⟩, 9) := ⟨⟨by decide +kernel, by decide +kernel⟩, List.mem_of_getElem? (i := 27) (by decide +kernel), List.mem_of_getElem? (i := 1104) (by decide +kernel), List.mem_of_getElem? (i := 1105) (by decide +kernel)⟩
theorem lw_p38 : lw_okq (⟨"PeriscopeTrain", "lightIfTurned", "(II)I"⟩, 9) := ⟨⟨by decide +kernel, by decide +kernel⟩, List.mem_of_getElem? (i := 27) (by decide +kernel), List.mem_of_getElem? (i := 1197) (by decide +kernel), List.mem_of_getElem? (i := 1198) (by decide +kernel)⟩
theorem lw_p39 : lw_okq (⟨"PeriscopeTrainModel", "no", "(I)I"⟩, 24) := ⟨⟨by decide +kernel, by decide +kernel⟩, List.mem_of_getElem? (i := 1201) (by decide +kernel), List.mem_of_getElem? (i := 1409) (by decide +kernel), List.mem_of_getElem? (i := 1410) (by decide +kernel)⟩
theorem lw_p40 : lw_okq (⟨"PeriscopeTrainModel", "readAll", "()V"⟩, 24) := ⟨⟨by decide +kernel, by decide +kernel⟩, List.mem_of_getElem? (i := 1201) (by decide +kernel), List.mem_of_getElem? (i := 1428) (by decide +kernel), List.mem_of_getElem? (i := 1429) (by decide +kernel)⟩
theorem lw_p41 : lw_okq (⟨"PeriscopeTrainModel", "skip", "(I)I"⟩, 24) := ⟨⟨by decide +kernel, by decide +kernel⟩, List.mem_of_getElem? (i := 1201) (by decide +kernel), List.mem_of_getElem? (i := 1432) (by decide +kernel), List.mem_of_getElem? (i := 1433) (by decide +kernel)⟩
theorem lw_p42 : lw_okq (⟨"PeriscopeTrainModel", "byteAt", "(I)I"⟩, 24) := ⟨⟨by decide +kernel, by decide +kernel⟩, List.mem_of_getElem? (i := 1201) (by decide +kernel), List.mem_of_getElem? (i := 1436) (by decide +kernel), List.mem_of_getElem? (i := 1437) (by decide +kernel)⟩
theorem lw_p43 : lw_okq (⟨"PeriscopeTrainModel", "read", "(II)I"⟩, 24) := ⟨⟨by decide +kernel, by decide +kernel⟩, List.mem_of_getElem? (i := 1201) (by decide +kernel), List.mem_of_getElem? (i := 1440) (by decide +kernel), List.mem_of_getElem? (i := 1441) (by decide +kernel)⟩
theorem lw_p44 : lw_okq (⟨"PeriscopeTrainModel", "keyword", "(II)I"⟩, 24) := ⟨⟨by decide +kernel, by decide +kernel⟩, List.mem_of_getElem? (i := 1201) (by decide +kernel), List.mem_of_getElem? (i := 1450) (by decide +kernel), List.mem_of_getElem? (i := 1451) (by decide +kernel)⟩
theorem lw_p45 : lw_okq (⟨"PeriscopeTrainModel", "isWord", "(IILjava/lang/String;)Z"⟩, 24) := ⟨⟨by decide +kernel, by decide +kernel⟩, List.mem_of_getElem? (i := 1201) (by decide +kernel), List.mem_of_getElem? (i := 1456) (by decide +kernel), List.mem_of_getElem? (i := 1457) (by decide +kernel)⟩
theorem lw_p46 : lw_okq (⟨"PeriscopeTrainModel", "train", "()V"⟩, 24) := ⟨⟨by decide +kernel, by decide +kernel⟩, List.mem_of_getElem? (i := 1201) (by decide +kernel), List.mem_of_getElem? (i := 1465) (by decide +kernel), List.mem_of_getElem? (i := 1466) (by decide +kernel)⟩
theorem lw_p47 : lw_okq (⟨"PeriscopeTrainModel", "line", "()V"⟩, 24) := ⟨⟨by decide +kernel, by decide +kernel⟩, List.mem_of_getElem? (i := 1201) (by decide +kernel), List.mem_of_getElem? (i := 1469) (by decide +kernel), List.mem_of_getElem? (i := 1470) (by decide +kernel)⟩
def lw_privs_3 : List (MethodName × Nat) := [(⟨"PeriscopeTrain$World", "minutesFor", "(II)I"⟩, 6), (⟨"PeriscopeTrain$World", "finish", "(II)V"⟩, 6), (⟨"PeriscopeTrain", "digestOfMirror", "(JI)J"⟩, 9), (⟨"java/lang/Throwable", "fillInStackTrace", "(I)Ljava/lang/Throwable;"⟩, 6), (⟨"PeriscopeTrain", "checkMirror", "(I)V"⟩, 9), (⟨"PeriscopeTrain", "checkJob", "(I)V"⟩, 9), (⟨"PeriscopeTrain", "lightIfTurned", "(II)I"⟩, 9), (⟨"PeriscopeTrainModel", "no", "(I)I"⟩, 24), (⟨"PeriscopeTrainModel", "readAll", "()V"⟩, 24), (⟨"PeriscopeTrainModel", "skip", "(I)I"⟩, 24), (⟨"PeriscopeTrainModel", "byteAt", "(I)I"⟩, 24), (⟨"PeriscopeTrainModel", "read", "(II)I"⟩, 24), (⟨"PeriscopeTrainModel", "keyword", "(II)I"⟩, 24), (⟨"PeriscopeTrainModel", "isWord", "(IILjava/lang/String;)Z"⟩, 24), (⟨"PeriscopeTrainModel", "train", "()V"⟩, 24), (⟨"PeriscopeTrainModel", "line", "()V"⟩, 24)]
theorem lw_r3 : ∀ q ∈ lw_privs_3, lw_okq q := List.forall_mem_cons.mpr ⟨lw_p32, List.forall_mem_cons.mpr ⟨lw_p33, List.forall_mem_cons.mpr ⟨lw_p34, List.forall_mem_cons.mpr ⟨lw_p35, List.forall_mem_cons.mpr ⟨lw_p36, List.forall_mem_cons.mpr ⟨lw_p37, List.forall_mem_cons.mpr ⟨lw_p38, List.forall_mem_cons.mpr ⟨lw_p39, List.forall_mem_cons.mpr ⟨lw_p40, List.forall_mem_cons.mpr ⟨lw_p41, List.forall_mem_cons.mpr ⟨lw_p42, List.forall_mem_cons.mpr ⟨lw_p43, List.forall_mem_cons.mpr ⟨lw_p44, List.forall_mem_cons.mpr ⟨lw_p45, List.forall_mem_cons.mpr ⟨lw_p46, List.forall_mem_cons.mpr ⟨lw_p47, fun _ h => absurd h List.not_mem_nil⟩⟩⟩⟩⟩⟩⟩⟩⟩⟩⟩⟩⟩⟩⟩⟩
theorem lw_p48 : lw_okq (⟨"PeriscopeTrainModel", "takes", "(I)Z"⟩, 24) := ⟨⟨by decide +kernel, by decide +kernel⟩, List.mem_of_getElem? (i := 1201) (by decide +kernel), List.mem_of_getElem? (i := 1473) (by decide +kernel), List.mem_of_getElem? (i := 1474) (by decide +kernel)⟩
theorem lw_p49 : lw_okq (⟨"PeriscopeTrainModel", "is", "(I)Z"⟩, 24) := ⟨⟨by decide +kernel, by decide +kernel⟩, List.mem_of_getElem? (i := 1201) (by decide +kernel), List.mem_of_getElem? (i := 1477) (by decide +kernel), List.mem_of_getElem? (i := 1478) (by decide +kernel)⟩
theorem lw_p50 : lw_okq (⟨"PeriscopeTrainModel", "mirror", "()V"⟩, 24) := ⟨⟨by decide +kernel, by decide +kernel⟩, List.mem_of_getElem? (i := 1201) (by decide +kernel), List.mem_of_getElem? (i := 1481) (by decide +kernel), List.mem_of_getElem? (i := 1482) (by decide +kernel)⟩
theorem lw_p51 : lw_okq (⟨"PeriscopeTrainModel", "known", "()I"⟩, 24) := ⟨⟨by decide +kernel, by decide +kernel⟩, List.mem_of_getElem? (i := 1201) (by decide +kernel), List.mem_of_getElem? (i := 1486) (by decide +kernel), List.mem_of_getElem? (i := 1487) (by decide +kernel)⟩
theorem lw_p52 : lw_okq (⟨"PeriscopeTrainModel", "isSameName", "(II)Z"⟩, 24) := ⟨⟨by decide +kernel, by decide +kernel⟩, List.mem_of_getElem? (i := 1201) (by decide +kernel), List.mem_of_getElem? (i := 1490) (by decide +kernel), List.mem_of_getElem? (i := 1491) (by decide +kernel)⟩
theorem lw_p53 : lw_okq (⟨"PeriscopeTrainModel", "mark", "(I)V"⟩, 24) := ⟨⟨by decide +kernel, by decide +kernel⟩, List.mem_of_getElem? (i := 1201) (by decide +kernel), List.mem_of_getElem? (i := 1494) (by decide +kernel), List.mem_of_getElem? (i := 1495) (by decide +kernel)⟩
theorem lw_p54 : lw_okq (⟨"PeriscopeTrainModel", "take", "(I)V"⟩, 24) := ⟨⟨by decide +kernel, by decide +kernel⟩, List.mem_of_getElem? (i := 1201) (by decide +kernel), List.mem_of_getElem? (i := 1498) (by decide +kernel), List.mem_of_getElem? (i := 1499) (by decide +kernel)⟩
theorem lw_p55 : lw_okq (⟨"PeriscopeTrainModel", "wrong", "()V"⟩, 24) := ⟨⟨by decide +kernel, by decide +kernel⟩, List.mem_of_getElem? (i := 1201) (by decide +kernel), List.mem_of_getElem? (i := 1502) (by decide +kernel), List.mem_of_getElem? (i := 1503) (by decide +kernel)⟩
theorem lw_p56 : lw_okq (⟨"PeriscopeTrainModel", "numberTo", "(I)I"⟩, 24) := ⟨⟨by decide +kernel, by decide +kernel⟩, List.mem_of_getElem? (i := 1201) (by decide +kernel), List.mem_of_getElem? (i := 1506) (by decide +kernel), List.mem_of_getElem? (i := 1507) (by decide +kernel)⟩
theorem lw_p57 : lw_okq (⟨"PeriscopeTrainModel", "order", "(I)V"⟩, 24) := ⟨⟨by decide +kernel, by decide +kernel⟩, List.mem_of_getElem? (i := 1201) (by decide +kernel), List.mem_of_getElem? (i := 1510) (by decide +kernel), List.mem_of_getElem? (i := 1511) (by decide +kernel)⟩
theorem lw_p58 : lw_okq (⟨"PeriscopeTrainModel", "name", "()I"⟩, 24) := ⟨⟨by decide +kernel, by decide +kernel⟩, List.mem_of_getElem? (i := 1201) (by decide +kernel), List.mem_of_getElem? (i := 1514) (by decide +kernel), List.mem_of_getElem? (i := 1515) (by decide +kernel)⟩
theorem lw_p59 : lw_okq (⟨"PeriscopeTrainModel", "sum", "()I"⟩, 24) := ⟨⟨by decide +kernel, by decide +kernel⟩, List.mem_of_getElem? (i := 1201) (by decide +kernel), List.mem_of_getElem? (i := 1519) (by decide +kernel), List.mem_of_getElem? (i := 1520) (by decide +kernel)⟩
theorem lw_p60 : lw_okq (⟨"PeriscopeTrainModel", "product", "()I"⟩, 24) := ⟨⟨by decide +kernel, by decide +kernel⟩, List.mem_of_getElem? (i := 1201) (by decide +kernel), List.mem_of_getElem? (i := 1523) (by decide +kernel), List.mem_of_getElem? (i := 1524) (by decide +kernel)⟩
theorem lw_p61 : lw_okq (⟨"PeriscopeTrainModel", "value", "()I"⟩, 24) := ⟨⟨by decide +kernel, by decide +kernel⟩, List.mem_of_getElem? (i := 1201) (by decide +kernel), List.mem_of_getElem? (i := 1527) (by decide +kernel), List.mem_of_getElem? (i := 1528) (by decide +kernel)⟩
theorem lw_p62 : lw_okq (⟨"PeriscopeTrainModel", "node", "(III)I"⟩, 24) := ⟨⟨by decide +kernel, by decide +kernel⟩, List.mem_of_getElem? (i := 1201) (by decide +kernel), List.mem_of_getElem? (i := 1531) (by decide +kernel), List.mem_of_getElem? (i := 1532) (by decide +kernel)⟩
theorem lw_p63 : lw_okq (⟨"PeriscopeTrainModel", "isMeasure", "()Z"⟩, 24) := ⟨⟨by decide +kernel, by decide +kernel⟩, List.mem_of_getElem? (i := 1201) (by decide +kernel), List.mem_of_getElem? (i := 1535) (by decide +kernel), List.mem_of_getElem? (i := 1536) (by decide +kernel)⟩
def lw_privs_4 : List (MethodName × Nat) := [(⟨"PeriscopeTrainModel", "takes", "(I)Z"⟩, 24), (⟨"PeriscopeTrainModel", "is", "(I)Z"⟩, 24), (⟨"PeriscopeTrainModel", "mirror", "()V"⟩, 24), (⟨"PeriscopeTrainModel", "known", "()I"⟩, 24), (⟨"PeriscopeTrainModel", "isSameName", "(II)Z"⟩, 24), (⟨"PeriscopeTrainModel", "mark", "(I)V"⟩, 24), (⟨"PeriscopeTrainModel", "take", "(I)V"⟩, 24), (⟨"PeriscopeTrainModel", "wrong", "()V"⟩, 24), (⟨"PeriscopeTrainModel", "numberTo", "(I)I"⟩, 24), (⟨"PeriscopeTrainModel", "order", "(I)V"⟩, 24), (⟨"PeriscopeTrainModel", "name", "()I"⟩, 24), (⟨"PeriscopeTrainModel", "sum", "()I"⟩, 24), (⟨"PeriscopeTrainModel", "product", "()I"⟩, 24), (⟨"PeriscopeTrainModel", "value", "()I"⟩, 24), (⟨"PeriscopeTrainModel", "node", "(III)I"⟩, 24), (⟨"PeriscopeTrainModel", "isMeasure", "()Z"⟩, 24)]
theorem lw_r4 : ∀ q ∈ lw_privs_4, lw_okq q := List.forall_mem_cons.mpr ⟨lw_p48, List.forall_mem_cons.mpr ⟨lw_p49, List.forall_mem_cons.mpr ⟨lw_p50, List.forall_mem_cons.mpr ⟨lw_p51, List.forall_mem_cons.mpr ⟨lw_p52, List.forall_mem_cons.mpr ⟨lw_p53, List.forall_mem_cons.mpr ⟨lw_p54, List.forall_mem_cons.mpr ⟨lw_p55, List.forall_mem_cons.mpr ⟨lw_p56, List.forall_mem_cons.mpr ⟨lw_p57, List.forall_mem_cons.mpr ⟨lw_p58, List.forall_mem_cons.mpr ⟨lw_p59, List.forall_mem_cons.mpr ⟨lw_p60, List.forall_mem_cons.mpr ⟨lw_p61, List.forall_mem_cons.mpr ⟨lw_p62, List.forall_mem_cons.mpr ⟨lw_p63, fun _ h => absurd h List.not_mem_nil⟩⟩⟩⟩⟩⟩⟩⟩⟩⟩⟩⟩⟩⟩⟩⟩
theorem lw_p64 : lw_okq (⟨"PeriscopeTrainModel", "measure", "()I"⟩, 24) := ⟨⟨by decide +kernel, by decide +kernel⟩, List.mem_of_getElem? (i := 1201) (by decide +kernel), List.mem_of_getElem? (i := 1539) (by decide +kernel), List.mem_of_getElem? (i := 1540) (by decide +kernel)⟩
theorem lw_p65 : lw_okq (⟨"PeriscopeTrainModel", "ofTwo", "(I)I"⟩, 24) := ⟨⟨by decide +kernel, by decide +kernel⟩, List.mem_of_getElem? (i := 1201) (by decide +kernel), List.mem_of_getElem? (i := 1543) (by decide +kernel), List.mem_of_getElem? (i := 1544) (by decide +kernel)⟩
theorem lw_p66 : lw_okq (⟨"PeriscopeTrainModel", "deeper", "()V"⟩, 24) := ⟨⟨by decide +kernel, by decide +kernel⟩, List.mem_of_getElem? (i := 1201) (by decide +kernel), List.mem_of_getElem? (i := 1547) (by decide +kernel), List.mem_of_getElem? (i := 1548) (by decide +kernel)⟩
theorem lw_p67 : lw_okq (⟨"PeriscopeTrainModel", "inBrackets", "()I"⟩, 24) := ⟨⟨by decide +kernel, by decide +kernel⟩, List.mem_of_getElem? (i := 1201) (by decide +kernel), List.mem_of_getElem? (i := 1551) (by decide +kernel), List.mem_of_getElem? (i := 1552) (by decide +kernel)⟩
theorem lw_p68 : lw_okq (⟨"PeriscopeTrainModel", "test", "()I"⟩, 24) := ⟨⟨by decide +kernel, by decide +kernel⟩, List.mem_of_getElem? (i := 1201) (by decide +kernel), List.mem_of_getElem? (i := 1555) (by decide +kernel), List.mem_of_getElem? (i := 1556) (by decide +kernel)⟩
theorem lw_p69 : lw_okq (⟨"PeriscopeTrainModel", "both", "()I"⟩, 24) := ⟨⟨by decide +kernel, by decide +kernel⟩, List.mem_of_getElem? (i := 1201) (by decide +kernel), List.mem_of_getElem? (i := 1559) (by decide +kernel), List.mem_of_getElem? (i := 1560) (by decide +kernel)⟩
theorem lw_p70 : lw_okq (⟨"PeriscopeTrainModel", "single", "()I"⟩, 24) := ⟨⟨by decide +kernel, by decide +kernel⟩, List.mem_of_getElem? (i := 1201) (by decide +kernel), List.mem_of_getElem? (i := 1563) (by decide +kernel), List.mem_of_getElem? (i := 1564) (by decide +kernel)⟩
theorem lw_p71 : lw_okq (⟨"PeriscopeTrainModel", "comparison", "()I"⟩, 24) := ⟨⟨by decide +kernel, by decide +kernel⟩, List.mem_of_getElem? (i := 1201) (by decide +kernel), List.mem_of_getElem? (i := 1567) (by decide +kernel), List.mem_of_getElem? (i := 1568) (by decide +kernel)⟩
theorem lw_p72 : lw_okq (⟨"PeriscopeTrainModel", "ok", "(I)I"⟩, 24) := ⟨⟨by decide +kernel, by decide +kernel⟩, List.mem_of_getElem? (i := 1201) (by decide +kernel), List.mem_of_getElem? (i := 1587) (by decide +kernel), List.mem_of_getElem? (i := 1588) (by decide +kernel)⟩
theorem lw_p73 : lw_okq (⟨"PeriscopeTrainModel", "light", "(LPeriscopeTrainModel$State;)I"⟩, 24) := ⟨⟨by decide +kernel, by decide +kernel⟩, List.mem_of_getElem? (i := 1201) (by decide +kernel), List.mem_of_getElem? (i := 1611) (by decide +kernel), List.mem_of_getElem? (i := 1612) (by decide +kernel)⟩
theorem lw_p74 : lw_okq (⟨"PeriscopeTrainModel", "shine", "(LPeriscopeTrainModel$State;)V"⟩, 24) := ⟨⟨by decide +kernel, by decide +kernel⟩, List.mem_of_getElem? (i := 1201) (by decide +kernel), List.mem_of_getElem? (i := 1615) (by decide +kernel), List.mem_of_getElem? (i := 1616) (by decide +kernel)⟩
theorem lw_p75 : lw_okq (⟨"PeriscopeTrainModel", "isWide", "(I)Z"⟩, 24) := ⟨⟨by decide +kernel, by decide +kernel⟩, List.mem_of_getElem? (i := 1201) (by decide +kernel), List.mem_of_getElem? (i := 1619) (by decide +kernel), List.mem_of_getElem? (i := 1620) (by decide +kernel)⟩
theorem lw_p76 : lw_okq (⟨"PeriscopeTrainModel", "seen", "(LPeriscopeTrainModel$State;)Z"⟩, 24) := ⟨⟨by decide +kernel, by decide +kernel⟩, List.mem_of_getElem? (i := 1201) (by decide +kernel), List.mem_of_getElem? (i := 1635) (by decide +kernel), List.mem_of_getElem? (i := 1636) (by decide +kernel)⟩
theorem lw_p77 : lw_okq (⟨"PeriscopeTrainModel", "isMirror", "(I)Z"⟩, 24) := ⟨⟨by decide +kernel, by decide +kernel⟩, List.mem_of_getElem? (i := 1201) (by decide +kernel), List.mem_of_getElem? (i := 1647) (by decide +kernel), List.mem_of_getElem? (i := 1648) (by decide +kernel)⟩
theorem lw_p78 : lw_okq (⟨"PeriscopeTrainModel", "place", "(I)I"⟩, 24) := ⟨⟨by decide +kernel, by decide +kernel⟩, List.mem_of_getElem? (i := 1201) (by decide +kernel), List.mem_of_getElem? (i := 1663) (by decide +kernel), List.mem_of_getElem? (i := 1664) (by decide +kernel)⟩
theorem lw_p79 : lw_okq (⟨"PeriscopeTrainModel", "isJob", "(I)Z"⟩, 24) := ⟨⟨by decide +kernel, by decide +kernel⟩, List.mem_of_getElem? (i := 1201) (by decide +kernel), List.mem_of_getElem? (i := 1699) (by decide +kernel), List.mem_of_getElem? (i := 1700) (by decide +kernel)⟩
def lw_privs_5 : List (MethodName × Nat) := [(⟨"PeriscopeTrainModel", "measure", "()I"⟩, 24), (⟨"PeriscopeTrainModel", "ofTwo", "(I)I"⟩, 24), (⟨"PeriscopeTrainModel", "deeper", "()V"⟩, 24), (⟨"PeriscopeTrainModel", "inBrackets", "()I"⟩, 24), (⟨"PeriscopeTrainModel", "test", "()I"⟩, 24), (⟨"PeriscopeTrainModel", "both", "()I"⟩, 24), (⟨"PeriscopeTrainModel", "single", "()I"⟩, 24), (⟨"PeriscopeTrainModel", "comparison", "()I"⟩, 24), (⟨"PeriscopeTrainModel", "ok", "(I)I"⟩, 24), (⟨"PeriscopeTrainModel", "light", "(LPeriscopeTrainModel$State;)I"⟩, 24), (⟨"PeriscopeTrainModel", "shine", "(LPeriscopeTrainModel$State;)V"⟩, 24), (⟨"PeriscopeTrainModel", "isWide", "(I)Z"⟩, 24), (⟨"PeriscopeTrainModel", "seen", "(LPeriscopeTrainModel$State;)Z"⟩, 24), (⟨"PeriscopeTrainModel", "isMirror", "(I)Z"⟩, 24), (⟨"PeriscopeTrainModel", "place", "(I)I"⟩, 24), (⟨"PeriscopeTrainModel", "isJob", "(I)Z"⟩, 24)]
theorem lw_r5 : ∀ q ∈ lw_privs_5, lw_okq q := List.forall_mem_cons.mpr ⟨lw_p64, List.forall_mem_cons.mpr ⟨lw_p65, List.forall_mem_cons.mpr ⟨lw_p66, List.forall_mem_cons.mpr ⟨lw_p67, List.forall_mem_cons.mpr ⟨lw_p68, List.forall_mem_cons.mpr ⟨lw_p69, List.forall_mem_cons.mpr ⟨lw_p70, List.forall_mem_cons.mpr ⟨lw_p71, List.forall_mem_cons.mpr ⟨lw_p72, List.forall_mem_cons.mpr ⟨lw_p73, List.forall_mem_cons.mpr ⟨lw_p74, List.forall_mem_cons.mpr ⟨lw_p75, List.forall_mem_cons.mpr ⟨lw_p76, List.forall_mem_cons.mpr ⟨lw_p77, List.forall_mem_cons.mpr ⟨lw_p78, List.forall_mem_cons.mpr ⟨lw_p79, fun _ h => absurd h List.not_mem_nil⟩⟩⟩⟩⟩⟩⟩⟩⟩⟩⟩⟩⟩⟩⟩⟩
theorem lw_p80 : lw_okq (⟨"PeriscopeTrainModel", "pass", "(LPeriscopeTrainModel$State;)Z"⟩, 24) := ⟨⟨by decide +kernel, by decide +kernel⟩, List.mem_of_getElem? (i := 1201) (by decide +kernel), List.mem_of_getElem? (i := 1747) (by decide +kernel), List.mem_of_getElem? (i := 1748) (by decide +kernel)⟩
theorem lw_p81 : lw_okq (⟨"PeriscopeTrainModel", "carryOut", "(LPeriscopeTrainModel$State;I)V"⟩, 24) := ⟨⟨by decide +kernel, by decide +kernel⟩, List.mem_of_getElem? (i := 1201) (by decide +kernel), List.mem_of_getElem? (i := 1751) (by decide +kernel), List.mem_of_getElem? (i := 1752) (by decide +kernel)⟩
theorem lw_p82 : lw_okq (⟨"PeriscopeTrainModel", "reckon", "(LPeriscopeTrainModel$State;III)I"⟩, 24) := ⟨⟨by decide +kernel, by decide +kernel⟩, List.mem_of_getElem? (i := 1201) (by decide +kernel), List.mem_of_getElem? (i := 1755) (by decide +kernel), List.mem_of_getElem? (i := 1756) (by decide +kernel)⟩
theorem lw_p83 : lw_okq (⟨"PeriscopeTrainModel$State", "takes", "()I"⟩, 10) := ⟨⟨by decide +kernel, by decide +kernel⟩, List.mem_of_getElem? (i := 1281) (by decide +kernel), List.mem_of_getElem? (i := 1772) (by decide +kernel), List.mem_of_getElem? (i := 1773) (by decide +kernel)⟩
def lw_privs_6 : List (MethodName × Nat) := [(⟨"PeriscopeTrainModel", "pass", "(LPeriscopeTrainModel$State;)Z"⟩, 24), (⟨"PeriscopeTrainModel", "carryOut", "(LPeriscopeTrainModel$State;I)V"⟩, 24), (⟨"PeriscopeTrainModel", "reckon", "(LPeriscopeTrainModel$State;III)I"⟩, 24), (⟨"PeriscopeTrainModel$State", "takes", "()I"⟩, 10)]
theorem lw_r6 : ∀ q ∈ lw_privs_6, lw_okq q := List.forall_mem_cons.mpr ⟨lw_p80, List.forall_mem_cons.mpr ⟨lw_p81, List.forall_mem_cons.mpr ⟨lw_p82, List.forall_mem_cons.mpr ⟨lw_p83, fun _ h => absurd h List.not_mem_nil⟩⟩⟩⟩
def lw_privs : List (MethodName × Nat) := lw_privs_1 ++ (lw_privs_2 ++ (lw_privs_3 ++ (lw_privs_4 ++ (lw_privs_5 ++ (lw_privs_6)))))
def lw_tbl : List Cond := k2_sels lw_privs ++ tables_1
theorem lw_privs_ok : ∀ q ∈ lw_privs, lw_okq q := by
  show ∀ q ∈ lw_privs_1 ++ (lw_privs_2 ++ (lw_privs_3 ++ (lw_privs_4 ++ (lw_privs_5 ++ (lw_privs_6))))), lw_okq q
  exact List.forall_mem_append.mpr ⟨lw_r1, List.forall_mem_append.mpr ⟨lw_r2, List.forall_mem_append.mpr ⟨lw_r3, List.forall_mem_append.mpr ⟨lw_r4, List.forall_mem_append.mpr ⟨lw_r5, lw_r6⟩⟩⟩⟩⟩
/-- the streams that the claim lets the run draw from -/
abbrev lw_cs : List Choice := [Jvm.Choice.named "NaN.bits"]
theorem lw_bits : nanBits ∈ lw_cs := by first | decide | exact List.mem_cons_self | simp [lw_cs, nanBits]
-- ===== end of PART A; then your names; then what follows =====
def RX0 : String := "PeriscopeTrain$Grammar"
def TX0 : u_T := fun k => match k with
  | 0 => ("PeriscopeTrain$Grammar", "tokens", "LPeriscopeTrain$Tokens;", true)
  | 1 => ("PeriscopeTrain$Grammar", "draft", "LPeriscopeTrain$Plan;", true)
  | _ => ("PeriscopeTrain$Grammar", "at", "I", false)
def tyX0 : Nat → FieldType := fun k => match k with
  | 0 => .object "PeriscopeTrain$Tokens"
  | 1 => .object "PeriscopeTrain$Plan"
  | _ => .int
theorem nmX0 : ∀ a, a < 3 → ∀ b, b < 3 → a ≠ b → (TX0 a).2.1 ≠ (TX0 b).2.1 := by decide +kernel
theorem tyX0_ok : ∀ k, k < 3 → parseFieldDescriptor (TX0 k).2.2.1 = some (tyX0 k) := by decide +kernel
abbrev cX0_init : ByteArray := prog_2_method_1_code
def yX0_init : MethodName := ⟨RX0, "<init>", "(LPeriscopeTrain$Tokens;LPeriscopeTrain$Plan;)V"⟩
abbrev cX0_firstMisfit : ByteArray := prog_2_method_2_code
def yX0_firstMisfit : MethodName := ⟨RX0, "firstMisfit", "()I"⟩
abbrev cX0_isNext : ByteArray := prog_2_method_3_code
def yX0_isNext : MethodName := ⟨RX0, "isNext", "(I)Z"⟩
abbrev cX0_take : ByteArray := prog_2_method_4_code
def yX0_take : MethodName := ⟨RX0, "take", "(I)Z"⟩
abbrev cX0_line : ByteArray := prog_2_method_5_code
def yX0_line : MethodName := ⟨RX0, "line", "()Z"⟩
abbrev cX0_mirror : ByteArray := prog_2_method_6_code
def yX0_mirror : MethodName := ⟨RX0, "mirror", "()Z"⟩
abbrev cX0_order : ByteArray := prog_2_method_7_code
def yX0_order : MethodName := ⟨RX0, "order", "(I)Z"⟩
abbrev cX0_test : ByteArray := prog_2_method_8_code
def yX0_test : MethodName := ⟨RX0, "test", "(I)Z"⟩
abbrev cX0_both : ByteArray := prog_2_method_9_code
def yX0_both : MethodName := ⟨RX0, "both", "(I)Z"⟩
abbrev cX0_single : ByteArray := prog_2_method_10_code
def yX0_single : MethodName := ⟨RX0, "single", "(I)Z"⟩
abbrev cX0_sum : ByteArray := prog_2_method_11_code
def yX0_sum : MethodName := ⟨RX0, "sum", "(I)Z"⟩
abbrev cX0_product : ByteArray := prog_2_method_12_code
def yX0_product : MethodName := ⟨RX0, "product", "(I)Z"⟩
abbrev cX0_value : ByteArray := prog_2_method_13_code
def yX0_value : MethodName := ⟨RX0, "value", "(I)Z"⟩
abbrev cX0_pair : ByteArray := prog_2_method_14_code
def yX0_pair : MethodName := ⟨RX0, "pair", "(II)Z"⟩
def RX1 : String := "PeriscopeTrain$Meaning"
def TX1 : u_T := fun k => match k with
  | 0 => ("PeriscopeTrain$Meaning", "tape", "LPeriscopeTrain$Tape;", true)
  | 1 => ("PeriscopeTrain$Meaning", "tokens", "LPeriscopeTrain$Tokens;", true)
  | 2 => ("PeriscopeTrain$Meaning", "draft", "LPeriscopeTrain$Plan;", true)
  | 3 => ("PeriscopeTrain$Meaning", "names", "[I", true)
  | _ => ("PeriscopeTrain$Meaning", "error", "I", false)
def tyX1 : Nat → FieldType := fun k => match k with
  | 0 => .object "PeriscopeTrain$Tape"
  | 1 => .object "PeriscopeTrain$Tokens"
  | 2 => .object "PeriscopeTrain$Plan"
  | 3 => .array .int
  | _ => .int
theorem nmX1 : ∀ a, a < 5 → ∀ b, b < 5 → a ≠ b → (TX1 a).2.1 ≠ (TX1 b).2.1 := by decide +kernel
theorem tyX1_ok : ∀ k, k < 5 → parseFieldDescriptor (TX1 k).2.2.1 = some (tyX1 k) := by decide +kernel
abbrev cX1_init : ByteArray := prog_3_method_1_code
def yX1_init : MethodName := ⟨RX1, "<init>", "(LPeriscopeTrain$Tape;LPeriscopeTrain$Tokens;LPeriscopeTrain$Plan;)V"⟩
abbrev cX1_firstMistake : ByteArray := prog_3_method_2_code
def yX1_firstMistake : MethodName := ⟨RX1, "firstMistake", "()I"⟩
abbrev cX1_errorOf : ByteArray := prog_3_method_3_code
def yX1_errorOf : MethodName := ⟨RX1, "errorOf", "(I)I"⟩
abbrev cX1_errorOfNewName : ByteArray := prog_3_method_4_code
def yX1_errorOfNewName : MethodName := ⟨RX1, "errorOfNewName", "(I)I"⟩
abbrev cX1_errorOfName : ByteArray := prog_3_method_5_code
def yX1_errorOfName : MethodName := ⟨RX1, "errorOfName", "(I)I"⟩
abbrev cX1_mirrorNamed : ByteArray := prog_3_method_6_code
def yX1_mirrorNamed : MethodName := ⟨RX1, "mirrorNamed", "(I)I"⟩
abbrev cX1_errorOfOrder : ByteArray := prog_3_method_7_code
def yX1_errorOfOrder : MethodName := ⟨RX1, "errorOfOrder", "()I"⟩
abbrev cX1_errorOfNumber : ByteArray := prog_3_method_8_code
def yX1_errorOfNumber : MethodName := ⟨RX1, "errorOfNumber", "(I)I"⟩
def RX2 : String := "PeriscopeTrain$Plan"
def TX2 : u_T := fun k => match k with
  | 0 => ("PeriscopeTrain$Plan", "clarity", "[I", true)
  | 1 => ("PeriscopeTrain$Plan", "offset", "[I", true)
  | 2 => ("PeriscopeTrain$Plan", "step", "[I", true)
  | 3 => ("PeriscopeTrain$Plan", "value", "[I", true)
  | 4 => ("PeriscopeTrain$Plan", "mirrors", "I", false)
  | 5 => ("PeriscopeTrain$Plan", "orders", "I", false)
  | 6 => ("PeriscopeTrain$Plan", "width", "I", false)
  | 7 => ("PeriscopeTrain$Plan", "limit", "I", false)
  | _ => ("PeriscopeTrain$Plan", "length", "I", false)
def tyX2 : Nat → FieldType := fun k => match k with
  | 0 => .array .int
  | 1 => .array .int
  | 2 => .array .int
  | 3 => .array .int
  | 4 => .int
  | 5 => .int
  | 6 => .int
  | 7 => .int
  | _ => .int
theorem nmX2 : ∀ a, a < 9 → ∀ b, b < 9 → a ≠ b → (TX2 a).2.1 ≠ (TX2 b).2.1 := by decide +kernel
theorem tyX2_ok : ∀ k, k < 9 → parseFieldDescriptor (TX2 k).2.2.1 = some (tyX2 k) := by decide +kernel
abbrev cX2_init : ByteArray := prog_4_method_1_code
def yX2_init : MethodName := ⟨RX2, "<init>", "()V"⟩
abbrev cX2_clear : ByteArray := prog_4_method_2_code
def yX2_clear : MethodName := ⟨RX2, "clear", "()V"⟩
abbrev cX2_write : ByteArray := prog_4_method_3_code
def yX2_write : MethodName := ⟨RX2, "write", "(II)V"⟩
abbrev cX2_tellClarity : ByteArray := prog_4_method_4_code
def yX2_tellClarity : MethodName := ⟨RX2, "tellClarity", "(I)V"⟩
abbrev cX2_tellOffset : ByteArray := prog_4_method_5_code
def yX2_tellOffset : MethodName := ⟨RX2, "tellOffset", "(I)V"⟩
abbrev cX2_takeOver : ByteArray := prog_4_method_6_code
def yX2_takeOver : MethodName := ⟨RX2, "takeOver", "(LPeriscopeTrain$Plan;LPeriscopeTrain$Tokens;)V"⟩
def RX3 : String := "PeriscopeTrain$Queue"
def TX3 : u_T := fun k => match k with
  | 0 => ("PeriscopeTrain$Queue", "kind", "[I", true)
  | 1 => ("PeriscopeTrain$Queue", "mirror", "[I", true)
  | 2 => ("PeriscopeTrain$Queue", "size", "I", false)
  | 3 => ("PeriscopeTrain$Queue", "toGo", "I", false)
  | _ => ("PeriscopeTrain$Queue", "done", "I", false)
def tyX3 : Nat → FieldType := fun k => match k with
  | 0 => .array .int
  | 1 => .array .int
  | 2 => .int
  | 3 => .int
  | _ => .int
theorem nmX3 : ∀ a, a < 5 → ∀ b, b < 5 → a ≠ b → (TX3 a).2.1 ≠ (TX3 b).2.1 := by decide +kernel
theorem tyX3_ok : ∀ k, k < 5 → parseFieldDescriptor (TX3 k).2.2.1 = some (tyX3 k) := by decide +kernel
abbrev cX3_init : ByteArray := prog_5_method_1_code
def yX3_init : MethodName := ⟨RX3, "<init>", "()V"⟩
abbrev cX3_begin : ByteArray := prog_5_method_2_code
def yX3_begin : MethodName := ⟨RX3, "begin", "()V"⟩
abbrev cX3_copy : ByteArray := prog_5_method_3_code
def yX3_copy : MethodName := ⟨RX3, "copy", "(LPeriscopeTrain$Queue;)V"⟩
abbrev cX3_kindIn : ByteArray := prog_5_method_4_code
def yX3_kindIn : MethodName := ⟨RX3, "kindIn", "(I)I"⟩
abbrev cX3_mirrorIn : ByteArray := prog_5_method_5_code
def yX3_mirrorIn : MethodName := ⟨RX3, "mirrorIn", "(I)I"⟩
abbrev cX3_hasJobFor : ByteArray := prog_5_method_6_code
def yX3_hasJobFor : MethodName := ⟨RX3, "hasJobFor", "(I)Z"⟩
abbrev cX3_takesIn : ByteArray := prog_5_method_7_code
def yX3_takesIn : MethodName := ⟨RX3, "takesIn", "(II)Z"⟩
abbrev cX3_add : ByteArray := prog_5_method_8_code
def yX3_add : MethodName := ⟨RX3, "add", "(II)V"⟩
abbrev cX3_remove : ByteArray := prog_5_method_9_code
def yX3_remove : MethodName := ⟨RX3, "remove", "(I)V"⟩
def RX4 : String := "PeriscopeTrain$Row"
def TX4 : u_T := fun k => match k with
  | 0 => ("PeriscopeTrain$Row", "clarity", "[I", true)
  | 1 => ("PeriscopeTrain$Row", "best", "[I", true)
  | 2 => ("PeriscopeTrain$Row", "offset", "[I", true)
  | 3 => ("PeriscopeTrain$Row", "mirrorAtPlace", "[I", true)
  | 4 => ("PeriscopeTrain$Row", "light", "[I", true)
  | 5 => ("PeriscopeTrain$Row", "lost", "[I", true)
  | 6 => ("PeriscopeTrain$Row", "tilt", "[I", true)
  | 7 => ("PeriscopeTrain$Row", "count", "I", false)
  | 8 => ("PeriscopeTrain$Row", "width", "I", false)
  | 9 => ("PeriscopeTrain$Row", "limit", "I", false)
  | 10 => ("PeriscopeTrain$Row", "covered", "I", false)
  | 11 => ("PeriscopeTrain$Row", "endLight", "I", false)
  | 12 => ("PeriscopeTrain$Row", "endTilt", "I", false)
  | _ => ("PeriscopeTrain$Row", "isLit", "Z", false)
def tyX4 : Nat → FieldType := fun k => match k with
  | 0 => .array .int
  | 1 => .array .int
  | 2 => .array .int
  | 3 => .array .int
  | 4 => .array .int
  | 5 => .array .int
  | 6 => .array .int
  | 7 => .int
  | 8 => .int
  | 9 => .int
  | 10 => .int
  | 11 => .int
  | 12 => .int
  | _ => .boolean
theorem nmX4 : ∀ a, a < 14 → ∀ b, b < 14 → a ≠ b → (TX4 a).2.1 ≠ (TX4 b).2.1 := by decide +kernel
theorem tyX4_ok : ∀ k, k < 14 → parseFieldDescriptor (TX4 k).2.2.1 = some (tyX4 k) := by decide +kernel
abbrev cX4_init : ByteArray := prog_6_method_1_code
def yX4_init : MethodName := ⟨RX4, "<init>", "()V"⟩
abbrev cX4_begin : ByteArray := prog_6_method_2_code
def yX4_begin : MethodName := ⟨RX4, "begin", "(LPeriscopeTrain$Plan;)V"⟩
abbrev cX4_copy : ByteArray := prog_6_method_3_code
def yX4_copy : MethodName := ⟨RX4, "copy", "(LPeriscopeTrain$Row;)V"⟩
abbrev cX4_has : ByteArray := prog_6_method_4_code
def yX4_has : MethodName := ⟨RX4, "has", "(I)Z"⟩
abbrev cX4_mirrorIn : ByteArray := prog_6_method_5_code
def yX4_mirrorIn : MethodName := ⟨RX4, "mirrorIn", "(I)I"⟩
abbrev cX4_findPlace : ByteArray := prog_6_method_6_code
def yX4_findPlace : MethodName := ⟨RX4, "findPlace", "(I)I"⟩
abbrev cX4_valueOf : ByteArray := prog_6_method_7_code
def yX4_valueOf : MethodName := ⟨RX4, "valueOf", "(II)I"⟩
abbrev cX4_lastLight : ByteArray := prog_6_method_8_code
def yX4_lastLight : MethodName := ⟨RX4, "lastLight", "()I"⟩
abbrev cX4_lastTilt : ByteArray := prog_6_method_9_code
def yX4_lastTilt : MethodName := ⟨RX4, "lastTilt", "()I"⟩
abbrev cX4_showsLight : ByteArray := prog_6_method_10_code
def yX4_showsLight : MethodName := ⟨RX4, "showsLight", "()Z"⟩
abbrev cX4_mostLosing : ByteArray := prog_6_method_11_code
def yX4_mostLosing : MethodName := ⟨RX4, "mostLosing", "()I"⟩
abbrev cX4_isWithinWidth : ByteArray := prog_6_method_12_code
def yX4_isWithinWidth : MethodName := ⟨RX4, "isWithinWidth", "(I)Z"⟩
abbrev cX4_shine : ByteArray := prog_6_method_13_code
def yX4_shine : MethodName := ⟨RX4, "shine", "()V"⟩
abbrev cX4_cover : ByteArray := prog_6_method_14_code
def yX4_cover : MethodName := ⟨RX4, "cover", "(I)V"⟩
abbrev cX4_turn : ByteArray := prog_6_method_15_code
def yX4_turn : MethodName := ⟨RX4, "turn", "(II)V"⟩
abbrev cX4_shake : ByteArray := prog_6_method_16_code
def yX4_shake : MethodName := ⟨RX4, "shake", "(II)V"⟩
abbrev cX4_dim : ByteArray := prog_6_method_17_code
def yX4_dim : MethodName := ⟨RX4, "dim", "(III)V"⟩
abbrev cX4_dust : ByteArray := prog_6_method_18_code
def yX4_dust : MethodName := ⟨RX4, "dust", "(II)V"⟩
abbrev cX4_clean : ByteArray := prog_6_method_19_code
def yX4_clean : MethodName := ⟨RX4, "clean", "(I)V"⟩
abbrev cX4_replace : ByteArray := prog_6_method_20_code
def yX4_replace : MethodName := ⟨RX4, "replace", "(I)V"⟩
abbrev cX4_move : ByteArray := prog_6_method_21_code
def yX4_move : MethodName := ⟨RX4, "move", "(II)V"⟩
def RX5 : String := "PeriscopeTrain$Tape"
def TX5 : u_T := fun k => match k with
  | 0 => ("PeriscopeTrain$Tape", "bytes", "[B", true)
  | _ => ("PeriscopeTrain$Tape", "length", "I", false)
def tyX5 : Nat → FieldType := fun k => match k with
  | 0 => .array .byte
  | _ => .int
theorem nmX5 : ∀ a, a < 2 → ∀ b, b < 2 → a ≠ b → (TX5 a).2.1 ≠ (TX5 b).2.1 := by decide +kernel
theorem tyX5_ok : ∀ k, k < 2 → parseFieldDescriptor (TX5 k).2.2.1 = some (tyX5 k) := by decide +kernel
abbrev cX5_init : ByteArray := prog_7_method_1_code
def yX5_init : MethodName := ⟨RX5, "<init>", "()V"⟩
abbrev cX5_append : ByteArray := prog_7_method_2_code
def yX5_append : MethodName := ⟨RX5, "append", "(I)V"⟩
abbrev cX5_byteAt : ByteArray := prog_7_method_3_code
def yX5_byteAt : MethodName := ⟨RX5, "byteAt", "(I)I"⟩
abbrev cX5_skipBlanks : ByteArray := prog_7_method_4_code
def yX5_skipBlanks : MethodName := ⟨RX5, "skipBlanks", "(I)I"⟩
abbrev cX5_skipDigits : ByteArray := prog_7_method_5_code
def yX5_skipDigits : MethodName := ⟨RX5, "skipDigits", "(I)I"⟩
abbrev cX5_skipLettersAndDigits : ByteArray := prog_7_method_6_code
def yX5_skipLettersAndDigits : MethodName := ⟨RX5, "skipLettersAndDigits", "(I)I"⟩
abbrev cX5_holdsText : ByteArray := prog_7_method_7_code
def yX5_holdsText : MethodName := ⟨RX5, "holdsText", "(Ljava/lang/String;II)Z"⟩
abbrev cX5_holdsSame : ByteArray := prog_7_method_8_code
def yX5_holdsSame : MethodName := ⟨RX5, "holdsSame", "(III)Z"⟩
abbrev cX5_isBlank : ByteArray := prog_7_method_9_code
def yX5_isBlank : MethodName := ⟨RX5, "isBlank", "(I)Z"⟩
abbrev cX5_isLetter : ByteArray := prog_7_method_10_code
def yX5_isLetter : MethodName := ⟨RX5, "isLetter", "(I)Z"⟩
abbrev cX5_isDigit : ByteArray := prog_7_method_11_code
def yX5_isDigit : MethodName := ⟨RX5, "isDigit", "(I)Z"⟩
def RX6 : String := "PeriscopeTrain$Tokens"
def TX6 : u_T := fun k => match k with
  | 0 => ("PeriscopeTrain$Tokens", "tape", "LPeriscopeTrain$Tape;", true)
  | 1 => ("PeriscopeTrain$Tokens", "kind", "[I", true)
  | 2 => ("PeriscopeTrain$Tokens", "start", "[I", true)
  | 3 => ("PeriscopeTrain$Tokens", "size", "[I", true)
  | 4 => ("PeriscopeTrain$Tokens", "value", "[I", true)
  | _ => ("PeriscopeTrain$Tokens", "count", "I", false)
def tyX6 : Nat → FieldType := fun k => match k with
  | 0 => .object "PeriscopeTrain$Tape"
  | 1 => .array .int
  | 2 => .array .int
  | 3 => .array .int
  | 4 => .array .int
  | _ => .int
theorem nmX6 : ∀ a, a < 6 → ∀ b, b < 6 → a ≠ b → (TX6 a).2.1 ≠ (TX6 b).2.1 := by decide +kernel
theorem tyX6_ok : ∀ k, k < 6 → parseFieldDescriptor (TX6 k).2.2.1 = some (tyX6 k) := by decide +kernel
abbrev cX6_init : ByteArray := prog_8_method_1_code
def yX6_init : MethodName := ⟨RX6, "<init>", "(LPeriscopeTrain$Tape;)V"⟩
abbrev cX6_kindAt : ByteArray := prog_8_method_2_code
def yX6_kindAt : MethodName := ⟨RX6, "kindAt", "(I)I"⟩
abbrev cX6_valueAt : ByteArray := prog_8_method_3_code
def yX6_valueAt : MethodName := ⟨RX6, "valueAt", "(I)I"⟩
abbrev cX6_setValue : ByteArray := prog_8_method_4_code
def yX6_setValue : MethodName := ⟨RX6, "setValue", "(II)V"⟩
abbrev cX6_positionOf : ByteArray := prog_8_method_5_code
def yX6_positionOf : MethodName := ⟨RX6, "positionOf", "(I)I"⟩
abbrev cX6_areSameNames : ByteArray := prog_8_method_6_code
def yX6_areSameNames : MethodName := ⟨RX6, "areSameNames", "(II)Z"⟩
abbrev cX6_readTape : ByteArray := prog_8_method_7_code
def yX6_readTape : MethodName := ⟨RX6, "readTape", "()V"⟩
abbrev cX6_readToken : ByteArray := prog_8_method_8_code
def yX6_readToken : MethodName := ⟨RX6, "readToken", "(I)I"⟩
abbrev cX6_readWord : ByteArray := prog_8_method_9_code
def yX6_readWord : MethodName := ⟨RX6, "readWord", "(I)I"⟩
abbrev cX6_readNumber : ByteArray := prog_8_method_10_code
def yX6_readNumber : MethodName := ⟨RX6, "readNumber", "(I)I"⟩
abbrev cX6_readSymbol : ByteArray := prog_8_method_11_code
def yX6_readSymbol : MethodName := ⟨RX6, "readSymbol", "(II)I"⟩
abbrev cX6_add : ByteArray := prog_8_method_12_code
def yX6_add : MethodName := ⟨RX6, "add", "(III)V"⟩
abbrev cX6_keyword : ByteArray := prog_8_method_13_code
def yX6_keyword : MethodName := ⟨RX6, "keyword", "(I)Ljava/lang/String;"⟩
def RX7 : String := "PeriscopeTrain$World"
def TX7 : u_T := fun k => match k with
  | 0 => ("PeriscopeTrain$World", "plan", "LPeriscopeTrain$Plan;", true)
  | 1 => ("PeriscopeTrain$World", "row", "LPeriscopeTrain$Row;", true)
  | 2 => ("PeriscopeTrain$World", "queue", "LPeriscopeTrain$Queue;", true)
  | 3 => ("PeriscopeTrain$World", "answers", "[I", true)
  | 4 => ("PeriscopeTrain$World", "answered", "I", false)
  | _ => ("PeriscopeTrain$World", "minute", "I", false)
def tyX7 : Nat → FieldType := fun k => match k with
  | 0 => .object "PeriscopeTrain$Plan"
  | 1 => .object "PeriscopeTrain$Row"
  | 2 => .object "PeriscopeTrain$Queue"
  | 3 => .array .int
  | 4 => .int
  | _ => .int
theorem nmX7 : ∀ a, a < 6 → ∀ b, b < 6 → a ≠ b → (TX7 a).2.1 ≠ (TX7 b).2.1 := by decide +kernel
theorem tyX7_ok : ∀ k, k < 6 → parseFieldDescriptor (TX7 k).2.2.1 = some (tyX7 k) := by decide +kernel
abbrev cX7_init : ByteArray := prog_9_method_1_code
def yX7_init : MethodName := ⟨RX7, "<init>", "(LPeriscopeTrain$Plan;)V"⟩
abbrev cX7_begin : ByteArray := prog_9_method_2_code
def yX7_begin : MethodName := ⟨RX7, "begin", "()V"⟩
abbrev cX7_copy : ByteArray := prog_9_method_3_code
def yX7_copy : MethodName := ⟨RX7, "copy", "(LPeriscopeTrain$World;)V"⟩
abbrev cX7_pass : ByteArray := prog_9_method_4_code
def yX7_pass : MethodName := ⟨RX7, "pass", "(I)V"⟩
abbrev cX7_dropJob : ByteArray := prog_9_method_5_code
def yX7_dropJob : MethodName := ⟨RX7, "dropJob", "(I)V"⟩
abbrev cX7_follow : ByteArray := prog_9_method_6_code
def yX7_follow : MethodName := ⟨RX7, "follow", "(II)V"⟩
abbrev cX7_push : ByteArray := prog_9_method_7_code
def yX7_push : MethodName := ⟨RX7, "push", "(I)V"⟩
abbrev cX7_pop : ByteArray := prog_9_method_8_code
def yX7_pop : MethodName := ⟨RX7, "pop", "()I"⟩
abbrev cX7_carryOut : ByteArray := prog_9_method_9_code
def yX7_carryOut : MethodName := ⟨RX7, "carryOut", "(II)V"⟩
abbrev cX7_valueOf : ByteArray := prog_9_method_10_code
def yX7_valueOf : MethodName := ⟨RX7, "valueOf", "(II)I"⟩
abbrev cX7_joinsTwo : ByteArray := prog_9_method_11_code
def yX7_joinsTwo : MethodName := ⟨RX7, "joinsTwo", "(I)Z"⟩
abbrev cX7_join : ByteArray := prog_9_method_12_code
def yX7_join : MethodName := ⟨RX7, "join", "(III)I"⟩
abbrev cX7_work : ByteArray := prog_9_method_13_code
def yX7_work : MethodName := ⟨RX7, "work", "()V"⟩
abbrev cX7_minutesFor : ByteArray := prog_9_method_14_code
def yX7_minutesFor : MethodName := ⟨RX7, "minutesFor", "(II)I"⟩
abbrev cX7_finish : ByteArray := prog_9_method_15_code
def yX7_finish : MethodName := ⟨RX7, "finish", "(II)V"⟩
def RX8 : String := "PeriscopeTrain"
def TX8 : u_T := fun k => match k with
  | 0 => ("PeriscopeTrain", "tape", "LPeriscopeTrain$Tape;", true)
  | 1 => ("PeriscopeTrain", "tokens", "LPeriscopeTrain$Tokens;", true)
  | 2 => ("PeriscopeTrain", "grammar", "LPeriscopeTrain$Grammar;", true)
  | 3 => ("PeriscopeTrain", "meaning", "LPeriscopeTrain$Meaning;", true)
  | 4 => ("PeriscopeTrain", "draft", "LPeriscopeTrain$Plan;", true)
  | 5 => ("PeriscopeTrain", "plan", "LPeriscopeTrain$Plan;", true)
  | 6 => ("PeriscopeTrain", "now", "LPeriscopeTrain$World;", true)
  | 7 => ("PeriscopeTrain", "would", "LPeriscopeTrain$World;", true)
  | _ => ("PeriscopeTrain", "errorPosition", "I", false)
def tyX8 : Nat → FieldType := fun k => match k with
  | 0 => .object "PeriscopeTrain$Tape"
  | 1 => .object "PeriscopeTrain$Tokens"
  | 2 => .object "PeriscopeTrain$Grammar"
  | 3 => .object "PeriscopeTrain$Meaning"
  | 4 => .object "PeriscopeTrain$Plan"
  | 5 => .object "PeriscopeTrain$Plan"
  | 6 => .object "PeriscopeTrain$World"
  | 7 => .object "PeriscopeTrain$World"
  | _ => .int
theorem nmX8 : ∀ a, a < 9 → ∀ b, b < 9 → a ≠ b → (TX8 a).2.1 ≠ (TX8 b).2.1 := by decide +kernel
theorem tyX8_ok : ∀ k, k < 9 → parseFieldDescriptor (TX8 k).2.2.1 = some (tyX8 k) := by decide +kernel
abbrev cX8_init : ByteArray := prog_1_method_1_code
def yX8_init : MethodName := ⟨RX8, "<init>", "()V"⟩
abbrev cX8_feed : ByteArray := prog_1_method_2_code
def yX8_feed : MethodName := ⟨RX8, "feed", "(IIIII)I"⟩
abbrev cX8_trim : ByteArray := prog_1_method_3_code
def yX8_trim : MethodName := ⟨RX8, "trim", "(I)I"⟩
abbrev cX8_teach : ByteArray := prog_1_method_4_code
def yX8_teach : MethodName := ⟨RX8, "teach", "()I"⟩
abbrev cX8_errorAt : ByteArray := prog_1_method_5_code
def yX8_errorAt : MethodName := ⟨RX8, "errorAt", "()I"⟩
abbrev cX8_mirrors : ByteArray := prog_1_method_6_code
def yX8_mirrors : MethodName := ⟨RX8, "mirrors", "()I"⟩
abbrev cX8_orders : ByteArray := prog_1_method_7_code
def yX8_orders : MethodName := ⟨RX8, "orders", "()I"⟩
abbrev cX8_minutes : ByteArray := prog_1_method_8_code
def yX8_minutes : MethodName := ⟨RX8, "minutes", "()I"⟩
abbrev cX8_tapeBytes : ByteArray := prog_1_method_9_code
def yX8_tapeBytes : MethodName := ⟨RX8, "tapeBytes", "()I"⟩
abbrev cX8_lightAtEnd : ByteArray := prog_1_method_10_code
def yX8_lightAtEnd : MethodName := ⟨RX8, "lightAtEnd", "()I"⟩
abbrev cX8_tiltAtEnd : ByteArray := prog_1_method_11_code
def yX8_tiltAtEnd : MethodName := ⟨RX8, "tiltAtEnd", "()I"⟩
abbrev cX8_isSeen : ByteArray := prog_1_method_12_code
def yX8_isSeen : MethodName := ⟨RX8, "isSeen", "()Z"⟩
abbrev cX8_worstMirror : ByteArray := prog_1_method_13_code
def yX8_worstMirror : MethodName := ⟨RX8, "worstMirror", "()I"⟩
abbrev cX8_clarityOf : ByteArray := prog_1_method_14_code
def yX8_clarityOf : MethodName := ⟨RX8, "clarityOf", "(I)I"⟩
abbrev cX8_bestClarityOf : ByteArray := prog_1_method_15_code
def yX8_bestClarityOf : MethodName := ⟨RX8, "bestClarityOf", "(I)I"⟩
abbrev cX8_offsetOf : ByteArray := prog_1_method_16_code
def yX8_offsetOf : MethodName := ⟨RX8, "offsetOf", "(I)I"⟩
abbrev cX8_placeOf : ByteArray := prog_1_method_17_code
def yX8_placeOf : MethodName := ⟨RX8, "placeOf", "(I)I"⟩
abbrev cX8_lightBehind : ByteArray := prog_1_method_18_code
def yX8_lightBehind : MethodName := ⟨RX8, "lightBehind", "(I)I"⟩
abbrev cX8_lostAt : ByteArray := prog_1_method_19_code
def yX8_lostAt : MethodName := ⟨RX8, "lostAt", "(I)I"⟩
abbrev cX8_tiltBehind : ByteArray := prog_1_method_20_code
def yX8_tiltBehind : MethodName := ⟨RX8, "tiltBehind", "(I)I"⟩
abbrev cX8_isCovered : ByteArray := prog_1_method_21_code
def yX8_isCovered : MethodName := ⟨RX8, "isCovered", "(I)Z"⟩
abbrev cX8_mirrorAt : ByteArray := prog_1_method_22_code
def yX8_mirrorAt : MethodName := ⟨RX8, "mirrorAt", "(I)I"⟩
abbrev cX8_jobs : ByteArray := prog_1_method_23_code
def yX8_jobs : MethodName := ⟨RX8, "jobs", "()I"⟩
abbrev cX8_jobsDone : ByteArray := prog_1_method_24_code
def yX8_jobsDone : MethodName := ⟨RX8, "jobsDone", "()I"⟩
abbrev cX8_kindOfJob : ByteArray := prog_1_method_25_code
def yX8_kindOfJob : MethodName := ⟨RX8, "kindOfJob", "(I)I"⟩
abbrev cX8_mirrorOfJob : ByteArray := prog_1_method_26_code
def yX8_mirrorOfJob : MethodName := ⟨RX8, "mirrorOfJob", "(I)I"⟩
abbrev cX8_minutesToGo : ByteArray := prog_1_method_27_code
def yX8_minutesToGo : MethodName := ⟨RX8, "minutesToGo", "()I"⟩
abbrev cX8_orderJob : ByteArray := prog_1_method_28_code
def yX8_orderJob : MethodName := ⟨RX8, "orderJob", "(II)I"⟩
abbrev cX8_cancelJob : ByteArray := prog_1_method_29_code
def yX8_cancelJob : MethodName := ⟨RX8, "cancelJob", "(I)I"⟩
abbrev cX8_turnMirror : ByteArray := prog_1_method_30_code
def yX8_turnMirror : MethodName := ⟨RX8, "turnMirror", "(II)I"⟩
abbrev cX8_dustMirror : ByteArray := prog_1_method_31_code
def yX8_dustMirror : MethodName := ⟨RX8, "dustMirror", "(II)I"⟩
abbrev cX8_moveMirror : ByteArray := prog_1_method_32_code
def yX8_moveMirror : MethodName := ⟨RX8, "moveMirror", "(II)I"⟩
abbrev cX8_passMinutes : ByteArray := prog_1_method_33_code
def yX8_passMinutes : MethodName := ⟨RX8, "passMinutes", "(I)I"⟩
abbrev cX8_lightAfter : ByteArray := prog_1_method_34_code
def yX8_lightAfter : MethodName := ⟨RX8, "lightAfter", "(I)I"⟩
abbrev cX8_minutesUntilSeen : ByteArray := prog_1_method_35_code
def yX8_minutesUntilSeen : MethodName := ⟨RX8, "minutesUntilSeen", "()I"⟩
abbrev cX8_minutesUntilDone : ByteArray := prog_1_method_36_code
def yX8_minutesUntilDone : MethodName := ⟨RX8, "minutesUntilDone", "(I)I"⟩
abbrev cX8_bestToClean : ByteArray := prog_1_method_37_code
def yX8_bestToClean : MethodName := ⟨RX8, "bestToClean", "()I"⟩
abbrev cX8_bestOffset : ByteArray := prog_1_method_38_code
def yX8_bestOffset : MethodName := ⟨RX8, "bestOffset", "(I)I"⟩
abbrev cX8_meanClarity : ByteArray := prog_1_method_39_code
def yX8_meanClarity : MethodName := ⟨RX8, "meanClarity", "()D"⟩
abbrev cX8_digest : ByteArray := prog_1_method_40_code
def yX8_digest : MethodName := ⟨RX8, "digest", "()J"⟩
abbrev cX8_digestOfMirror : ByteArray := prog_1_method_41_code
def yX8_digestOfMirror : MethodName := ⟨RX8, "digestOfMirror", "(JI)J"⟩
abbrev cX8_lightIfTurned : ByteArray := prog_1_method_42_code
def yX8_lightIfTurned : MethodName := ⟨RX8, "lightIfTurned", "(II)I"⟩
abbrev cX8_checkMirror : ByteArray := prog_1_method_43_code
def yX8_checkMirror : MethodName := ⟨RX8, "checkMirror", "(I)V"⟩
abbrev cX8_checkJob : ByteArray := prog_1_method_44_code
def yX8_checkJob : MethodName := ⟨RX8, "checkJob", "(I)V"⟩
abbrev cX8_checkMinutes : ByteArray := prog_1_method_45_code
def yX8_checkMinutes : MethodName := ⟨RX8, "checkMinutes", "(I)V"⟩
abbrev cX8_isOrder : ByteArray := prog_1_method_46_code
def yX8_isOrder : MethodName := ⟨RX8, "isOrder", "(I)Z"⟩
abbrev cX8_isOrderBySum : ByteArray := prog_1_method_47_code
def yX8_isOrderBySum : MethodName := ⟨RX8, "isOrderBySum", "(I)Z"⟩
abbrev cX8_hold : ByteArray := prog_1_method_48_code
def yX8_hold : MethodName := ⟨RX8, "hold", "(JII)I"⟩
def RX9 : String := "PeriscopeTrainModel$State"
def TX9 : u_T := fun k => match k with
  | 0 => ("PeriscopeTrainModel$State", "clarity", "[I", true)
  | 1 => ("PeriscopeTrainModel$State", "best", "[I", true)
  | 2 => ("PeriscopeTrainModel$State", "offset", "[I", true)
  | 3 => ("PeriscopeTrainModel$State", "row", "[I", true)
  | 4 => ("PeriscopeTrainModel$State", "job", "[I", true)
  | 5 => ("PeriscopeTrainModel$State", "jobMirror", "[I", true)
  | 6 => ("PeriscopeTrainModel$State", "jobs", "I", false)
  | 7 => ("PeriscopeTrainModel$State", "toGo", "I", false)
  | 8 => ("PeriscopeTrainModel$State", "minutes", "I", false)
  | _ => ("PeriscopeTrainModel$State", "done", "I", false)
def tyX9 : Nat → FieldType := fun k => match k with
  | 0 => .array .int
  | 1 => .array .int
  | 2 => .array .int
  | 3 => .array .int
  | 4 => .array .int
  | 5 => .array .int
  | 6 => .int
  | 7 => .int
  | 8 => .int
  | _ => .int
theorem nmX9 : ∀ a, a < 10 → ∀ b, b < 10 → a ≠ b → (TX9 a).2.1 ≠ (TX9 b).2.1 := by decide +kernel
theorem tyX9_ok : ∀ k, k < 10 → parseFieldDescriptor (TX9 k).2.2.1 = some (tyX9 k) := by decide +kernel
abbrev cX9_init : ByteArray := prog_12_method_1_code
def yX9_init : MethodName := ⟨RX9, "<init>", "()V"⟩
abbrev cX9_become : ByteArray := prog_12_method_2_code
def yX9_become : MethodName := ⟨RX9, "become", "(LPeriscopeTrainModel$State;)V"⟩
abbrev cX9_begin : ByteArray := prog_12_method_3_code
def yX9_begin : MethodName := ⟨RX9, "begin", "(LPeriscopeTrainModel$Told;)V"⟩
abbrev cX9_isCovered : ByteArray := prog_12_method_4_code
def yX9_isCovered : MethodName := ⟨RX9, "isCovered", "(I)Z"⟩
abbrev cX9_find : ByteArray := prog_12_method_5_code
def yX9_find : MethodName := ⟨RX9, "find", "(II)I"⟩
abbrev cX9_order : ByteArray := prog_12_method_6_code
def yX9_order : MethodName := ⟨RX9, "order", "(II)Z"⟩
abbrev cX9_take : ByteArray := prog_12_method_7_code
def yX9_take : MethodName := ⟨RX9, "take", "(I)I"⟩
abbrev cX9_clean : ByteArray := prog_12_method_8_code
def yX9_clean : MethodName := ⟨RX9, "clean", "(I)V"⟩
abbrev cX9_takes : ByteArray := prog_12_method_9_code
def yX9_takes : MethodName := ⟨RX9, "takes", "()I"⟩
abbrev cX9_works : ByteArray := prog_12_method_10_code
def yX9_works : MethodName := ⟨RX9, "works", "()Z"⟩
def RX10 : String := "PeriscopeTrainModel$Told"
def TX10 : u_T := fun k => match k with
  | 0 => ("PeriscopeTrainModel$Told", "mirrors", "I", false)
  | 1 => ("PeriscopeTrainModel$Told", "width", "I", false)
  | 2 => ("PeriscopeTrainModel$Told", "limit", "I", false)
  | 3 => ("PeriscopeTrainModel$Told", "clarity", "[I", true)
  | 4 => ("PeriscopeTrainModel$Told", "offset", "[I", true)
  | 5 => ("PeriscopeTrainModel$Told", "orders", "I", false)
  | 6 => ("PeriscopeTrainModel$Told", "does", "[I", true)
  | 7 => ("PeriscopeTrainModel$Told", "mirror", "[I", true)
  | 8 => ("PeriscopeTrainModel$Told", "from", "[I", true)
  | 9 => ("PeriscopeTrainModel$Told", "to", "[I", true)
  | 10 => ("PeriscopeTrainModel$Told", "sum", "[I", true)
  | 11 => ("PeriscopeTrainModel$Told", "test", "[I", true)
  | 12 => ("PeriscopeTrainModel$Told", "nodes", "I", false)
  | 13 => ("PeriscopeTrainModel$Told", "sort", "[I", true)
  | 14 => ("PeriscopeTrainModel$Told", "left", "[I", true)
  | _ => ("PeriscopeTrainModel$Told", "right", "[I", true)
def tyX10 : Nat → FieldType := fun k => match k with
  | 0 => .int
  | 1 => .int
  | 2 => .int
  | 3 => .array .int
  | 4 => .array .int
  | 5 => .int
  | 6 => .array .int
  | 7 => .array .int
  | 8 => .array .int
  | 9 => .array .int
  | 10 => .array .int
  | 11 => .array .int
  | 12 => .int
  | 13 => .array .int
  | 14 => .array .int
  | _ => .array .int
theorem nmX10 : ∀ a, a < 16 → ∀ b, b < 16 → a ≠ b → (TX10 a).2.1 ≠ (TX10 b).2.1 := by decide +kernel
theorem tyX10_ok : ∀ k, k < 16 → parseFieldDescriptor (TX10 k).2.2.1 = some (tyX10 k) := by decide +kernel
abbrev cX10_init : ByteArray := prog_13_method_1_code
def yX10_init : MethodName := ⟨RX10, "<init>", "()V"⟩
abbrev cX10_begin : ByteArray := prog_13_method_2_code
def yX10_begin : MethodName := ⟨RX10, "begin", "()V"⟩
abbrev cX10_copy : ByteArray := prog_13_method_3_code
def yX10_copy : MethodName := ⟨RX10, "copy", "([I[I)V"⟩
abbrev cX10_become : ByteArray := prog_13_method_4_code
def yX10_become : MethodName := ⟨RX10, "become", "(LPeriscopeTrainModel$Told;)V"⟩
def RX11 : String := "PeriscopeTrainModel"
def TX11 : u_T := fun k => match k with
  | 0 => ("PeriscopeTrainModel", "thrown", "I", false)
  | 1 => ("PeriscopeTrainModel", "tape", "[I", true)
  | 2 => ("PeriscopeTrainModel", "bytes", "I", false)
  | 3 => ("PeriscopeTrainModel", "errorAt", "I", false)
  | 4 => ("PeriscopeTrainModel", "kind", "[I", true)
  | 5 => ("PeriscopeTrainModel", "number", "[I", true)
  | 6 => ("PeriscopeTrainModel", "position", "[I", true)
  | 7 => ("PeriscopeTrainModel", "length", "[I", true)
  | 8 => ("PeriscopeTrainModel", "token", "I", false)
  | 9 => ("PeriscopeTrainModel", "isWrong", "Z", false)
  | 10 => ("PeriscopeTrainModel", "error", "I", false)
  | 11 => ("PeriscopeTrainModel", "errorToken", "I", false)
  | 12 => ("PeriscopeTrainModel", "deep", "I", false)
  | 13 => ("PeriscopeTrainModel", "named", "[I", true)
  | 14 => ("PeriscopeTrainModel", "told", "LPeriscopeTrainModel$Told;", true)
  | 15 => ("PeriscopeTrainModel", "fresh", "LPeriscopeTrainModel$Told;", true)
  | 16 => ("PeriscopeTrainModel", "value", "[I", true)
  | 17 => ("PeriscopeTrainModel", "now", "LPeriscopeTrainModel$State;", true)
  | 18 => ("PeriscopeTrainModel", "ahead", "LPeriscopeTrainModel$State;", true)
  | 19 => ("PeriscopeTrainModel", "comes", "[I", true)
  | 20 => ("PeriscopeTrainModel", "behind", "[I", true)
  | 21 => ("PeriscopeTrainModel", "tilt", "[I", true)
  | 22 => ("PeriscopeTrainModel", "endLight", "I", false)
  | _ => ("PeriscopeTrainModel", "endTilt", "I", false)
def tyX11 : Nat → FieldType := fun k => match k with
  | 0 => .int
  | 1 => .array .int
  | 2 => .int
  | 3 => .int
  | 4 => .array .int
  | 5 => .array .int
  | 6 => .array .int
  | 7 => .array .int
  | 8 => .int
  | 9 => .boolean
  | 10 => .int
  | 11 => .int
  | 12 => .int
  | 13 => .array .int
  | 14 => .object "PeriscopeTrainModel$Told"
  | 15 => .object "PeriscopeTrainModel$Told"
  | 16 => .array .int
  | 17 => .object "PeriscopeTrainModel$State"
  | 18 => .object "PeriscopeTrainModel$State"
  | 19 => .array .int
  | 20 => .array .int
  | 21 => .array .int
  | 22 => .int
  | _ => .int
theorem nmX11 : ∀ a, a < 24 → ∀ b, b < 24 → a ≠ b → (TX11 a).2.1 ≠ (TX11 b).2.1 := by decide +kernel
theorem tyX11_ok : ∀ k, k < 24 → parseFieldDescriptor (TX11 k).2.2.1 = some (tyX11 k) := by decide +kernel
abbrev cX11_init : ByteArray := prog_11_method_1_code
def yX11_init : MethodName := ⟨RX11, "<init>", "()V"⟩
abbrev cX11_thrown : ByteArray := prog_11_method_2_code
def yX11_thrown : MethodName := ⟨RX11, "thrown", "()I"⟩
abbrev cX11_no : ByteArray := prog_11_method_3_code
def yX11_no : MethodName := ⟨RX11, "no", "(I)I"⟩
abbrev cX11_ok : ByteArray := prog_11_method_5_code
def yX11_ok : MethodName := ⟨RX11, "ok", "(I)I"⟩
abbrev cX11_isIn : ByteArray := prog_11_method_6_code
def yX11_isIn : MethodName := ⟨RX11, "isIn", "(III)Z"⟩
abbrev cX11_isLetter : ByteArray := prog_11_method_7_code
def yX11_isLetter : MethodName := ⟨RX11, "isLetter", "(I)Z"⟩
abbrev cX11_isDigit : ByteArray := prog_11_method_8_code
def yX11_isDigit : MethodName := ⟨RX11, "isDigit", "(I)Z"⟩
abbrev cX11_byteAt : ByteArray := prog_11_method_9_code
def yX11_byteAt : MethodName := ⟨RX11, "byteAt", "(I)I"⟩
abbrev cX11_isWord : ByteArray := prog_11_method_10_code
def yX11_isWord : MethodName := ⟨RX11, "isWord", "(IILjava/lang/String;)Z"⟩
abbrev cX11_keyword : ByteArray := prog_11_method_11_code
def yX11_keyword : MethodName := ⟨RX11, "keyword", "(II)I"⟩
abbrev cX11_symbol : ByteArray := prog_11_method_12_code
def yX11_symbol : MethodName := ⟨RX11, "symbol", "(I)I"⟩
abbrev cX11_read : ByteArray := prog_11_method_13_code
def yX11_read : MethodName := ⟨RX11, "read", "(II)I"⟩
abbrev cX11_skip : ByteArray := prog_11_method_14_code
def yX11_skip : MethodName := ⟨RX11, "skip", "(I)I"⟩
abbrev cX11_readAll : ByteArray := prog_11_method_15_code
def yX11_readAll : MethodName := ⟨RX11, "readAll", "()V"⟩
abbrev cX11_is : ByteArray := prog_11_method_16_code
def yX11_is : MethodName := ⟨RX11, "is", "(I)Z"⟩
abbrev cX11_wrong : ByteArray := prog_11_method_17_code
def yX11_wrong : MethodName := ⟨RX11, "wrong", "()V"⟩
abbrev cX11_take : ByteArray := prog_11_method_18_code
def yX11_take : MethodName := ⟨RX11, "take", "(I)V"⟩
abbrev cX11_takes : ByteArray := prog_11_method_19_code
def yX11_takes : MethodName := ⟨RX11, "takes", "(I)Z"⟩
abbrev cX11_deeper : ByteArray := prog_11_method_20_code
def yX11_deeper : MethodName := ⟨RX11, "deeper", "()V"⟩
abbrev cX11_mark : ByteArray := prog_11_method_21_code
def yX11_mark : MethodName := ⟨RX11, "mark", "(I)V"⟩
abbrev cX11_node : ByteArray := prog_11_method_22_code
def yX11_node : MethodName := ⟨RX11, "node", "(III)I"⟩
abbrev cX11_isSameName : ByteArray := prog_11_method_23_code
def yX11_isSameName : MethodName := ⟨RX11, "isSameName", "(II)Z"⟩
abbrev cX11_known : ByteArray := prog_11_method_24_code
def yX11_known : MethodName := ⟨RX11, "known", "()I"⟩
abbrev cX11_name : ByteArray := prog_11_method_25_code
def yX11_name : MethodName := ⟨RX11, "name", "()I"⟩
abbrev cX11_inBrackets : ByteArray := prog_11_method_26_code
def yX11_inBrackets : MethodName := ⟨RX11, "inBrackets", "()I"⟩
abbrev cX11_ofTwo : ByteArray := prog_11_method_27_code
def yX11_ofTwo : MethodName := ⟨RX11, "ofTwo", "(I)I"⟩
abbrev cX11_isMeasure : ByteArray := prog_11_method_28_code
def yX11_isMeasure : MethodName := ⟨RX11, "isMeasure", "()Z"⟩
abbrev cX11_measure : ByteArray := prog_11_method_29_code
def yX11_measure : MethodName := ⟨RX11, "measure", "()I"⟩
abbrev cX11_value : ByteArray := prog_11_method_30_code
def yX11_value : MethodName := ⟨RX11, "value", "()I"⟩
abbrev cX11_product : ByteArray := prog_11_method_31_code
def yX11_product : MethodName := ⟨RX11, "product", "()I"⟩
abbrev cX11_sum : ByteArray := prog_11_method_32_code
def yX11_sum : MethodName := ⟨RX11, "sum", "()I"⟩
abbrev cX11_comparison : ByteArray := prog_11_method_33_code
def yX11_comparison : MethodName := ⟨RX11, "comparison", "()I"⟩
abbrev cX11_single : ByteArray := prog_11_method_34_code
def yX11_single : MethodName := ⟨RX11, "single", "()I"⟩
abbrev cX11_both : ByteArray := prog_11_method_35_code
def yX11_both : MethodName := ⟨RX11, "both", "()I"⟩
abbrev cX11_test : ByteArray := prog_11_method_36_code
def yX11_test : MethodName := ⟨RX11, "test", "()I"⟩
abbrev cX11_numberTo : ByteArray := prog_11_method_37_code
def yX11_numberTo : MethodName := ⟨RX11, "numberTo", "(I)I"⟩
abbrev cX11_mirror : ByteArray := prog_11_method_38_code
def yX11_mirror : MethodName := ⟨RX11, "mirror", "()V"⟩
abbrev cX11_order : ByteArray := prog_11_method_39_code
def yX11_order : MethodName := ⟨RX11, "order", "(I)V"⟩
abbrev cX11_line : ByteArray := prog_11_method_40_code
def yX11_line : MethodName := ⟨RX11, "line", "()V"⟩
abbrev cX11_train : ByteArray := prog_11_method_41_code
def yX11_train : MethodName := ⟨RX11, "train", "()V"⟩
abbrev cX11_feed : ByteArray := prog_11_method_42_code
def yX11_feed : MethodName := ⟨RX11, "feed", "(IIIII)I"⟩
abbrev cX11_trim : ByteArray := prog_11_method_43_code
def yX11_trim : MethodName := ⟨RX11, "trim", "(I)I"⟩
abbrev cX11_teach : ByteArray := prog_11_method_44_code
def yX11_teach : MethodName := ⟨RX11, "teach", "()I"⟩
abbrev cX11_errorAt : ByteArray := prog_11_method_45_code
def yX11_errorAt : MethodName := ⟨RX11, "errorAt", "()I"⟩
abbrev cX11_isWide : ByteArray := prog_11_method_46_code
def yX11_isWide : MethodName := ⟨RX11, "isWide", "(I)Z"⟩
abbrev cX11_shine : ByteArray := prog_11_method_47_code
def yX11_shine : MethodName := ⟨RX11, "shine", "(LPeriscopeTrainModel$State;)V"⟩
abbrev cX11_light : ByteArray := prog_11_method_48_code
def yX11_light : MethodName := ⟨RX11, "light", "(LPeriscopeTrainModel$State;)I"⟩
abbrev cX11_seen : ByteArray := prog_11_method_49_code
def yX11_seen : MethodName := ⟨RX11, "seen", "(LPeriscopeTrainModel$State;)Z"⟩
abbrev cX11_reckon : ByteArray := prog_11_method_50_code
def yX11_reckon : MethodName := ⟨RX11, "reckon", "(LPeriscopeTrainModel$State;III)I"⟩
abbrev cX11_joined : ByteArray := prog_11_method_51_code
def yX11_joined : MethodName := ⟨RX11, "joined", "(III)I"⟩
abbrev cX11_held : ByteArray := prog_11_method_52_code
def yX11_held : MethodName := ⟨RX11, "held", "(JII)I"⟩
abbrev cX11_carryOut : ByteArray := prog_11_method_53_code
def yX11_carryOut : MethodName := ⟨RX11, "carryOut", "(LPeriscopeTrainModel$State;I)V"⟩
abbrev cX11_pass : ByteArray := prog_11_method_54_code
def yX11_pass : MethodName := ⟨RX11, "pass", "(LPeriscopeTrainModel$State;)Z"⟩
abbrev cX11_mirrors : ByteArray := prog_11_method_55_code
def yX11_mirrors : MethodName := ⟨RX11, "mirrors", "()I"⟩
abbrev cX11_orders : ByteArray := prog_11_method_56_code
def yX11_orders : MethodName := ⟨RX11, "orders", "()I"⟩
abbrev cX11_minutes : ByteArray := prog_11_method_57_code
def yX11_minutes : MethodName := ⟨RX11, "minutes", "()I"⟩
abbrev cX11_tapeBytes : ByteArray := prog_11_method_58_code
def yX11_tapeBytes : MethodName := ⟨RX11, "tapeBytes", "()I"⟩
abbrev cX11_lightAtEnd : ByteArray := prog_11_method_59_code
def yX11_lightAtEnd : MethodName := ⟨RX11, "lightAtEnd", "()I"⟩
abbrev cX11_tiltAtEnd : ByteArray := prog_11_method_60_code
def yX11_tiltAtEnd : MethodName := ⟨RX11, "tiltAtEnd", "()I"⟩
abbrev cX11_isSeen : ByteArray := prog_11_method_61_code
def yX11_isSeen : MethodName := ⟨RX11, "isSeen", "()Z"⟩
abbrev cX11_worstMirror : ByteArray := prog_11_method_62_code
def yX11_worstMirror : MethodName := ⟨RX11, "worstMirror", "()I"⟩
abbrev cX11_isMirror : ByteArray := prog_11_method_63_code
def yX11_isMirror : MethodName := ⟨RX11, "isMirror", "(I)Z"⟩
abbrev cX11_clarityOf : ByteArray := prog_11_method_64_code
def yX11_clarityOf : MethodName := ⟨RX11, "clarityOf", "(I)I"⟩
abbrev cX11_bestClarityOf : ByteArray := prog_11_method_65_code
def yX11_bestClarityOf : MethodName := ⟨RX11, "bestClarityOf", "(I)I"⟩
abbrev cX11_offsetOf : ByteArray := prog_11_method_66_code
def yX11_offsetOf : MethodName := ⟨RX11, "offsetOf", "(I)I"⟩
abbrev cX11_place : ByteArray := prog_11_method_67_code
def yX11_place : MethodName := ⟨RX11, "place", "(I)I"⟩
abbrev cX11_placeOf : ByteArray := prog_11_method_68_code
def yX11_placeOf : MethodName := ⟨RX11, "placeOf", "(I)I"⟩
abbrev cX11_lightBehind : ByteArray := prog_11_method_69_code
def yX11_lightBehind : MethodName := ⟨RX11, "lightBehind", "(I)I"⟩
abbrev cX11_lostAt : ByteArray := prog_11_method_70_code
def yX11_lostAt : MethodName := ⟨RX11, "lostAt", "(I)I"⟩
abbrev cX11_tiltBehind : ByteArray := prog_11_method_71_code
def yX11_tiltBehind : MethodName := ⟨RX11, "tiltBehind", "(I)I"⟩
abbrev cX11_isCovered : ByteArray := prog_11_method_72_code
def yX11_isCovered : MethodName := ⟨RX11, "isCovered", "(I)Z"⟩
abbrev cX11_mirrorAt : ByteArray := prog_11_method_73_code
def yX11_mirrorAt : MethodName := ⟨RX11, "mirrorAt", "(I)I"⟩
abbrev cX11_isJob : ByteArray := prog_11_method_74_code
def yX11_isJob : MethodName := ⟨RX11, "isJob", "(I)Z"⟩
abbrev cX11_jobs : ByteArray := prog_11_method_75_code
def yX11_jobs : MethodName := ⟨RX11, "jobs", "()I"⟩
abbrev cX11_jobsDone : ByteArray := prog_11_method_76_code
def yX11_jobsDone : MethodName := ⟨RX11, "jobsDone", "()I"⟩
abbrev cX11_kindOfJob : ByteArray := prog_11_method_77_code
def yX11_kindOfJob : MethodName := ⟨RX11, "kindOfJob", "(I)I"⟩
abbrev cX11_mirrorOfJob : ByteArray := prog_11_method_78_code
def yX11_mirrorOfJob : MethodName := ⟨RX11, "mirrorOfJob", "(I)I"⟩
abbrev cX11_minutesToGo : ByteArray := prog_11_method_79_code
def yX11_minutesToGo : MethodName := ⟨RX11, "minutesToGo", "()I"⟩
abbrev cX11_orderJob : ByteArray := prog_11_method_80_code
def yX11_orderJob : MethodName := ⟨RX11, "orderJob", "(II)I"⟩
abbrev cX11_cancelJob : ByteArray := prog_11_method_81_code
def yX11_cancelJob : MethodName := ⟨RX11, "cancelJob", "(I)I"⟩
abbrev cX11_turnMirror : ByteArray := prog_11_method_82_code
def yX11_turnMirror : MethodName := ⟨RX11, "turnMirror", "(II)I"⟩
abbrev cX11_dustMirror : ByteArray := prog_11_method_83_code
def yX11_dustMirror : MethodName := ⟨RX11, "dustMirror", "(II)I"⟩
abbrev cX11_moveMirror : ByteArray := prog_11_method_84_code
def yX11_moveMirror : MethodName := ⟨RX11, "moveMirror", "(II)I"⟩
abbrev cX11_passMinutes : ByteArray := prog_11_method_85_code
def yX11_passMinutes : MethodName := ⟨RX11, "passMinutes", "(I)I"⟩
abbrev cX11_lightAfter : ByteArray := prog_11_method_86_code
def yX11_lightAfter : MethodName := ⟨RX11, "lightAfter", "(I)I"⟩
abbrev cX11_minutesUntilSeen : ByteArray := prog_11_method_87_code
def yX11_minutesUntilSeen : MethodName := ⟨RX11, "minutesUntilSeen", "()I"⟩
abbrev cX11_minutesUntilDone : ByteArray := prog_11_method_88_code
def yX11_minutesUntilDone : MethodName := ⟨RX11, "minutesUntilDone", "(I)I"⟩
abbrev cX11_bestToClean : ByteArray := prog_11_method_89_code
def yX11_bestToClean : MethodName := ⟨RX11, "bestToClean", "()I"⟩
abbrev cX11_bestOffset : ByteArray := prog_11_method_90_code
def yX11_bestOffset : MethodName := ⟨RX11, "bestOffset", "(I)I"⟩
abbrev cX11_meanClarity : ByteArray := prog_11_method_91_code
def yX11_meanClarity : MethodName := ⟨RX11, "meanClarity", "()D"⟩
abbrev cX11_digest : ByteArray := prog_11_method_92_code
def yX11_digest : MethodName := ⟨RX11, "digest", "()J"⟩
def RJ11 : String := "java/lang/Character"
abbrev cJ11_isValidCodePoint_9a6ad : ByteArray := prog_14_method_11_code
def yJ11_isValidCodePoint_9a6ad : MethodName := ⟨RJ11, "isValidCodePoint", "(I)Z"⟩
abbrev cJ11_highSurrogate_5068e : ByteArray := prog_14_method_28_code
def yJ11_highSurrogate_5068e : MethodName := ⟨RJ11, "highSurrogate", "(I)C"⟩
abbrev cJ11_lowSurrogate_5068e : ByteArray := prog_14_method_29_code
def yJ11_lowSurrogate_5068e : MethodName := ⟨RJ11, "lowSurrogate", "(I)C"⟩
def RJ9 : String := "java/lang/Math"
abbrev cJ9_abs_0f7a4 : ByteArray := prog_19_method_59_code
def yJ9_abs_0f7a4 : MethodName := ⟨RJ9, "abs", "(I)I"⟩
abbrev cJ9_max_7cf53 : ByteArray := prog_19_method_65_code
def yJ9_max_7cf53 : MethodName := ⟨RJ9, "max", "(II)I"⟩
abbrev cJ9_max_f86c9 : ByteArray := prog_19_method_66_code
def yJ9_max_f86c9 : MethodName := ⟨RJ9, "max", "(JJ)J"⟩
abbrev cJ9_min_7cf53 : ByteArray := prog_19_method_69_code
def yJ9_min_7cf53 : MethodName := ⟨RJ9, "min", "(II)I"⟩
abbrev cJ9_min_f86c9 : ByteArray := prog_19_method_70_code
def yJ9_min_f86c9 : MethodName := ⟨RJ9, "min", "(JJ)J"⟩
def RJ0 : String := "java/lang/String"
abbrev cJ0_length_8abf5 : ByteArray := prog_21_method_54_code
def yJ0_length_8abf5 : MethodName := ⟨RJ0, "length", "()I"⟩
abbrev cJ0_charAt_5068e : ByteArray := prog_21_method_56_code
def yJ0_charAt_5068e : MethodName := ⟨RJ0, "charAt", "(I)C"⟩
abbrev cJ0_indexOf_0f7a4 : ByteArray := prog_21_method_79_code
def yJ0_indexOf_0f7a4 : MethodName := ⟨RJ0, "indexOf", "(I)I"⟩
abbrev cJ0_indexOf_7cf53 : ByteArray := prog_21_method_80_code
def yJ0_indexOf_7cf53 : MethodName := ⟨RJ0, "indexOf", "(II)I"⟩
abbrev cJ0_coder_7d493 : ByteArray := prog_21_method_152_code
def yJ0_coder_7d493 : MethodName := ⟨RJ0, "coder", "()B"⟩
abbrev cJ0_isLatin1_aae02 : ByteArray := prog_21_method_154_code
def yJ0_isLatin1_aae02 : MethodName := ⟨RJ0, "isLatin1", "()Z"⟩
abbrev cJ0_checkIndex_df160 : ByteArray := prog_21_method_155_code
def yJ0_checkIndex_df160 : MethodName := ⟨RJ0, "checkIndex", "(II)V"⟩
abbrev cJ0_checkBoundsBeginEnd_23922 : ByteArray := prog_21_method_158_code
def yJ0_checkBoundsBeginEnd_23922 : MethodName := ⟨RJ0, "checkBoundsBeginEnd", "(III)V"⟩
def RJ1 : String := "java/lang/StringLatin1"
abbrev cJ1_charAt_3b067 : ByteArray := prog_22_method_2_code
def yJ1_charAt_3b067 : MethodName := ⟨RJ1, "charAt", "([BI)C"⟩
abbrev cJ1_canEncode_9a6ad : ByteArray := prog_22_method_4_code
def yJ1_canEncode_9a6ad : MethodName := ⟨RJ1, "canEncode", "(I)Z"⟩
abbrev cJ1_indexOf_4cfef : ByteArray := prog_22_method_22_code
def yJ1_indexOf_4cfef : MethodName := ⟨RJ1, "indexOf", "([BIII)I"⟩
abbrev cJ1_indexOfChar_4cfef : ByteArray := prog_22_method_23_code
def yJ1_indexOfChar_4cfef : MethodName := ⟨RJ1, "indexOfChar", "([BIII)I"⟩
def RJ2 : String := "java/lang/StringUTF16"
abbrev cJ2_getChar_3b067 : ByteArray := prog_23_method_5_code
def yJ2_getChar_3b067 : MethodName := ⟨RJ2, "getChar", "([BI)C"⟩
abbrev cJ2_length_9d52b : ByteArray := prog_23_method_6_code
def yJ2_length_9d52b : MethodName := ⟨RJ2, "length", "([B)I"⟩
abbrev cJ2_indexOf_4cfef : ByteArray := prog_23_method_40_code
def yJ2_indexOf_4cfef : MethodName := ⟨RJ2, "indexOf", "([BIII)I"⟩
abbrev cJ2_indexOfChar_4cfef : ByteArray := prog_23_method_47_code
def yJ2_indexOfChar_4cfef : MethodName := ⟨RJ2, "indexOfChar", "([BIII)I"⟩
abbrev cJ2_indexOfCharUnsafe_4cfef : ByteArray := prog_23_method_48_code
def yJ2_indexOfCharUnsafe_4cfef : MethodName := ⟨RJ2, "indexOfCharUnsafe", "([BIII)I"⟩
abbrev cJ2_indexOfSupplementary_4cfef : ByteArray := prog_23_method_49_code
def yJ2_indexOfSupplementary_4cfef : MethodName := ⟨RJ2, "indexOfSupplementary", "([BIII)I"⟩
abbrev cJ2_charAt_3b067 : ByteArray := prog_23_method_83_code
def yJ2_charAt_3b067 : MethodName := ⟨RJ2, "charAt", "([BI)C"⟩
abbrev cJ2_checkIndex_2214a : ByteArray := prog_23_method_91_code
def yJ2_checkIndex_2214a : MethodName := ⟨RJ2, "checkIndex", "(I[B)V"⟩
abbrev cJ2_checkBoundsBeginEnd_d044e : ByteArray := prog_23_method_93_code
def yJ2_checkBoundsBeginEnd_d044e : MethodName := ⟨RJ2, "checkBoundsBeginEnd", "(II[B)V"⟩
def RJ10 : String := "java/lang/System"
def RJ3 : String := "jdk/internal/util/Preconditions"
abbrev cJ3_checkIndex_8e157 : ByteArray := prog_26_method_11_code
def yJ3_checkIndex_8e157 : MethodName := ⟨RJ3, "checkIndex", "(IILjava/util/function/BiFunction;)I"⟩
abbrev cJ3_checkFromToIndex_8c36e : ByteArray := prog_26_method_12_code
def yJ3_checkFromToIndex_8c36e : MethodName := ⟨RJ3, "checkFromToIndex", "(IIILjava/util/function/BiFunction;)I"⟩
def RL : String := "PeriscopeTrainLaw"
abbrev cL_feed : ByteArray := method_3_code
def yL_feed : MethodName := ⟨RL, "feed", "(LPeriscopeTrain;IIIII[J)I"⟩
abbrev cL_trim : ByteArray := method_4_code
def yL_trim : MethodName := ⟨RL, "trim", "(LPeriscopeTrain;I[J)I"⟩
abbrev cL_worstMirror : ByteArray := method_5_code
def yL_worstMirror : MethodName := ⟨RL, "worstMirror", "(LPeriscopeTrain;[J)I"⟩
abbrev cL_clarityOf : ByteArray := method_6_code
def yL_clarityOf : MethodName := ⟨RL, "clarityOf", "(LPeriscopeTrain;I[J)I"⟩
abbrev cL_bestClarityOf : ByteArray := method_7_code
def yL_bestClarityOf : MethodName := ⟨RL, "bestClarityOf", "(LPeriscopeTrain;I[J)I"⟩
abbrev cL_offsetOf : ByteArray := method_8_code
def yL_offsetOf : MethodName := ⟨RL, "offsetOf", "(LPeriscopeTrain;I[J)I"⟩
abbrev cL_placeOf : ByteArray := method_9_code
def yL_placeOf : MethodName := ⟨RL, "placeOf", "(LPeriscopeTrain;I[J)I"⟩
abbrev cL_lightBehind : ByteArray := method_10_code
def yL_lightBehind : MethodName := ⟨RL, "lightBehind", "(LPeriscopeTrain;I[J)I"⟩
abbrev cL_lostAt : ByteArray := method_11_code
def yL_lostAt : MethodName := ⟨RL, "lostAt", "(LPeriscopeTrain;I[J)I"⟩
abbrev cL_tiltBehind : ByteArray := method_12_code
def yL_tiltBehind : MethodName := ⟨RL, "tiltBehind", "(LPeriscopeTrain;I[J)I"⟩
abbrev cL_isCovered : ByteArray := method_13_code
def yL_isCovered : MethodName := ⟨RL, "isCovered", "(LPeriscopeTrain;I[J)I"⟩
abbrev cL_mirrorAt : ByteArray := method_14_code
def yL_mirrorAt : MethodName := ⟨RL, "mirrorAt", "(LPeriscopeTrain;I[J)I"⟩
abbrev cL_kindOfJob : ByteArray := method_15_code
def yL_kindOfJob : MethodName := ⟨RL, "kindOfJob", "(LPeriscopeTrain;I[J)I"⟩
abbrev cL_mirrorOfJob : ByteArray := method_16_code
def yL_mirrorOfJob : MethodName := ⟨RL, "mirrorOfJob", "(LPeriscopeTrain;I[J)I"⟩
abbrev cL_orderJob : ByteArray := method_17_code
def yL_orderJob : MethodName := ⟨RL, "orderJob", "(LPeriscopeTrain;II[J)I"⟩
abbrev cL_cancelJob : ByteArray := method_18_code
def yL_cancelJob : MethodName := ⟨RL, "cancelJob", "(LPeriscopeTrain;I[J)I"⟩
abbrev cL_turnMirror : ByteArray := method_19_code
def yL_turnMirror : MethodName := ⟨RL, "turnMirror", "(LPeriscopeTrain;II[J)I"⟩
abbrev cL_dustMirror : ByteArray := method_20_code
def yL_dustMirror : MethodName := ⟨RL, "dustMirror", "(LPeriscopeTrain;II[J)I"⟩
abbrev cL_moveMirror : ByteArray := method_21_code
def yL_moveMirror : MethodName := ⟨RL, "moveMirror", "(LPeriscopeTrain;II[J)I"⟩
abbrev cL_passMinutes : ByteArray := method_22_code
def yL_passMinutes : MethodName := ⟨RL, "passMinutes", "(LPeriscopeTrain;I[J)I"⟩
abbrev cL_lightAfter : ByteArray := method_23_code
def yL_lightAfter : MethodName := ⟨RL, "lightAfter", "(LPeriscopeTrain;I[J)I"⟩
abbrev cL_minutesUntilDone : ByteArray := method_24_code
def yL_minutesUntilDone : MethodName := ⟨RL, "minutesUntilDone", "(LPeriscopeTrain;I[J)I"⟩
abbrev cL_bestOffset : ByteArray := method_25_code
def yL_bestOffset : MethodName := ⟨RL, "bestOffset", "(LPeriscopeTrain;I[J)I"⟩
abbrev cL_law : ByteArray := code
def yL_law : MethodName := ⟨RL, "law", "([I)Z"⟩
abbrev vwCl : List vw_C := [(RX0, TX0, 3), (RX1, TX1, 5), (RX2, TX2, 9), (RX3, TX3, 5), (RX4, TX4, 14), (RX5, TX5, 2), (RX6, TX6, 6), (RX7, TX7, 6), (RX8, TX8, 9), (RX9, TX9, 10), (RX10, TX10, 16), (RX11, TX11, 24)]
end
section
/-! ===== BEGIN words of one list among another's, by their places ===== -/
theorem goodIn_r {big : List Cond} (ws : List Cond) (ps : List Nat) (hp : ws = ps.filterMap (fun i => big[i]?)) (h : ws.all goodWord = true) : GoodIn big ws := by
  intro w hw
  have h1 := List.all_eq_true.mp h w hw
  rw [hp] at hw
  obtain ⟨i, -, hi⟩ := List.mem_filterMap.mp hw
  have hm : w ∈ big := by first | exact List.mem_of_getElem? hi | exact List.getElem?_mem hi
  exact ⟨hm, good_of_word h1⟩
theorem goodIn_app {big a b : List Cond} (ha : GoodIn big a) (hb : GoodIn big b) : GoodIn big (a ++ b) := fun w h => (List.mem_append.mp h).elim (ha w) (hb w)
theorem goodIn_ca {big a b : List Cond} {c : Cond} (ha : GoodIn big (c :: a)) (hb : GoodIn big b) : GoodIn big (c :: (a ++ b)) := fun w h => (List.mem_cons.mp h).elim (fun e => ha w (List.mem_cons.mpr (Or.inl e))) (fun h => (List.mem_append.mp h).elim (fun h => ha w (List.mem_cons.mpr (Or.inr h))) (hb w))
theorem goodIn_sub {big ws : List Cond} (hm : ∀ w ∈ ws, w ∈ big) (h : ws.all goodWord = true) : GoodIn big ws := fun w hw => ⟨hm w hw, good_of_word (List.all_eq_true.mp h w hw)⟩
/-! ===== END ===== -/

/-! ===== BEGIN exceptions that leave a method, and their catching by the caller (launches without stack traces) ===== -/
section VXA
/-! The laws vx_back, vx_callV, vx_callS, vx_callSW, vx_throw0, vx_throwS follow proofs of the library, with one case more: JvmDerived/Free/Laws.lean (Back.of_free), Shelf42/LK1.lean (callV, callS), Shelf/KitTraced.lean (throwNew0V, throwNewS). -/
/-- where a method has thrown q: the class by its name, the cell, what was written, the world -/
def vx_T (XC : String → State → State → Prop) (st : State) (q : Addr) (t : State) (mc ms : Nat) (free : Addr → Prop) : Prop :=
  ∃ (E : String) (ce : Cell) (L : List Loc), XC E st t ∧ t.heap[q]? = some ce ∧ ce.vm = .none ∧ st.vm.findClass E = some ce.cls ∧ st.WarmedH t.vm ∧ st.sameButNew ({ t with vm := st.vm } : State) L mc ms ∧ ∀ z ∈ L, free z.base
def vx_Q (Qc : Array Value → State → Outcome → State → Prop) (XC : String → State → State → Prop) (mc ms : Nat) (free : Addr → Prop) : Array Value → State → Outcome → State → Prop := fun a st o t =>
  (Qc a st o t ∧ ∃ L, FrameEnd st o t L mc ms ∧ ∀ q ∈ L, free q.base) ∨ ∃ q, o = .threw q ∧ vx_T XC st q t mc ms free
/-- a callee that returns or throws -/
def vx_Met (l : Launch) (y : MethodName) (ws : List Cond) (rm : Room) (Pc : Array Value → State → Prop) (Qc : Array Value → State → Outcome → State → Prop) (XC : String → State → State → Prop) (mc ms : Nat) (free : Addr → Prop) : Prop :=
  MetFree l y (headSpec ws rm) Pc (fun _ _ _ _ _ => True) (vx_Q Qc XC mc ms free)
def vx_Post (XC : String → State → State → Prop) (mc ms : Nat) (free : Addr → Prop) : Pt → Array Value → Addr → Pt → Prop := fun A a q B =>
  ∃ (g : JFrame) (mk : MethodId) (t : State) (L : List Loc) (E : String) (ce : Cell), B.U.heap = t.heap ∧ B.U.vm = t.vm ∧ XC E (A.U.calling g mk a) t ∧ t.heap[q]? = some ce ∧ ce.vm = .none ∧ A.U.vm.findClass E = some ce.cls ∧ B.locs = A.locs ++ L ∧ (∀ z ∈ L, free z.base) ∧ B.cells = A.cells + mc ∧ B.slots = A.slots + ms
def vx_Back (l : Launch) (R : Room) (p : Program) (e : Env) (below : List Frame) (s : State) (sargs : Array Value) (y : MethodName) (len W9 : Nat)
    (Pre : Pt → Array Value → Prop) (Post : Pt → Array Value → Option Value → Pt → Prop) (PostX : Pt → Array Value → Addr → Pt → Prop) : Prop :=
  ∀ (m : MethodId) (meth : Method) (c : Code) (A : Pt) (g : JFrame) (ig : Instr) (mk : MethodId) (a : Array Value),
    Stand p l e R s m sargs below meth c A.U A.locs A.cells A.slots → g.method = m → g.locals.size = c.maxLocals → decode c.code g.pc = .ok (ig, len) →
    2 * g.monitorRoom + (g.stack.map fun v => v.category).sum ≤ W9 → A.U.methodNamed? y = some mk → Pre A a →
    (∃ (v : Option Value) (B : Pt), Stand p l e R s m sargs below meth c B.U B.locs B.cells B.slots ∧ Post A a v B ∧
      Steps p.tables e below (doInvoke e (A.U.setTop g) [] mk a).1 (B.U.setTop { g with pc := g.pc + len, stack := v.toList ++ g.stack })) ∨
    (∃ (q : Addr) (B : Pt), Stand p l e R s m sargs below meth c B.U B.locs B.cells B.slots ∧ PostX A a q B ∧
      Steps p.tables e below (doInvoke e (A.U.setTop g) [] mk a).1 ((B.U.setTop g).pushFrame (.throwing q)))
section Payer
variable {l : Launch} {R : Room} {p : Program} {e : Env} {below : List Frame} {s : State} {sargs : Array Value} {y : MethodName} {len W9 : Nat}
theorem vx_back {ws : List Cond} {rm : Room} {Pc : Array Value → State → Prop} {Qc : Array Value → State → Outcome → State → Prop} {XC : String → State → State → Prop} {mc ms : Nat} {free : Addr → Prop} {bytes : ByteArray} {maxL : Nat} {ret : Option FieldType}
    (hM : vx_Met l y ws rm Pc Qc XC mc ms free) (hblind : FrameBlind Pc) (hrc : rm.cells = mc) (hrs : rm.slots = ms)
    (hframes : rm.frames + 1 ≤ R.frames) (hlocals : W9 + (maxL + 11) + rm.locals ≤ R.locals)
    (hws : ∀ w ∈ ws, ∀ a' U, s.WarmedH U.vm → w.before a' U = true) (hcode : Cond.code y bytes maxL ret ∈ ws) (hinit : ∀ a' U, s.WarmedH U.vm → (Cond.initialized y.cls).before a' U = true) :
    vx_Back l R p e below s sargs y len W9 (PreOf R mc ms Pc) (PostOf Qc mc ms free) (vx_Post XC mc ms free) := by
  intro m meth c A g ig mk a X hg hsize hdg hW hn hp
  have h1 : (headSpec ws rm).pre.before a A.U = true := atoms_intro fun w hw => hws w hw _ _ X.warmed
  have h2 : (Cond.code y bytes maxL ret).before a A.U = true := hws _ hcode _ _ X.warmed
  have h3 : (Cond.initialized y.cls).before a A.U = true := hinit _ _ X.warmed
  have h4 : A.cells + (headSpec ws rm).room.cells ≤ R.cells := by rw [show (headSpec ws rm).room.cells = mc from hrc]; exact hp.1
  have h5 : A.slots + (headSpec ws rm).room.slots ≤ R.slots := by rw [show (headSpec ws rm).room.slots = ms from hrs]; exact hp.2.1
  have hPc : Pc a (A.U.calling g mk a) := hblind _ _ _ _ hp.2.2
  obtain ⟨U, Ls, c0, s0⟩ := A
  dsimp only [Pt.U, Pt.locs, Pt.cells, Pt.slots] at h1 h2 h3 h4 h5 X hn hPc ⊢
  obtain ⟨methY, cY, hmY, hcY, -, hlY, -, -, -, -⟩ := Cond.code_spec hn h2
  obtain ⟨kY, hkY, -⟩ := className_of_methodNamed hn
  have hinitY : kY.init = .initialized := Cond.initialized_spec (findClass_of_methodNamed hn) hkY h3
  have h : At U g.method c below := by rw [hg]; exact X.here
  have hlocals9 : W9 + (maxL + 11) + (headSpec ws rm).room.locals ≤ R.locals := hlocals
  have happ : (headSpec ws rm).appliesLoose y e.platform (U.calling g mk a) = true :=
    Spec.appliesLoose_calling (g := g) h hdg hn hkY hinitY
      (X.room_calling (g := g) (R' := (headSpec ws rm).room) hsize hmY hcY hframes (by rw [hlY]; omega) h4 h5) h1
  obtain ⟨mid, hmid⟩ := h.above
  have hfr : (U.setTop g).frames = (.java g :: mid) ++ below := by rw [State.frames_setTop' g h.top, hmid]; rfl
  obtain ⟨o, s₂, hsteps, -, hend, hq⟩ := Steps.callFree hM p X.admits X.cas X.clock (acts := []) hfr happ hPc trivial
  have hq' : vx_Q Qc XC mc ms free a (U.calling g mk a) o s₂ := hq
  rw [State.frames_setTop' g h.top] at hend
  obtain ⟨g₀, hg0⟩ := Option.isSome_iff_exists.mp h.top
  obtain ⟨r, hr⟩ := State.topJava?_eq_some.mp hg0
  have hr' : (({ U with heap := s₂.heap, slotsUsed := s₂.slotsUsed } : State).setVm s₂.vm).frames = .java g₀ :: r := hr
  rcases hq' with ⟨hqc, L, hfe, hL⟩ | ⟨q, rfl, E, ce, L, hx, hce, hcv, hcl, hW₂, hsm, hL⟩
  · obtain ⟨⟨v, rfl⟩, hW₂, e2, q2, q3, q4, q5, q6⟩ := id hfe
    have e3 : s₂ = ({ (U.calling g mk a).setFrames s₂.frames with heap := s₂.heap, slotsUsed := s₂.slotsUsed } : State).setVm s₂.vm := by
      have : s₂ = ({ s₂ with vm := (U.calling g mk a).vm } : State).setVm s₂.vm := rfl
      rw [e2] at this
      exact this
    obtain ⟨c₂, i₂, len₂, hc₂, hd₂, hf₂⟩ := hend
    have hW' : U.WarmedH s₂.vm := hW₂
    have hcc : c₂ = c := by
      have h1 : s₂.code? g.method = U.code? g.method := by
        rw [State.code?_eq, State.code?_eq, hW'.alike.method?]
      exact Option.some.inj (hc₂.symm.trans (h1.trans h.code))
    subst hcc
    have hlen : len₂ = len := by rw [hdg] at hd₂; cases hd₂; rfl
    subst hlen
    have hs₂ : s₂ = (({ U with heap := s₂.heap, slotsUsed := s₂.slotsUsed } : State).setVm s₂.vm).setTop { g with pc := g.pc + len₂, stack := v.toList ++ g.stack } := by
      refine e3.trans ?_
      rw [hf₂, State.calling_eq h.top, State.setFrames_setFrames, State.setTop_of_frames _ hr', hr]
      rfl
    have hsame : U.sameButNew ({ U with heap := s₂.heap, slotsUsed := s₂.slotsUsed } : State) L mc ms := by
      refine ⟨?_, q2, q3, q4, q5, q6⟩
      obtain ⟨t, ht, -⟩ := State.frames_cons hr
      show ({ U with heap := s₂.heap, slotsUsed := s₂.slotsUsed } : State) = { U.setFrames U.frames with heap := s₂.heap, slotsUsed := s₂.slotsUsed }
      rw [State.setFrames_self ht]
    subst hg
    refine Or.inl ⟨v, ⟨(({ U with heap := s₂.heap, slotsUsed := s₂.slotsUsed } : State).setVm s₂.vm), Ls ++ L, c0 + mc, s0 + ms⟩,
      ⟨X.admits, X.cas, X.clock, X.frames, X.room, X.hears, X.method, X.code, (X.here.setHeapUsed s₂.heap s₂.slotsUsed).setVm hW'.alike, X.tail, State.WarmedH.trans X.warmed hW', X.limits, X.bytes, X.same.trans (hsame.setVm s.vm)⟩,
      ⟨g, mk, s₂, L, rfl, rfl, hqc, rfl, hL, rfl, rfl⟩, ?_⟩
    show Steps p.tables e below _ ((({ U with heap := s₂.heap, slotsUsed := s₂.slotsUsed } : State).setVm s₂.vm).setTop { g with pc := g.pc + len₂, stack := v.toList ++ g.stack })
    rw [← hs₂]
    exact hsteps
  · obtain ⟨e2, q2, q3, q4, q5, q6⟩ := id hsm
    have e3 : s₂ = ({ (U.calling g mk a).setFrames s₂.frames with heap := s₂.heap, slotsUsed := s₂.slotsUsed } : State).setVm s₂.vm := by
      have : s₂ = ({ s₂ with vm := (U.calling g mk a).vm } : State).setVm s₂.vm := rfl
      rw [e2] at this
      exact this
    have hf₂ : s₂.frames = .throwing q :: .java g :: U.frames.tail := hend
    have hW' : U.WarmedH s₂.vm := hW₂
    have hs₂ : s₂ = ((({ U with heap := s₂.heap, slotsUsed := s₂.slotsUsed } : State).setVm s₂.vm).setTop g).pushFrame (.throwing q) := by
      refine e3.trans ?_
      rw [hf₂, State.calling_eq h.top, State.setFrames_setFrames, State.pushFrame, State.frames_setTop _ hr', State.setTop_of_frames _ hr', State.setFrames_setFrames, hr]
      rfl
    have hsame : U.sameButNew ({ U with heap := s₂.heap, slotsUsed := s₂.slotsUsed } : State) L mc ms := by
      refine ⟨?_, q2, q3, q4, q5, q6⟩
      obtain ⟨t, ht, -⟩ := State.frames_cons hr
      show ({ U with heap := s₂.heap, slotsUsed := s₂.slotsUsed } : State) = { U.setFrames U.frames with heap := s₂.heap, slotsUsed := s₂.slotsUsed }
      rw [State.setFrames_self ht]
    subst hg
    refine Or.inr ⟨q, ⟨(({ U with heap := s₂.heap, slotsUsed := s₂.slotsUsed } : State).setVm s₂.vm), Ls ++ L, c0 + mc, s0 + ms⟩,
      ⟨X.admits, X.cas, X.clock, X.frames, X.room, X.hears, X.method, X.code, (X.here.setHeapUsed s₂.heap s₂.slotsUsed).setVm hW'.alike, X.tail, State.WarmedH.trans X.warmed hW', X.limits, X.bytes, X.same.trans (hsame.setVm s.vm)⟩,
      ⟨g, mk, s₂, L, E, ce, rfl, rfl, hx, hce, hcv, hcl, rfl, hL, rfl, rfl⟩, ?_⟩
    show Steps p.tables e below _ (((({ U with heap := s₂.heap, slotsUsed := s₂.slotsUsed } : State).setVm s₂.vm).setTop g).pushFrame (.throwing q))
    rw [← hs₂]
    exact hsteps
end Payer
section Calls
variable {p : Program} {l : Launch} {e : Env} {R : Room} {s : State} {m : MethodId} {args : Array Value} {below : List Frame} {meth : Method} {c : Code} {T : State} {locs : List Loc} {cells slots : Nat}
theorem vx_callV (X : Stand p l e R s m args below meth c T locs cells slots) (hexec : p.tables.exec = Jvm.exec) {own C : String} {index : Nat} {y : MethodName} {bytes : ByteArray} {maxL : Nat} {ret : Option FieldType}
    (hown : s.vm.findClass own = some m.cls) (hlink : (Cond.methodLink own index y).before args s = true) (hinst : (Cond.instanceMethod y).before args s = true) (hsel : (Cond.selects C y y).before args s = true)
    (hcode : (Cond.code y bytes maxL ret).before args s = true) (hy : y.cls ≠ "java/lang/invoke/MethodHandle" ∧ y.cls ≠ "java/lang/invoke/VarHandle")
    {W9 : Nat} {Pre : Pt → Array Value → Prop} {Post : Pt → Array Value → Option Value → Pt → Prop} {PostX : Pt → Array Value → Addr → Pt → Prop} (hK : vx_Back l R p e below s args y 3 W9 Pre Post PostX)
    {b : Addr} {cellB : Cell} (hcell : T.heap[b]? = some cellB) (hobj : cellB.vm.isStatics = false) (hcls : s.vm.findClass C = some cellB.cls)
    {g : JFrame} (hg : g.method = m) (hsize : g.locals.size = c.maxLocals) {argsL rest : List Value} (hlen : ∀ sig, parseMethodDescriptor y.desc = some sig → argsL.length = sig.parameters.length)
    (hstack : g.stack = argsL.reverse ++ .ref b :: rest) (hW : 2 * g.monitorRoom + (rest.map fun v => v.category).sum ≤ W9) (hdg : decode c.code g.pc = .ok (.invokevirtual index, 3))
    (hpre : ∀ vm₁, s.WarmedH vm₁ → Pre ⟨T.setVm vm₁, locs, cells, slots⟩ (Value.ref b :: argsL).toArray) :
    (∃ (v : Option Value) (vm₁ : Vm) (B : Pt), s.WarmedH vm₁ ∧ Stand p l e R s m args below meth c B.U B.locs B.cells B.slots ∧ Post ⟨T.setVm vm₁, locs, cells, slots⟩ (Value.ref b :: argsL).toArray v B ∧
      ∀ target, Steps p.tables e below (B.U.setTop { g with pc := g.pc + 3, stack := v.toList ++ rest }) target → Steps p.tables e below (T.setTop g) target) ∨
    (∃ (q : Addr) (vm₁ : Vm) (B : Pt), s.WarmedH vm₁ ∧ Stand p l e R s m args below meth c B.U B.locs B.cells B.slots ∧ PostX ⟨T.setVm vm₁, locs, cells, slots⟩ (Value.ref b :: argsL).toArray q B ∧
      Steps p.tables e below (T.setTop g) ((B.U.setTop { g with stack := rest }).pushFrame (.throwing q))) := by
  obtain ⟨mk, methM, hnamed, hmethM, hstM, habM⟩ := Cond.instanceMethod_spec hinst
  obtain ⟨methM', cM, hmethM', -, -, -, -, -, -, hsigM⟩ := Cond.code_spec hnamed hcode
  cases hmethM.symm.trans hmethM'
  obtain ⟨c2, r2, m2, q1, q2, q3, q4, kP, hkP, hkPi⟩ := Cond.selects_spec hsel
  cases hcls.symm.trans q1
  cases (State.methodFound?_of_named hnamed hy).symm.trans q2
  cases hnamed.symm.trans q3
  have hselP : selectMethod e.platform s.vm cellB.cls mk = .method mk := by rw [Launch.admits_selectMethod X.admits]; exact q4
  obtain ⟨vm₁, X₁, hstep₁⟩ := X.invokevirtual hexec hown hlink hnamed hmethM hstM hkP hkPi hy (a := b) (cell := cellB) hcell
    (fun z h => by rw [h] at hobj; cases hobj) hselP hmethM habM hkP hkPi (g := g) hg (argsL := argsL) (rest := rest) (hlen _ hsigM) hstack hdg
  rcases hK m meth c ⟨T.setVm vm₁, locs, cells, slots⟩ { g with stack := rest } (.invokevirtual index) mk (Value.ref b :: argsL).toArray X₁ hg hsize hdg hW (X₁.named hnamed) (hpre vm₁ X₁.warmed) with ⟨v, B, X', hpost, hsteps⟩ | ⟨q, B, X', hpost, hsteps⟩
  · exact Or.inl ⟨v, vm₁, B, X₁.warmed, X', hpost, fun target h => hstep₁ _ fun acts => by rw [doInvoke_state]; exact hsteps.trans h⟩
  · exact Or.inr ⟨q, vm₁, B, X₁.warmed, X', hpost, hstep₁ _ fun acts => by rw [doInvoke_state]; exact hsteps⟩
theorem vx_callS (X : Stand p l e R s m args below meth c T locs cells slots) (hexec : p.tables.exec = Jvm.exec) {own : String} {index : Nat} {y : MethodName} {bytes : ByteArray} {maxL : Nat} {ret : Option FieldType}
    (hown : s.vm.findClass own = some m.cls) (hlink : (Cond.methodLink own index y).before args s = true) (hstat : (Cond.static y).before args s = true) (hinit : (Cond.initialized y.cls).before args s = true)
    (hcode : (Cond.code y bytes maxL ret).before args s = true) (hy : y.cls ≠ "java/lang/invoke/MethodHandle" ∧ y.cls ≠ "java/lang/invoke/VarHandle")
    {W9 : Nat} {Pre : Pt → Array Value → Prop} {Post : Pt → Array Value → Option Value → Pt → Prop} {PostX : Pt → Array Value → Addr → Pt → Prop} (hK : vx_Back l R p e below s args y 3 W9 Pre Post PostX)
    {g : JFrame} (hg : g.method = m) (hsize : g.locals.size = c.maxLocals) {argsL rest : List Value} (hlen : ∀ sig, parseMethodDescriptor y.desc = some sig → argsL.length = sig.parameters.length)
    (hstack : g.stack = argsL.reverse ++ rest) (hW : 2 * g.monitorRoom + (rest.map fun v => v.category).sum ≤ W9) (hdg : decode c.code g.pc = .ok (.invokestatic index, 3))
    (hpre : ∀ vm₁, s.WarmedH vm₁ → Pre ⟨T.setVm vm₁, locs, cells, slots⟩ argsL.toArray) :
    (∃ (v : Option Value) (vm₁ : Vm) (B : Pt), s.WarmedH vm₁ ∧ Stand p l e R s m args below meth c B.U B.locs B.cells B.slots ∧ Post ⟨T.setVm vm₁, locs, cells, slots⟩ argsL.toArray v B ∧
      ∀ target, Steps p.tables e below (B.U.setTop { g with pc := g.pc + 3, stack := v.toList ++ rest }) target → Steps p.tables e below (T.setTop g) target) ∨
    (∃ (q : Addr) (vm₁ : Vm) (B : Pt), s.WarmedH vm₁ ∧ Stand p l e R s m args below meth c B.U B.locs B.cells B.slots ∧ PostX ⟨T.setVm vm₁, locs, cells, slots⟩ argsL.toArray q B ∧
      Steps p.tables e below (T.setTop g) ((B.U.setTop { g with stack := rest }).pushFrame (.throwing q))) := by
  obtain ⟨mk, hnamed⟩ := Cond.code_named hcode
  obtain ⟨methM, cM, hmethM, -, -, -, -, -, -, hsigM⟩ := Cond.code_spec hnamed hcode
  have hstatic : methM.isStatic = true := Cond.static_spec hnamed hmethM hstat
  obtain ⟨kP, hkP, -⟩ := className_of_methodNamed hnamed
  have hinitP : kP.init = .initialized := Cond.initialized_spec (findClass_of_methodNamed hnamed) hkP hinit
  obtain ⟨vm₁, X₁, hstep₁⟩ := X.invokestatic hexec hown hlink hnamed hmethM hstatic hkP hinitP hy (g := g) hg (argsL := argsL) (rest := rest) (hlen _ hsigM) hstack hdg
  rcases hK m meth c ⟨T.setVm vm₁, locs, cells, slots⟩ { g with stack := rest } (.invokestatic index) mk argsL.toArray X₁ hg hsize hdg hW (X₁.named hnamed) (hpre vm₁ X₁.warmed) with ⟨v, B, X', hpost, hsteps⟩ | ⟨q, B, X', hpost, hsteps⟩
  · exact Or.inl ⟨v, vm₁, B, X₁.warmed, X', hpost, fun target h => hstep₁ _ fun acts => by rw [doInvoke_state]; exact hsteps.trans h⟩
  · exact Or.inr ⟨q, vm₁, B, X₁.warmed, X', hpost, hstep₁ _ fun acts => by rw [doInvoke_state]; exact hsteps⟩
end Calls
theorem vx_cls {s : State} {T : State} {vm₁ : Vm} {E : String} {k : ClassId} (hW : s.WarmedH vm₁) (h : (T.setVm vm₁).vm.findClass E = some k) : s.vm.findClass E = some k := by
  have h1 : vm₁.findClass E = some k := h
  rw [hW.alike.findClass] at h1
  exact h1
/-- the method's frame g, with q thrown over it -/
def vx_W (p : Program) (l : Launch) (e : Env) (R : Room) (s : State) (m : MethodId) (args : Array Value) (below : List Frame) (meth : Method) (c : Code) (H : Heap) (locs : List Loc) (cells slots : Nat) (Q : State → Prop) (g : JFrame) (q : Addr) : Prop :=
  ∀ T : State, T.heap = H → Stand p l e R s m args below meth c T locs cells slots → ∃ t, Steps p.tables e below ((T.setTop g).pushFrame (.throwing q)) t ∧ Q t
def vx_Run (p : Program) (l : Launch) (e : Env) (R : Room) (s : State) (m : MethodId) (args : Array Value) (below : List Frame) (meth : Method) (c : Code) (H : Heap) (locs : List Loc) (cells slots mc ms : Nat) (g : JFrame) (rest : List Value) (Qa : State → Outcome → State → Prop) (XC : String → State → State → Prop) (free : Addr → Prop) : Prop :=
  ∀ T : State, T.heap = H → Stand p l e R s m args below meth c T locs cells slots →
    (∃ (v : Option Value) (st₀ t T' : State) (L : List Loc), st₀.heap = H ∧ Stand p l e R s m args below meth c T' (locs ++ L) (cells + mc) (slots + ms) ∧ (∀ q ∈ L, free q.base) ∧ T'.heap = t.heap ∧ T'.vm = t.vm ∧ Qa st₀ (.returned v) t ∧
      Goes p e below T g T' { g with pc := g.pc + 3, stack := v.toList ++ rest }) ∨
    (∃ (q : Addr) (st₀ t T' : State) (L : List Loc) (E : String) (ce : Cell), st₀.heap = H ∧ Stand p l e R s m args below meth c T' (locs ++ L) (cells + mc) (slots + ms) ∧ (∀ z ∈ L, free z.base) ∧ T'.heap = t.heap ∧ T'.vm = t.vm ∧ XC E st₀ t ∧ t.heap[q]? = some ce ∧ ce.vm = .none ∧ s.vm.findClass E = some ce.cls ∧
      Steps p.tables e below (T.setTop g) ((T'.setTop { g with stack := rest }).pushFrame (.throwing q)))
def vx_X {S : Type} (px : S → Prop) (B : String → S → State → Prop) (A : Nat → Prop) : String → State → State → Prop := fun E st t => ∃ u : S, px u ∧ B E u t ∧ va_F A st t
section Runs
variable {p : Program} {l : Launch} {e : Env} {R : Room} {s : State} {m : MethodId} {args : Array Value} {below : List Frame} {meth : Method} {c : Code} {H : Heap} {locs : List Loc} {cells slots : Nat}
variable {y : MethodName} {bytes cc : ByteArray} {maxL nL mc ms n index : Nat} {ret : Option FieldType} {ws : List Cond} {rm : Room} {Pc : Array Value → State → Prop} {Qc : Array Value → State → Outcome → State → Prop} {XC : String → State → State → Prop} {free : Addr → Prop} {Ts : List Cond} {own C : String} {b : Addr} {As rest : List Value} {g : JFrame}
theorem vx_callBack (cb : CallB R s args own index y bytes maxL ret ws rm mc ms n) (hM : vx_Met l y ws rm Pc Qc XC mc ms free) (hbl : FrameBlind Pc) : vx_Back l R p e below s args y 3 8 (PreOf R mc ms Pc) (PostOf Qc mc ms free) (vx_Post XC mc ms free) := by
  obtain ⟨hrc, hrs, hfr, hlo, hws, hcw, -, hini, -⟩ := cb
  exact vx_back (bytes := bytes) (maxL := maxL) (ret := ret) hM hbl hrc hrs hfr hlo hws hcw (fun a' U hW => word_at hW (Or.inl (by first | rfl | simp [Cond.onTables, Cond.keeps, Cond.steady])) hini)
theorem vx_runV (S : CallFix p m c cc nL s args Ts own) (hM : vx_Met l y ws rm Pc Qc XC mc ms free) (cw : CallW R s args own C index y bytes maxL ret ws rm mc ms n) (hp : PreV s H C b Pc As)
    (hg : g.method = m) (hn : As.length = n) (hsize : g.locals.size = nL) (hstack : g.stack = As.reverse ++ .ref b :: rest) (hW : 2 * g.monitorRoom + (rest.map fun v => v.category).sum ≤ 8) (hdg : decode cc g.pc = .ok (.invokevirtual index, 3)) (hf : cells + mc ≤ R.cells ∧ slots + ms ≤ R.slots) :
    vx_Run p l e R s m args below meth c H locs cells slots mc ms g rest (Qc (Value.ref b :: As).toArray) XC free := by
  have hK : vx_Back l R p e below s args y 3 8 (PreOf R mc ms Pc) (PostOf Qc mc ms free) (vx_Post XC mc ms free) := vx_callBack cw.1 hM hp.1
  obtain ⟨⟨-, -, -, -, -, -, hcode, -, hy, hlen, hl⟩, hin, hse⟩ := cw
  obtain ⟨hx, hb, hml, ho, -⟩ := S
  obtain ⟨-, ⟨cellB, hcB, hoB, hclB⟩, hPc⟩ := hp
  intro T hT X
  rcases vx_callV X hx (C := C) (bytes := bytes) (maxL := maxL) (ret := ret) ho hl hin hse hcode hy hK (by rw [hT]; exact hcB) hoB hclB hg (hsize.trans hml.symm) (argsL := As) (rest := rest) (fun sig h => hn.trans (hlen sig h)) hstack hW (by rw [hb]; exact hdg)
    (fun vm₁ hW₁ => ⟨hf.1, hf.2, hPc (T.setVm vm₁) hT hW₁⟩) with ⟨v, vm₁, ⟨U', l2, c2, s2⟩, hW₁, X', ⟨g', mk, t, L, e1, e2, hq, h1, hL, h2, h3⟩, st⟩ | ⟨q, vm₁, ⟨U', l2, c2, s2⟩, hW₁, X', ⟨g', mk, t, L, E, ce, e1, e2, hq, hce, hcv, hcl, h1, hL, h2, h3⟩, st⟩
  · dsimp only [Pt.U, Pt.locs, Pt.cells, Pt.slots] at X' e1 e2 h1 h2 h3 st
    subst h1; subst h2; subst h3
    exact Or.inl ⟨v, (T.setVm vm₁).calling g' mk (Value.ref b :: As).toArray, t, U', L, hT, X', hL, e1, e2, hq, st⟩
  · dsimp only [Pt.U, Pt.locs, Pt.cells, Pt.slots] at X' e1 e2 h1 h2 h3 st hcl
    subst h1; subst h2; subst h3
    exact Or.inr ⟨q, (T.setVm vm₁).calling g' mk (Value.ref b :: As).toArray, t, U', L, E, ce, hT, X', hL, e1, e2, hq, hce, hcv, vx_cls hW₁ hcl, st⟩
theorem vx_runS (S : CallFix p m c cc nL s args Ts own) (hM : vx_Met l y ws rm Pc Qc XC mc ms free) (cw : CallB R s args own index y bytes maxL ret ws rm mc ms n ∧ (Cond.static y).before args s = true) (hp : PreS s H Pc As)
    (hg : g.method = m) (hn : As.length = n) (hsize : g.locals.size = nL) (hstack : g.stack = As.reverse ++ rest) (hW : 2 * g.monitorRoom + (rest.map fun v => v.category).sum ≤ 8) (hdg : decode cc g.pc = .ok (.invokestatic index, 3)) (hf : cells + mc ≤ R.cells ∧ slots + ms ≤ R.slots) :
    vx_Run p l e R s m args below meth c H locs cells slots mc ms g rest (Qc As.toArray) XC free := by
  have hK : vx_Back l R p e below s args y 3 8 (PreOf R mc ms Pc) (PostOf Qc mc ms free) (vx_Post XC mc ms free) := vx_callBack cw.1 hM hp.1
  obtain ⟨⟨-, -, -, -, -, -, hcode, hini, hy, hlen, hl⟩, hstt⟩ := cw
  obtain ⟨hx, hb, hml, ho, -⟩ := S
  intro T hT X
  rcases vx_callS X hx (bytes := bytes) (maxL := maxL) (ret := ret) ho hl hstt hini hcode hy hK hg (hsize.trans hml.symm) (argsL := As) (rest := rest) (fun sig h => hn.trans (hlen sig h)) hstack hW (by rw [hb]; exact hdg)
    (fun vm₁ hW₁ => ⟨hf.1, hf.2, hp.2 (T.setVm vm₁) hT hW₁⟩) with ⟨v, vm₁, ⟨U', l2, c2, s2⟩, hW₁, X', ⟨g', mk, t, L, e1, e2, hq, h1, hL, h2, h3⟩, st⟩ | ⟨q, vm₁, ⟨U', l2, c2, s2⟩, hW₁, X', ⟨g', mk, t, L, E, ce, e1, e2, hq, hce, hcv, hcl, h1, hL, h2, h3⟩, st⟩
  · dsimp only [Pt.U, Pt.locs, Pt.cells, Pt.slots] at X' e1 e2 h1 h2 h3 st
    subst h1; subst h2; subst h3
    exact Or.inl ⟨v, (T.setVm vm₁).calling g' mk As.toArray, t, U', L, hT, X', hL, e1, e2, hq, st⟩
  · dsimp only [Pt.U, Pt.locs, Pt.cells, Pt.slots] at X' e1 e2 h1 h2 h3 st hcl
    subst h1; subst h2; subst h3
    exact Or.inr ⟨q, (T.setVm vm₁).calling g' mk As.toArray, t, U', L, E, ce, hT, X', hL, e1, e2, hq, hce, hcv, vx_cls hW₁ hcl, st⟩
end Runs
section Rows
variable {p : Program} {l : Launch} {e : Env} {R : Room} {s : State} {m : MethodId} {args : Array Value} {below : List Frame} {meth : Method} {c : Code} {H : Heap} {locs : List Loc} {cells slots : Nat} {Q : State → Prop}
variable {mc ms : Nat} {free : Addr → Prop} {A0 A1 : Nat → Prop} {H0 : Heap} {a : Array Value} {pc : Nat} {ls : Array Slot} {st0 rest : List Value}
theorem vx_keep {st₀ t T' : State} {L : List Loc} (h0 : st₀.heap = H) (e1 : T'.heap = t.heap) (hS : va_S A0 H0 H locs) (hA : ∀ q, q < H.size → A1 q → A0 q) (hf : ∀ q, free q → A0 q) (hL : ∀ q ∈ L, free q.base) (hF : va_F A1 st₀ t) :
    H.size ≤ T'.heap.size ∧ (∀ q : Nat, q < H.size → ¬ A1 q → T'.heap[q]? = H[q]?) ∧ va_S A0 H0 T'.heap (locs ++ L) := by
  obtain ⟨hz, hk⟩ := hF
  rw [h0] at hz hk
  exact ⟨by rw [e1]; exact hz, fun q h1 h2 => by rw [e1]; exact hk q h1 h2,
    ⟨Nat.le_trans hS.1 (by rw [e1]; exact hz), fun q h1 h2 => by rw [e1, hk q (Nat.lt_of_lt_of_le h1 hS.1) (fun z => h2 (hA q (Nat.lt_of_lt_of_le h1 hS.1) z))]; exact hS.2.1 q h1 h2, fun q hq => by
      rcases List.mem_append.mp hq with h | h
      · exact hS.2.2 q h
      · exact hf _ (hL q h)⟩⟩
theorem vx_calli {S SX : Type} {post : Int32 → S → Prop} {px : SX → Prop} {B : S → State → Prop} {BX : String → SX → State → Prop} {AX : Nat → Prop} (hr : vx_Run p l e R s m args below meth c H locs cells slots mc ms (F0 m pc ls st0) rest (va_Qi post B A1 a) (vx_X px BX AX) free) (hS : va_S A0 H0 H locs) (hA : ∀ q, q < H.size → A1 q → A0 q) (hf : ∀ q, free q → A0 q) (hAX : ∀ q, q < H.size → AX q → A0 q)
    (kx : ∀ (E : String) (ce : Cell) (q9 : Addr) (u : SX) (t : State) (H1 : Heap) (locs1 : List Loc), t.heap = H1 → s.vm.Alike t.vm → px u → BX E u t → H.size ≤ H1.size → (∀ q : Nat, q < H.size → ¬ AX q → H1[q]? = H[q]?) → va_S A0 H0 H1 locs1 → H1[q9]? = some ce → ce.vm = .none → s.vm.findClass E = some ce.cls → vx_W p l e R s m args below meth c H1 locs1 (cells + mc) (slots + ms) Q (F0 m pc ls rest) q9)
    (kk : ∀ (r : Int32) (u : S) (t : State) (H1 : Heap) (locs1 : List Loc), t.heap = H1 → s.vm.Alike t.vm → post r u → B u t → H.size ≤ H1.size → (∀ q : Nat, q < H.size → ¬ A1 q → H1[q]? = H[q]?) → va_S A0 H0 H1 locs1 → W p l e R s m args below meth c H1 locs1 (cells + mc) (slots + ms) Q (F0 m (pc + 3) ls (.int r :: rest))) : W p l e R s m args below meth c H locs cells slots Q (F0 m pc ls st0) := by
  intro T hT X
  rcases hr T hT X with ⟨v, st₀, t, T', L, h0, X', hL, e1, e2, ⟨⟨r, u, hv, hp, hb⟩, hF⟩, st⟩ | ⟨q, st₀, t, T', L, E, ce, h0, X', hL, e1, e2, ⟨u, hp, hb, hF⟩, hce, hcv, hcl, st⟩
  · cases hv
    obtain ⟨k1, k2, k3⟩ := vx_keep h0 e1 hS hA hf hL hF
    obtain ⟨t2, a1, b1⟩ := kk r u t T'.heap (locs ++ L) e1.symm (by rw [← e2]; exact X'.warmed.alike) hp hb k1 k2 k3 T' rfl X'
    exact ⟨t2, st t2 a1, b1⟩
  · obtain ⟨k1, k2, k3⟩ := vx_keep h0 e1 hS hAX hf hL hF
    obtain ⟨t2, a1, b1⟩ := kx E ce q u t T'.heap (locs ++ L) e1.symm (by rw [← e2]; exact X'.warmed.alike) hp hb k1 k2 k3 (by rw [e1]; exact hce) hcv hcl T' rfl X'
    exact ⟨t2, st.trans a1, b1⟩
theorem vx_calll {S SX : Type} {post : Int64 → S → Prop} {px : SX → Prop} {B : S → State → Prop} {BX : String → SX → State → Prop} {AX : Nat → Prop} (hr : vx_Run p l e R s m args below meth c H locs cells slots mc ms (F0 m pc ls st0) rest (va_Ql post B A1 a) (vx_X px BX AX) free) (hS : va_S A0 H0 H locs) (hA : ∀ q, q < H.size → A1 q → A0 q) (hf : ∀ q, free q → A0 q) (hAX : ∀ q, q < H.size → AX q → A0 q)
    (kx : ∀ (E : String) (ce : Cell) (q9 : Addr) (u : SX) (t : State) (H1 : Heap) (locs1 : List Loc), t.heap = H1 → s.vm.Alike t.vm → px u → BX E u t → H.size ≤ H1.size → (∀ q : Nat, q < H.size → ¬ AX q → H1[q]? = H[q]?) → va_S A0 H0 H1 locs1 → H1[q9]? = some ce → ce.vm = .none → s.vm.findClass E = some ce.cls → vx_W p l e R s m args below meth c H1 locs1 (cells + mc) (slots + ms) Q (F0 m pc ls rest) q9)
    (kk : ∀ (r : Int64) (u : S) (t : State) (H1 : Heap) (locs1 : List Loc), t.heap = H1 → s.vm.Alike t.vm → post r u → B u t → H.size ≤ H1.size → (∀ q : Nat, q < H.size → ¬ A1 q → H1[q]? = H[q]?) → va_S A0 H0 H1 locs1 → W p l e R s m args below meth c H1 locs1 (cells + mc) (slots + ms) Q (F0 m (pc + 3) ls (.long r :: rest))) : W p l e R s m args below meth c H locs cells slots Q (F0 m pc ls st0) := by
  intro T hT X
  rcases hr T hT X with ⟨v, st₀, t, T', L, h0, X', hL, e1, e2, ⟨⟨r, u, hv, hp, hb⟩, hF⟩, st⟩ | ⟨q, st₀, t, T', L, E, ce, h0, X', hL, e1, e2, ⟨u, hp, hb, hF⟩, hce, hcv, hcl, st⟩
  · cases hv
    obtain ⟨k1, k2, k3⟩ := vx_keep h0 e1 hS hA hf hL hF
    obtain ⟨t2, a1, b1⟩ := kk r u t T'.heap (locs ++ L) e1.symm (by rw [← e2]; exact X'.warmed.alike) hp hb k1 k2 k3 T' rfl X'
    exact ⟨t2, st t2 a1, b1⟩
  · obtain ⟨k1, k2, k3⟩ := vx_keep h0 e1 hS hAX hf hL hF
    obtain ⟨t2, a1, b1⟩ := kx E ce q u t T'.heap (locs ++ L) e1.symm (by rw [← e2]; exact X'.warmed.alike) hp hb k1 k2 k3 (by rw [e1]; exact hce) hcv hcl T' rfl X'
    exact ⟨t2, st.trans a1, b1⟩
theorem vx_callf {S SX : Type} {post : UInt32 → S → Prop} {px : SX → Prop} {B : S → State → Prop} {BX : String → SX → State → Prop} {AX : Nat → Prop} (hr : vx_Run p l e R s m args below meth c H locs cells slots mc ms (F0 m pc ls st0) rest (va_Qf post B A1 a) (vx_X px BX AX) free) (hS : va_S A0 H0 H locs) (hA : ∀ q, q < H.size → A1 q → A0 q) (hf : ∀ q, free q → A0 q) (hAX : ∀ q, q < H.size → AX q → A0 q)
    (kx : ∀ (E : String) (ce : Cell) (q9 : Addr) (u : SX) (t : State) (H1 : Heap) (locs1 : List Loc), t.heap = H1 → s.vm.Alike t.vm → px u → BX E u t → H.size ≤ H1.size → (∀ q : Nat, q < H.size → ¬ AX q → H1[q]? = H[q]?) → va_S A0 H0 H1 locs1 → H1[q9]? = some ce → ce.vm = .none → s.vm.findClass E = some ce.cls → vx_W p l e R s m args below meth c H1 locs1 (cells + mc) (slots + ms) Q (F0 m pc ls rest) q9)
    (kk : ∀ (r : UInt32) (u : S) (t : State) (H1 : Heap) (locs1 : List Loc), t.heap = H1 → s.vm.Alike t.vm → post r u → B u t → H.size ≤ H1.size → (∀ q : Nat, q < H.size → ¬ A1 q → H1[q]? = H[q]?) → va_S A0 H0 H1 locs1 → W p l e R s m args below meth c H1 locs1 (cells + mc) (slots + ms) Q (F0 m (pc + 3) ls (.float r :: rest))) : W p l e R s m args below meth c H locs cells slots Q (F0 m pc ls st0) := by
  intro T hT X
  rcases hr T hT X with ⟨v, st₀, t, T', L, h0, X', hL, e1, e2, ⟨⟨r, u, hv, hp, hb⟩, hF⟩, st⟩ | ⟨q, st₀, t, T', L, E, ce, h0, X', hL, e1, e2, ⟨u, hp, hb, hF⟩, hce, hcv, hcl, st⟩
  · cases hv
    obtain ⟨k1, k2, k3⟩ := vx_keep h0 e1 hS hA hf hL hF
    obtain ⟨t2, a1, b1⟩ := kk r u t T'.heap (locs ++ L) e1.symm (by rw [← e2]; exact X'.warmed.alike) hp hb k1 k2 k3 T' rfl X'
    exact ⟨t2, st t2 a1, b1⟩
  · obtain ⟨k1, k2, k3⟩ := vx_keep h0 e1 hS hAX hf hL hF
    obtain ⟨t2, a1, b1⟩ := kx E ce q u t T'.heap (locs ++ L) e1.symm (by rw [← e2]; exact X'.warmed.alike) hp hb k1 k2 k3 (by rw [e1]; exact hce) hcv hcl T' rfl X'
    exact ⟨t2, st.trans a1, b1⟩
theorem vx_calld {S SX : Type} {post : UInt64 → S → Prop} {px : SX → Prop} {B : S → State → Prop} {BX : String → SX → State → Prop} {AX : Nat → Prop} (hr : vx_Run p l e R s m args below meth c H locs cells slots mc ms (F0 m pc ls st0) rest (va_Qd post B A1 a) (vx_X px BX AX) free) (hS : va_S A0 H0 H locs) (hA : ∀ q, q < H.size → A1 q → A0 q) (hf : ∀ q, free q → A0 q) (hAX : ∀ q, q < H.size → AX q → A0 q)
    (kx : ∀ (E : String) (ce : Cell) (q9 : Addr) (u : SX) (t : State) (H1 : Heap) (locs1 : List Loc), t.heap = H1 → s.vm.Alike t.vm → px u → BX E u t → H.size ≤ H1.size → (∀ q : Nat, q < H.size → ¬ AX q → H1[q]? = H[q]?) → va_S A0 H0 H1 locs1 → H1[q9]? = some ce → ce.vm = .none → s.vm.findClass E = some ce.cls → vx_W p l e R s m args below meth c H1 locs1 (cells + mc) (slots + ms) Q (F0 m pc ls rest) q9)
    (kk : ∀ (r : UInt64) (u : S) (t : State) (H1 : Heap) (locs1 : List Loc), t.heap = H1 → s.vm.Alike t.vm → post r u → B u t → H.size ≤ H1.size → (∀ q : Nat, q < H.size → ¬ A1 q → H1[q]? = H[q]?) → va_S A0 H0 H1 locs1 → W p l e R s m args below meth c H1 locs1 (cells + mc) (slots + ms) Q (F0 m (pc + 3) ls (.double r :: rest))) : W p l e R s m args below meth c H locs cells slots Q (F0 m pc ls st0) := by
  intro T hT X
  rcases hr T hT X with ⟨v, st₀, t, T', L, h0, X', hL, e1, e2, ⟨⟨r, u, hv, hp, hb⟩, hF⟩, st⟩ | ⟨q, st₀, t, T', L, E, ce, h0, X', hL, e1, e2, ⟨u, hp, hb, hF⟩, hce, hcv, hcl, st⟩
  · cases hv
    obtain ⟨k1, k2, k3⟩ := vx_keep h0 e1 hS hA hf hL hF
    obtain ⟨t2, a1, b1⟩ := kk r u t T'.heap (locs ++ L) e1.symm (by rw [← e2]; exact X'.warmed.alike) hp hb k1 k2 k3 T' rfl X'
    exact ⟨t2, st t2 a1, b1⟩
  · obtain ⟨k1, k2, k3⟩ := vx_keep h0 e1 hS hAX hf hL hF
    obtain ⟨t2, a1, b1⟩ := kx E ce q u t T'.heap (locs ++ L) e1.symm (by rw [← e2]; exact X'.warmed.alike) hp hb k1 k2 k3 (by rw [e1]; exact hce) hcv hcl T' rfl X'
    exact ⟨t2, st.trans a1, b1⟩
theorem vx_callv {S SX : Type} {post : S → Prop} {px : SX → Prop} {B : S → State → Prop} {BX : String → SX → State → Prop} {AX : Nat → Prop} (hr : vx_Run p l e R s m args below meth c H locs cells slots mc ms (F0 m pc ls st0) rest (va_Qv post B A1 a) (vx_X px BX AX) free) (hS : va_S A0 H0 H locs) (hA : ∀ q, q < H.size → A1 q → A0 q) (hf : ∀ q, free q → A0 q) (hAX : ∀ q, q < H.size → AX q → A0 q)
    (kx : ∀ (E : String) (ce : Cell) (q9 : Addr) (u : SX) (t : State) (H1 : Heap) (locs1 : List Loc), t.heap = H1 → s.vm.Alike t.vm → px u → BX E u t → H.size ≤ H1.size → (∀ q : Nat, q < H.size → ¬ AX q → H1[q]? = H[q]?) → va_S A0 H0 H1 locs1 → H1[q9]? = some ce → ce.vm = .none → s.vm.findClass E = some ce.cls → vx_W p l e R s m args below meth c H1 locs1 (cells + mc) (slots + ms) Q (F0 m pc ls rest) q9)
    (kk : ∀ (u : S) (t : State) (H1 : Heap) (locs1 : List Loc), t.heap = H1 → s.vm.Alike t.vm → post u → B u t → H.size ≤ H1.size → (∀ q : Nat, q < H.size → ¬ A1 q → H1[q]? = H[q]?) → va_S A0 H0 H1 locs1 → W p l e R s m args below meth c H1 locs1 (cells + mc) (slots + ms) Q (F0 m (pc + 3) ls (rest))) : W p l e R s m args below meth c H locs cells slots Q (F0 m pc ls st0) := by
  intro T hT X
  rcases hr T hT X with ⟨v, st₀, t, T', L, h0, X', hL, e1, e2, ⟨⟨u, hv, hp, hb⟩, hF⟩, st⟩ | ⟨q, st₀, t, T', L, E, ce, h0, X', hL, e1, e2, ⟨u, hp, hb, hF⟩, hce, hcv, hcl, st⟩
  · cases hv
    obtain ⟨k1, k2, k3⟩ := vx_keep h0 e1 hS hA hf hL hF
    obtain ⟨t2, a1, b1⟩ := kk u t T'.heap (locs ++ L) e1.symm (by rw [← e2]; exact X'.warmed.alike) hp hb k1 k2 k3 T' rfl X'
    exact ⟨t2, st t2 a1, b1⟩
  · obtain ⟨k1, k2, k3⟩ := vx_keep h0 e1 hS hAX hf hL hF
    obtain ⟨t2, a1, b1⟩ := kx E ce q u t T'.heap (locs ++ L) e1.symm (by rw [← e2]; exact X'.warmed.alike) hp hb k1 k2 k3 (by rw [e1]; exact hce) hcv hcl T' rfl X'
    exact ⟨t2, st.trans a1, b1⟩
/-- caught by the row x of this method's table; the rows ahead don't take it -/
theorem vx_catch {own name : String} {E : String} {ce : Cell} {q : Addr} (hown : s.vm.findClass own = some m.cls) (pre : List ExceptionTableEntry) (x : ExceptionTableEntry) (suf : List ExceptionTableEntry) (hsplit : c.exceptionTable.toList = pre ++ x :: suf)
    (hpass : ∀ z ∈ pre, covers z pc = false ∨ (z.catchType ≠ 0 ∧ ∃ nm : String, (Cond.classLink own z.catchType nm).before args s = true ∧ va_Nc E nm s)) (hx : covers x pc = true) (h0 : x.catchType ≠ 0)
    (hlink : (Cond.classLink own x.catchType name).before args s = true) (hcast : (Cond.castable E name).before args s = true) (hcell : H[q]? = some ce) (hv : ce.vm = .none) (hcl : s.vm.findClass E = some ce.cls)
    (kk : W p l e R s m args below meth c H locs cells slots Q (F0 m x.handlerPc ls [.ref q])) : vx_W p l e R s m args below meth c H locs cells slots Q (F0 m pc ls rest) q := by
  intro T hT X
  have hpl : e.platform.magicAccessors = ({} : Platform).magicAccessors := by rw [X.admits.platform]
  obtain ⟨c3, c4, hc3, hc4, hasg⟩ := Cond.castable_spec hcast
  cases Option.some.inj (hc3.symm.trans hcl)
  obtain ⟨c5, hc5, hcl5⟩ := Cond.classLink_spec hown hlink e.platform hpl
  cases Option.some.inj (hc4.symm.trans hc5)
  obtain ⟨vm', X', st⟩ := X.thenCaughtThrough q (g := F0 m pc ls rest) rfl (Steps.refl _) (by rw [hT]; exact hcell) (by rw [hv]; rfl) (by obtain ⟨k9, h9, -⟩ := Vm.findClass_spec hcl; exact ⟨k9, h9⟩) pre x suf hsplit
    (fun z hz => by
      rcases hpass z hz with h | ⟨hz0, nm, hl1, hn1⟩
      · exact Or.inl h
      · obtain ⟨c6, hc6, hcl6⟩ := Cond.classLink_spec hown hl1 e.platform hpl
        obtain ⟨a8, b8, h1, h2, h3⟩ := hn1
        cases Option.some.inj (h1.symm.trans hcl)
        cases Option.some.inj (h2.symm.trans hc6)
        exact Or.inr ⟨hz0, _, hcl6, h3⟩) hx (Or.inr ⟨h0, c4, hcl5, hasg⟩)
  obtain ⟨t, a1, b1⟩ := kk (T.setVm vm') hT X'
  exact ⟨t, st.trans a1, b1⟩
end Rows
section Ends
variable {p : Program} {l : Launch} {e : Env} {R : Room} {s : State} {m : MethodId} {args : Array Value} {below : List Frame} {meth : Method} {c : Code} {H : Heap} {locs : List Loc} {cells slots : Nat} {Q : State → Prop}
variable {mc ms : Nat} {free : Addr → Prop} {A0 A1 : Nat → Prop} {H0 : Heap} {a : Array Value} {ls : Array Slot} {st0 rest : List Value}
variable {Qc : Array Value → State → Outcome → State → Prop} {XC : String → State → State → Prop}
/-- what a body that may throw owes at its end -/
def vx_MQ (below : List Frame) (Qc : Array Value → State → Outcome → State → Prop) (XC : String → State → State → Prop) (a : Array Value) (s : State) (mc ms : Nat) (free : Addr → Prop) : State → Prop := fun t =>
  ∃ o, t.status = .running ∧ Ended t below o ∧ vx_Q Qc XC mc ms free a s o t
theorem vx_ret {g : JFrame} {mc ms : Nat} (k : W p l e R s m args below meth c H locs cells slots (MQ below Qc args s mc ms free) g) : W p l e R s m args below meth c H locs cells slots (vx_MQ below Qc XC args s mc ms free) g := by
  intro T hT X
  obtain ⟨t, a1, o, b1, b2, b3, b4⟩ := k T hT X
  exact ⟨t, a1, o, b1, b2, Or.inl ⟨b3, b4⟩⟩
/-- not caught here: it goes on to the caller -/
theorem vx_widen {g : JFrame} {q : Addr} {k n : Nat} (h1 : cells ≤ k) (h2 : slots ≤ n) (kk : vx_W p l e R s m args below meth c H locs k n Q g q) : vx_W p l e R s m args below meth c H locs cells slots Q g q := fun T hT X => kk T hT (stand_widen X h1 h2)
theorem vx_out {pc : Nat} {E : String} {ce : Cell} {q : Addr} {mc ms : Nat} (hout : ∀ x ∈ c.exceptionTable.toList, covers x pc = false) (hlocks : meth.locks = false) (hcell : H[q]? = some ce) (hv : ce.vm = .none) (hcl : s.vm.findClass E = some ce.cls)
    (hx : ∀ t : State, t.heap = H → s.vm.Alike t.vm → XC E s t) (hf : ∀ z ∈ locs, free z.base) (hc : cells ≤ mc) (hs : slots ≤ ms) :
    vx_W p l e R s m args below meth c H locs cells slots (vx_MQ below Qc XC args s mc ms free) (F0 m pc ls rest) q := by
  intro T hT X
  obtain ⟨st1, hrun, hend, hW, hsm⟩ := X.leaveThrown q (g := F0 m pc ls rest) rfl rfl rfl hout hlocks
  have hcell9 : (T.setFrames (.throwing q :: below)).heap[q]? = some ce := by
    show T.heap[q]? = some ce
    rw [hT]; exact hcell
  exact ⟨_, st1, .threw q, hrun, hend, Or.inr ⟨q, rfl, E, ce, locs, hx _ hT hW.alike, hcell9, hv, hcl, hW, hsm.mono hc hs, hf⟩⟩
theorem vx_frame {U : State} {k n : Nat} (h : s.sameButNew ({ U with vm := s.vm } : State) locs k n) : s.heap.size ≤ U.heap.size ∧ ∀ q : Nat, q < s.heap.size → (∀ z ∈ locs, z.base ≠ q) → U.heap[q]? = s.heap[q]? := by
  obtain ⟨-, h2, -, -, -, h6⟩ := h
  refine ⟨h2, fun q hq hz => ?_⟩
  obtain ⟨c9, e1, e2, e3, e4⟩ := h6 q _ (Array.getElem?_eq_getElem hq)
  have hs : c9.slots = (s.heap[q]).slots := Array.ext_getElem? fun i => e4 i fun hm => hz _ hm rfl
  have h9 : c9 = s.heap[q] := by
    rw [hs] at e2
    exact e2
  have e5 : U.heap[q]? = some c9 := e1
  rw [e5, h9, Array.getElem?_eq_getElem hq]
/-- the words of a throw but the four that speak of the heap -/
def vx_no (w : Cond) : Bool := decide (w ≠ .isRef (.static Bundle.tN "UNASSIGNED_STACK" Bundle.steD)) && decide (w ≠ .isRef (.static Bundle.tN "SUPPRESSED_SENTINEL" Bundle.listD)) && decide (w ≠ .laysStatic Bundle.tN "UNASSIGNED_STACK" Bundle.steD) && decide (w ≠ .laysStatic Bundle.tN "SUPPRESSED_SENTINEL" Bundle.listD)
def vx_at0 (own : String) (ic : Nat) (X : String) (names : List String) : List Cond := (Bundle.ownAtoms0 own ic X names).filter vx_no
def vx_atS (own : String) (ic : Nat) (X : String) (names : List String) : List Cond := (Bundle.ownAtoms own ic X names).filter vx_no
/-- a word that the tables alone decide, or a good one -/
def vx_ot (w : Cond) : Bool := w.onTables || goodWord w
theorem vx_ot_at {args a' : Array Value} {s U : State} {w : Cond} (hW : s.WarmedH U.vm) (hvm : s.vm = U.vm) (hg : vx_ot w = true) (h : w.before args s = true) : w.before a' U = true := by
  simp only [vx_ot, Bool.or_eq_true] at hg
  rcases hg with hg | hg
  · exact va_tabs hg hvm h
  · exact word_at hW (good_of_word hg) h
/-- a list's words: the good ones out of the method's own list, the others by premises of their own -/
theorem vx_hat {args : Array Value} {s : State} {L B : List Cond} (h1 : ∀ w ∈ L.filter goodWord, w.before args s = true) (h2 : ∀ w ∈ L.filter (fun w => !goodWord w), w ∈ B) (h3 : ∀ w ∈ B, w.before args s = true) : ∀ w ∈ L, w.before args s = true := by
  intro w hw
  by_cases g : goodWord w = true
  · exact h1 w (List.mem_filter.mpr ⟨hw, g⟩)
  · refine h3 w (h2 w (List.mem_filter.mpr ⟨hw, ?_⟩))
    show (!goodWord w) = true
    cases hgw : goodWord w
    · rfl
    · exact absurd hgw g
theorem vx_c {args : Array Value} {s : State} {w : Cond} {B : List Cond} (h : w.before args s = true) (t : ∀ w ∈ B, w.before args s = true) : ∀ w' ∈ w :: B, w'.before args s = true := fun w' h' => (List.mem_cons.mp h').elim (fun e => by rw [e]; exact h) (t w')
theorem vx_n {args : Array Value} {s : State} : ∀ w ∈ ([] : List Cond), w.before args s = true := fun _ h => nomatch h
theorem vx_own {args : Array Value} {s : State} {L : List Cond} (h1 : ∀ w ∈ L.filter vx_no, w.before args s = true)
    (hU : (Cond.isRef (.static Bundle.tN "UNASSIGNED_STACK" Bundle.steD)).before args s = true) (hN : (Cond.isRef (.static Bundle.tN "SUPPRESSED_SENTINEL" Bundle.listD)).before args s = true)
    (lU : (Cond.laysStatic Bundle.tN "UNASSIGNED_STACK" Bundle.steD).before args s = true) (lN : (Cond.laysStatic Bundle.tN "SUPPRESSED_SENTINEL" Bundle.listD).before args s = true) : ∀ w ∈ L, w.before args s = true := by
  intro w hw
  by_cases e1 : w = .isRef (.static Bundle.tN "UNASSIGNED_STACK" Bundle.steD)
  · rw [e1]; exact hU
  · by_cases e2 : w = .isRef (.static Bundle.tN "SUPPRESSED_SENTINEL" Bundle.listD)
    · rw [e2]; exact hN
    · by_cases e3 : w = .laysStatic Bundle.tN "UNASSIGNED_STACK" Bundle.steD
      · rw [e3]; exact lU
      · by_cases e4 : w = .laysStatic Bundle.tN "SUPPRESSED_SENTINEL" Bundle.listD
        · rw [e4]; exact lN
        · exact h1 w (List.mem_filter.mpr ⟨hw, by unfold vx_no; rw [decide_eq_true e1, decide_eq_true e2, decide_eq_true e3, decide_eq_true e4]; rfl⟩)
/-- where a static field lies, its class's statics cell in H -/
def vx_L (C n d : String) (A : Nat → Prop) (U : State) (H : Heap) : Prop := ∃ (c : ClassId) (k : Class) (i : Nat) (f : Field) (a : Nat) (cell : Cell), U.vm.findClass C = some c ∧ U.fieldFound? C n d = some (c, k, i, f) ∧ f.isStatic = true ∧ k.statics = some a ∧ H[a]? = some cell ∧ cell.vm.isStatics = true ∧ cell.cls = c ∧ f.slot < cell.slots.size ∧ k.staticTypes[f.slot]? = some f.type ∧ ¬ A a
theorem vx_L.moved {C n d : String} {A : Nat → Prop} {u U : State} {H : Heap} (hvm : u.vm.Alike U.vm) (h : vx_L C n d A u H) : vx_L C n d A U H := by
  obtain ⟨c, k, i, f, a, cell, h1, h2, h3, h4, h5, h6, h7, h8, h9, h10⟩ := h
  obtain ⟨k', hi', he⟩ := State.fieldFound?_setVm hvm h2
  exact ⟨c, k', i, f, a, cell, by rw [hvm.findClass]; exact h1, hi', h3, by rw [he]; exact h4, h5, h6, h7, h8, by rw [he]; exact h9, h10⟩
theorem vx_L.kept {C n d : String} {A : Nat → Prop} {U : State} {H H1 : Heap} (h : vx_L C n d A U H) (hq : ∀ a : Nat, a < H.size → ¬ A a → H1[a]? = H[a]?) : vx_L C n d A U H1 := by
  obtain ⟨c, k, i, f, a, cell, h1, h2, h3, h4, h5, h6, h7, h8, h9, h10⟩ := h
  exact ⟨c, k, i, f, a, cell, h1, h2, h3, h4, by rw [hq a (Array.getElem?_eq_some_iff.mp h5).1 h10]; exact h5, h6, h7, h8, h9, h10⟩
theorem vx_L.narrow {C n d : String} {A B : Nat → Prop} {U : State} {H : Heap} (h : vx_L C n d A U H) (hAB : ∀ q, B q → A q) : vx_L C n d B U H := by
  obtain ⟨c, k, i, f, a, cell, h1, h2, h3, h4, h5, h6, h7, h8, h9, h10⟩ := h
  exact ⟨c, k, i, f, a, cell, h1, h2, h3, h4, h5, h6, h7, h8, h9, fun z => h10 (hAB _ z)⟩
theorem vx_L.word {C n d : String} {A : Nat → Prop} {s : State} {args : Array Value} (h : vx_L C n d A s s.heap) : (Cond.laysStatic C n d).before args s = true := by
  obtain ⟨c, k, i, f, a, cell, h1, h2, h3, h4, h5, h6, h7, h8, h9, -⟩ := h
  show (Cond.laysStatic C n d).holds args s none s [] = true
  exact Cond.laysStatic_of h1 h2 h3 h4 h5 h6 h7 h8 h9
/-- .. and what it holds: null or some reference -/
def vx_Zq (C n d : String) (A : Nat → Prop) (U : State) (H : Heap) : Prop := va_Zq C n d A U H ∧ vx_L C n d A U H
theorem vx_Zq.moved {C n d : String} {A : Nat → Prop} {u U : State} {H : Heap} (hvm : u.vm.Alike U.vm) (h : vx_Zq C n d A u H) : vx_Zq C n d A U H := ⟨va_Zq.moved hvm h.1, vx_L.moved hvm h.2⟩
theorem vx_Zq.kept {C n d : String} {A : Nat → Prop} {U : State} {H H1 : Heap} (h : vx_Zq C n d A U H) (hq : ∀ a : Nat, a < H.size → ¬ A a → H1[a]? = H[a]?) : vx_Zq C n d A U H1 := ⟨va_Zq.kept h.1 hq, vx_L.kept h.2 hq⟩
theorem vx_Zq.narrow {C n d : String} {A B : Nat → Prop} {U : State} {H : Heap} (h : vx_Zq C n d A U H) (hAB : ∀ q, B q → A q) : vx_Zq C n d B U H := ⟨va_Zq.narrow h.1 hAB, vx_L.narrow h.2 hAB⟩
theorem vx_Zqof {args : Array Value} {s : State} {C n d : String} {A : Nat → Prop} (hl : (Cond.laysStatic C n d).before args s = true) (hini : (Cond.initialized C).before args s = true) (h : (Cond.isRef (.static C n d)).before args s = true) (hA : ∀ a : Nat, a < s.heap.size → ¬ A a) : vx_Zq C n d A s s.heap := by
  refine ⟨va_Zqof hl hini h hA, ?_⟩
  obtain ⟨c, k, i, f, a, cell, h1, h2, h3, h4, h5, h6, h7, h8, h9⟩ := Cond.laysStatic_spec hl
  exact ⟨c, k, i, f, a, cell, h1, h2, h3, h4, h5, h6, h7, h8, h9, hA a (Array.getElem?_eq_some_iff.mp h5).1⟩
theorem vx_isRef {C n d : String} {v : Value} {A : Nat → Prop} {s : State} {args : Array Value} (h : va_Z C n d v A s s.heap) (hv : v.isRef = true) : (Cond.isRef (.static C n d)).before args s = true := by
  obtain ⟨cf, kf, fi, f, a, cell, h1, h2, h3, h4, h5, h6, h7, -⟩ := h
  have he : (Term.static C n d).eval args s none [] s = some v := by
    simp [Term.eval, State.fieldNamed?, h1, h2, h4, h5, h6, h7]
  simp only [Cond.before, Cond.holds, Cond.value, he]
  cases v <;> simp_all [Value.isRef]
theorem vx_isRefq {C n d : String} {A : Nat → Prop} {s : State} {args : Array Value} (h : va_Zq C n d A s s.heap) : (Cond.isRef (.static C n d)).before args s = true := by
  rcases h with h | ⟨t, h⟩
  · exact vx_isRef h rfl
  · exact vx_isRef h rfl
/-- the same frame, seen from here: as if the method were called anew in this heap -/
theorem vx_rebase {T : State} (X : Stand p l e R s m args below meth c T locs cells slots) {R' : Room} (hf : R'.frames ≤ R.frames) (hl : R'.locals ≤ R.locals) (hc : cells + R'.cells ≤ R.cells) (hs : slots + R'.slots ≤ R.slots) :
    Stand p l e R' ((T.setVm s.vm).setFrames (.invoking m args :: below)) m args below meth c T [] 0 0 := by
  have htop : (T.setVm s.vm).topJava?.isSome := X.here.top
  have hF : ((T.setVm s.vm).setFrames (.invoking m args :: below)).frames = .invoking m args :: below := State.frames_setFrames _ (State.cur_lt_of_top htop)
  obtain ⟨g₀, hg0⟩ := Option.isSome_iff_exists.mp htop
  obtain ⟨r, hr⟩ := State.topJava?_eq_some.mp hg0
  have hl9 : e.platform.stackLimits (T.setVm s.vm).me = e.platform.stackLimits s.me := X.limits
  have hb9 : (T.setVm s.vm).me.stackBytes = s.me.stackBytes := X.bytes
  refine ⟨X.admits, X.cas, X.clock, hF, ?_, X.hears, X.method, X.code, X.here, X.tail, X.warmed, ?_, ?_, ?_⟩
  · have h := X.room
    have hU : ((T.setVm s.vm).setFrames (.invoking m args :: below)).localsInUse = s.localsInUse := by
      rw [State.localsInUse_invoking hF (meth := meth) (c := c) X.method X.code, State.localsInUse_invoking X.frames X.method X.code]
    simp only [State.hasRoom, Bool.and_eq_true, decide_eq_true_eq] at h ⊢
    obtain ⟨⟨⟨⟨h1, h2, h3, h4, h5, h6⟩, h7⟩, h8⟩, h9⟩ := h
    rw [X.frames, List.length_cons] at h2 h3
    have q1 := X.heapSize
    have q2 := X.used
    simp only [hF, hU, List.length_cons, State.stackLimits_setFrames, State.stackBytes_setFrames, hl9, hb9]
    refine ⟨⟨⟨⟨by omega, by omega, by omega, by omega, by omega, h6⟩, ?_⟩, ?_⟩, X.book⟩
    · show T.heap.size + R'.cells ≤ e.platform.maxCells
      omega
    · show T.slotsUsed + R'.slots ≤ e.platform.maxSlots
      omega
  · rw [State.stackLimits_setFrames]; rfl
  · rw [State.stackBytes_setFrames]; rfl
  · refine ⟨?_, Nat.le_refl _, Nat.le_refl _, ?_, ?_, fun a c9 h9 => ⟨c9, h9, rfl, rfl, fun _ _ => rfl⟩⟩
    · obtain ⟨t, ht, -⟩ := State.frames_cons hr
      show T.setVm s.vm = { ((T.setVm s.vm).setFrames (.invoking m args :: below)).setFrames (T.setVm s.vm).frames with heap := T.heap, slotsUsed := T.slotsUsed }
      rw [State.setFrames_setFrames, State.setFrames_self ht]
      rfl
    · show T.slotsUsed = T.slotsUsed + ((T.heap.toList.drop T.heap.size).map (·.slots.size)).sum
      rw [List.drop_eq_nil_of_le (Nat.le_of_eq Array.length_toList)]
      rfl
    · show ((T.heap.toList.drop T.heap.size).map (·.slots.size)).sum ≤ 0
      rw [List.drop_eq_nil_of_le (Nat.le_of_eq Array.length_toList)]
      exact Nat.le_refl _
/-- 'throw new E()': new; dup; invokespecial; athrow -/
theorem vx_throw0 {cc : ByteArray} {pc : Nat} (hexec : p.tables.exec = Jvm.exec) (hb : c.code = cc) (hl : l.stackTraces = false) {own cls : String} {names : List String} {ik ic mc ms : Nat} {A : Nat → Prop}
    (hown : s.vm.findClass own = some m.cls) (hcls : Bundle.fit cls = true) (hnames : ∀ n ∈ names, Bundle.fit n = true)
    (hk : (Cond.classLink own ik cls).before args s = true) (hini : (Cond.initialized cls).before args s = true) (hat : ∀ w ∈ vx_at0 own ic cls names, w.before args s = true)
    (hgood : ∀ w ∈ Cond.classLink own ik cls :: Cond.initialized cls :: vx_at0 own ic cls names, vx_ot w = true)
    (hU : vx_Zq Bundle.tN "UNASSIGNED_STACK" Bundle.steD A s s.heap) (hN : vx_Zq Bundle.tN "SUPPRESSED_SENTINEL" Bundle.listD A s s.heap) (hS : va_S A s.heap H locs) (hsize : ls.size = c.maxLocals)
    (d0 : decode cc pc = .ok (.new ik, 3)) (d3 : decode cc (pc + 3) = .ok (.dup, 1)) (d4 : decode cc (pc + 4) = .ok (.invokespecial ic, 3)) (d7 : decode cc (pc + 7) = .ok (.athrow, 1))
    (hout : ∀ x ∈ c.exceptionTable.toList, covers x (pc + 7) = false)
    (hRframes : names.length + 3 < R.frames) (hRlocals : (rest.map fun v => v.category).sum + (13 * (names.length + 1) + 42) ≤ R.locals) (hRcells : cells + 1 ≤ R.cells) (hRslots : slots + 6 ≤ R.slots) (hlocks : meth.locks = false)
    (hx : ∀ t : State, s.vm.Alike t.vm → H.size ≤ t.heap.size → (∀ q : Nat, q < H.size → t.heap[q]? = H[q]?) → XC cls s t)
    (hf : ∀ z ∈ locs, free z.base) (hc : cells + 1 ≤ mc) (hs : slots + 6 ≤ ms) :
    W p l e R s m args below meth c H locs cells slots (vx_MQ below Qc XC args s mc ms free) (F0 m pc ls rest) := by
  intro T hT X
  have htr : e.platform.stackTraces = false := (show e.platform.stackTraces = l.stackTraces by rw [X.admits.platform]).trans hl
  have Y := vx_rebase X (R' := { frames := R.frames, locals := R.locals, cells := 1, slots := 6 }) (Nat.le_refl _) (Nat.le_refl _) hRcells hRslots
  obtain ⟨s', hA⟩ : ∃ z, z = (T.setVm s.vm).setFrames (.invoking m args :: below) := ⟨_, rfl⟩
  rw [← hA] at Y
  have hvm : s'.vm = s.vm := by rw [hA]; rfl
  have hhp : s'.heap = H := by rw [hA]; exact hT
  have hW0 : s.WarmedH s'.vm := by rw [hvm]; exact State.WarmedH.refl s
  have hat' : ∀ w ∈ vx_at0 own ic cls names, w.before args s' = true := fun w hw => vx_ot_at hW0 hvm.symm (hgood w (List.mem_cons_of_mem _ (List.mem_cons_of_mem _ hw))) (hat w hw)
  have hk' : (Cond.classLink own ik cls).before args s' = true := vx_ot_at hW0 hvm.symm (hgood _ List.mem_cons_self) hk
  have hini' : (Cond.initialized cls).before args s' = true := vx_ot_at hW0 hvm.symm (hgood _ (List.mem_cons_of_mem _ List.mem_cons_self)) hini
  have hU' : vx_Zq Bundle.tN "UNASSIGNED_STACK" Bundle.steD A s' s'.heap := by rw [hhp]; exact vx_Zq.moved hW0.alike (hU.kept hS.2.1)
  have hN' : vx_Zq Bundle.tN "SUPPRESSED_SENTINEL" Bundle.listD A s' s'.heap := by rw [hhp]; exact vx_Zq.moved hW0.alike (hN.kept hS.2.1)
  have h : ∀ w ∈ Bundle.ownAtoms0 own ic cls names, w.before args s' = true := vx_own hat' (vx_isRefq hU'.1) (vx_isRefq hN'.1) hU'.2.word hN'.2.word
  have hown' : s'.vm.findClass own = some m.cls := by rw [hvm]; exact hown
  have hins : (Cond.instantiable cls 6).before args s' = true := h _ (by simp [Bundle.ownAtoms0])
  obtain ⟨vm₁, cX, kX, hfX, hkX, -, -, X₁, st1⟩ := Y.newCold hexec (own := own) (C := cls) (index := ik) (n := 6) hown' hk' hins hini'
    (g := F0 m pc ls rest) rfl (by rw [hb]; exact d0) (Nat.le_refl _) (Nat.le_refl _)
  generalize hT1 : (T.setVm vm₁).pushCell { cls := cX, slots := kX.instanceTypes.map defaultValue, vm := .none } = T1 at X₁ st1
  have hcat : (Value.ref T.heap.size).category = 1 := rfl
  have hcellA : T1.heap[T.heap.size]? = some (freshCell cX kX) := by rw [← hT1]; exact State.heap_pushCell_size _ _
  have d3' : decode c.code (pc + 3) = .ok (.dup, 1) := by rw [hb]; exact d3
  obtain ⟨U, hsteps, hrun, hend, hW, hsame, ce, hce, hO⟩ := X₁.ctorThrow0 hexec htr (own := own) (cls := cls) (names := names) (ic := ic) hown' hcls hnames h (fun x hx => nomatch hx) hfX hkX hcellA (by rw [hhp, hT]; exact Nat.le_refl _)
    (g := { method := m, pc := pc + 4, locals := ls, stack := .ref T.heap.size :: .ref T.heap.size :: rest, locked := none }) rfl hsize rfl rfl (rest := rest) rfl
    (by rw [hb]; exact d4) (by rw [hb]; exact d7) hout hRframes (by simp only [List.map_cons, List.sum_cons, hcat]; omega) hlocks
  obtain ⟨f1, f2⟩ := vx_frame hsame
  rw [hhp] at f1 f2
  have hWs : s.WarmedH U.vm := State.WarmedH.trans hW0 hW
  have hcl : s.vm.findClass cls = some ce.cls := by
    have h9 := hO.cls
    rw [hvm] at h9
    exact h9
  have hall : s.sameButNew ({ U with vm := s.vm } : State) locs mc ms := by
    subst hA
    obtain ⟨e1, e2⟩ := hsame
    rw [State.setFrames_setFrames] at e1
    have h2 : (T.setVm s.vm).sameButNew ({ U with vm := s.vm } : State) [] (0 + 1) (0 + 6) := ⟨e1, e2⟩
    have h3 := X.same.trans h2
    rw [List.append_nil] at h3
    exact h3.mono hc hs
  refine ⟨U, ?_, .threw T.heap.size, hrun, hend, Or.inr ⟨T.heap.size, rfl, cls, ce, locs, hx U hWs.alike f1 (fun q hq => f2 q hq (fun z hz => nomatch hz)), hce, hO.vm, hcl, hWs, hall, hf⟩⟩
  refine st1 _ ?_
  show Steps p.tables e below (T1.setTop { method := m, pc := pc + 3, locals := ls, stack := .ref T.heap.size :: rest, locked := none }) _
  jvm_step X₁.here [X₁.here.top, hexec, d3', Value.category]
  exact hsteps
/-- 'throw new E("text")': new; dup; ldc; invokespecial; athrow -/
theorem vx_throwS {cc : ByteArray} {pc : Nat} (hexec : p.tables.exec = Jvm.exec) (hb : c.code = cc) (hl : l.stackTraces = false) {own cls text : String} {names : List String} {ik is ic mc ms sa : Nat} {A : Nat → Prop}
    (hown : s.vm.findClass own = some m.cls) (hcls : Bundle.fit cls = true) (hnames : ∀ n ∈ names, Bundle.fit n = true)
    (hk : (Cond.classLink own ik cls).before args s = true) (hini : (Cond.initialized cls).before args s = true) (hstr : vk_R own is text sa s) (hat : ∀ w ∈ vx_atS own ic cls names, w.before args s = true)
    (hgood : ∀ w ∈ Cond.classLink own ik cls :: Cond.initialized cls :: vx_atS own ic cls names, vx_ot w = true)
    (hU : vx_Zq Bundle.tN "UNASSIGNED_STACK" Bundle.steD A s s.heap) (hN : vx_Zq Bundle.tN "SUPPRESSED_SENTINEL" Bundle.listD A s s.heap) (hS : va_S A s.heap H locs) (hsize : ls.size = c.maxLocals)
    (d0 : decode cc pc = .ok (.new ik, 3)) (d3 : decode cc (pc + 3) = .ok (.dup, 1)) (d4 : decode cc (pc + 4) = .ok (.ldc is, 2)) (d6 : decode cc (pc + 6) = .ok (.invokespecial ic, 3)) (d9 : decode cc (pc + 9) = .ok (.athrow, 1))
    (hout : ∀ x ∈ c.exceptionTable.toList, covers x (pc + 9) = false)
    (hRframes : names.length + 3 < R.frames) (hRlocals : (rest.map fun v => v.category).sum + (13 * (names.length + 1) + 43) ≤ R.locals) (hRcells : cells + 1 ≤ R.cells) (hRslots : slots + 6 ≤ R.slots) (hlocks : meth.locks = false)
    (hx : ∀ t : State, s.vm.Alike t.vm → H.size ≤ t.heap.size → (∀ q : Nat, q < H.size → t.heap[q]? = H[q]?) → XC cls s t)
    (hf : ∀ z ∈ locs, free z.base) (hc : cells + 1 ≤ mc) (hs : slots + 6 ≤ ms) :
    W p l e R s m args below meth c H locs cells slots (vx_MQ below Qc XC args s mc ms free) (F0 m pc ls rest) := by
  intro T hT X
  have htr : e.platform.stackTraces = false := (show e.platform.stackTraces = l.stackTraces by rw [X.admits.platform]).trans hl
  have Y := vx_rebase X (R' := { frames := R.frames, locals := R.locals, cells := 1, slots := 6 }) (Nat.le_refl _) (Nat.le_refl _) hRcells hRslots
  obtain ⟨s', hA⟩ : ∃ z, z = (T.setVm s.vm).setFrames (.invoking m args :: below) := ⟨_, rfl⟩
  rw [← hA] at Y
  have hvm : s'.vm = s.vm := by rw [hA]; rfl
  have hhp : s'.heap = H := by rw [hA]; exact hT
  have hW0 : s.WarmedH s'.vm := by rw [hvm]; exact State.WarmedH.refl s
  have hat' : ∀ w ∈ vx_atS own ic cls names, w.before args s' = true := fun w hw => vx_ot_at hW0 hvm.symm (hgood w (List.mem_cons_of_mem _ (List.mem_cons_of_mem _ hw))) (hat w hw)
  have hk' : (Cond.classLink own ik cls).before args s' = true := vx_ot_at hW0 hvm.symm (hgood _ List.mem_cons_self) hk
  have hini' : (Cond.initialized cls).before args s' = true := vx_ot_at hW0 hvm.symm (hgood _ (List.mem_cons_of_mem _ List.mem_cons_self)) hini
  have hU' : vx_Zq Bundle.tN "UNASSIGNED_STACK" Bundle.steD A s' s'.heap := by rw [hhp]; exact vx_Zq.moved hW0.alike (hU.kept hS.2.1)
  have hN' : vx_Zq Bundle.tN "SUPPRESSED_SENTINEL" Bundle.listD A s' s'.heap := by rw [hhp]; exact vx_Zq.moved hW0.alike (hN.kept hS.2.1)
  have h : ∀ w ∈ Bundle.ownAtoms own ic cls names, w.before args s' = true := vx_own hat' (vx_isRefq hU'.1) (vx_isRefq hN'.1) hU'.2.word hN'.2.word
  have hown' : s'.vm.findClass own = some m.cls := by rw [hvm]; exact hown
  have hins : (Cond.instantiable cls 6).before args s' = true := h _ (by simp [Bundle.ownAtoms])
  obtain ⟨vm₁, cX, kX, hfX, hkX, -, -, X₁, st1⟩ := Y.newCold hexec (own := own) (C := cls) (index := ik) (n := 6) hown' hk' hins hini'
    (g := F0 m pc ls rest) rfl (by rw [hb]; exact d0) (Nat.le_refl _) (Nat.le_refl _)
  generalize hT1 : (T.setVm vm₁).pushCell { cls := cX, slots := kX.instanceTypes.map defaultValue, vm := .none } = T1 at X₁ st1
  have hcat : (Value.ref T.heap.size).category = 1 := rfl
  have hcellA : T1.heap[T.heap.size]? = some (freshCell cX kX) := by rw [← hT1]; exact State.heap_pushCell_size _ _
  have d3' : decode c.code (pc + 3) = .ok (.dup, 1) := by rw [hb]; exact d3
  have d4' : decode c.code (pc + 4) = .ok (.ldc is, 2) := by rw [hb]; exact d4
  have hstr' : vk_R own is text sa s' := vk_R.warm hW0 hstr
  obtain ⟨U, hsteps, hrun, hend, hW, hsame, ce, hce, hO⟩ := X₁.ctorThrowS hexec htr (own := own) (cls := cls) (names := names) (ic := ic) hown' hcls hnames h (fun x hx => nomatch hx) hfX hkX hcellA (by rw [hhp, hT]; exact Nat.le_refl _) (msg := .ref sa) rfl
    (g := { method := m, pc := pc + 6, locals := ls, stack := .ref sa :: .ref T.heap.size :: .ref T.heap.size :: rest, locked := none }) rfl hsize rfl rfl (rest := rest) rfl
    (by rw [hb]; exact d6) (by rw [hb]; exact d9) hout hRframes (by simp only [List.map_cons, List.sum_cons, hcat]; omega) hlocks
  obtain ⟨f1, f2⟩ := vx_frame hsame
  rw [hhp] at f1 f2
  have hWs : s.WarmedH U.vm := State.WarmedH.trans hW0 hW
  have hcl : s.vm.findClass cls = some ce.cls := by
    have h9 := hO.cls
    rw [hvm] at h9
    exact h9
  have hall : s.sameButNew ({ U with vm := s.vm } : State) locs mc ms := by
    subst hA
    obtain ⟨e1, e2⟩ := hsame
    rw [State.setFrames_setFrames] at e1
    have h2 : (T.setVm s.vm).sameButNew ({ U with vm := s.vm } : State) [] (0 + 1) (0 + 6) := ⟨e1, e2⟩
    have h3 := X.same.trans h2
    rw [List.append_nil] at h3
    exact h3.mono hc hs
  refine ⟨U, ?_, .threw T.heap.size, hrun, hend, Or.inr ⟨T.heap.size, rfl, cls, ce, locs, hx U hWs.alike f1 (fun q hq => f2 q hq (fun z hz => nomatch hz)), hce, hO.vm, hcl, hWs, hall, hf⟩⟩
  refine st1 _ ?_
  show Steps p.tables e below (T1.setTop { method := m, pc := pc + 3, locals := ls, stack := .ref T.heap.size :: rest, locked := none }) _
  jvm_step X₁.here [X₁.here.top, hexec, d3', Value.category]
  exact X₁.ldcString hexec (own := own) (text := text) (index := is) (a := sa) hown' hstr'.1 hstr'.2
    (g := { method := m, pc := pc + 4, locals := ls, stack := .ref T.heap.size :: .ref T.heap.size :: rest, locked := none }) rfl d4' _ hsteps
/-- 'throw new E("text")', the text by a wide index -/
theorem vx_throwSW {cc : ByteArray} {pc : Nat} (hexec : p.tables.exec = Jvm.exec) (hb : c.code = cc) (hl : l.stackTraces = false) {own cls text : String} {names : List String} {ik is ic mc ms sa : Nat} {A : Nat → Prop}
    (hown : s.vm.findClass own = some m.cls) (hcls : Bundle.fit cls = true) (hnames : ∀ n ∈ names, Bundle.fit n = true)
    (hk : (Cond.classLink own ik cls).before args s = true) (hini : (Cond.initialized cls).before args s = true) (hstr : vk_R own is text sa s) (hat : ∀ w ∈ vx_atS own ic cls names, w.before args s = true)
    (hgood : ∀ w ∈ Cond.classLink own ik cls :: Cond.initialized cls :: vx_atS own ic cls names, vx_ot w = true)
    (hU : vx_Zq Bundle.tN "UNASSIGNED_STACK" Bundle.steD A s s.heap) (hN : vx_Zq Bundle.tN "SUPPRESSED_SENTINEL" Bundle.listD A s s.heap) (hS : va_S A s.heap H locs) (hsize : ls.size = c.maxLocals)
    (d0 : decode cc pc = .ok (.new ik, 3)) (d3 : decode cc (pc + 3) = .ok (.dup, 1)) (d4 : decode cc (pc + 4) = .ok (.ldc_w is, 3)) (d7 : decode cc (pc + 7) = .ok (.invokespecial ic, 3)) (d10 : decode cc (pc + 10) = .ok (.athrow, 1))
    (hout : ∀ x ∈ c.exceptionTable.toList, covers x (pc + 10) = false)
    (hRframes : names.length + 3 < R.frames) (hRlocals : (rest.map fun v => v.category).sum + (13 * (names.length + 1) + 43) ≤ R.locals) (hRcells : cells + 1 ≤ R.cells) (hRslots : slots + 6 ≤ R.slots) (hlocks : meth.locks = false)
    (hx : ∀ t : State, s.vm.Alike t.vm → H.size ≤ t.heap.size → (∀ q : Nat, q < H.size → t.heap[q]? = H[q]?) → XC cls s t)
    (hf : ∀ z ∈ locs, free z.base) (hc : cells + 1 ≤ mc) (hs : slots + 6 ≤ ms) :
    W p l e R s m args below meth c H locs cells slots (vx_MQ below Qc XC args s mc ms free) (F0 m pc ls rest) := by
  intro T hT X
  have htr : e.platform.stackTraces = false := (show e.platform.stackTraces = l.stackTraces by rw [X.admits.platform]).trans hl
  have Y := vx_rebase X (R' := { frames := R.frames, locals := R.locals, cells := 1, slots := 6 }) (Nat.le_refl _) (Nat.le_refl _) hRcells hRslots
  obtain ⟨s', hA⟩ : ∃ z, z = (T.setVm s.vm).setFrames (.invoking m args :: below) := ⟨_, rfl⟩
  rw [← hA] at Y
  have hvm : s'.vm = s.vm := by rw [hA]; rfl
  have hhp : s'.heap = H := by rw [hA]; exact hT
  have hW0 : s.WarmedH s'.vm := by rw [hvm]; exact State.WarmedH.refl s
  have hat' : ∀ w ∈ vx_atS own ic cls names, w.before args s' = true := fun w hw => vx_ot_at hW0 hvm.symm (hgood w (List.mem_cons_of_mem _ (List.mem_cons_of_mem _ hw))) (hat w hw)
  have hk' : (Cond.classLink own ik cls).before args s' = true := vx_ot_at hW0 hvm.symm (hgood _ List.mem_cons_self) hk
  have hini' : (Cond.initialized cls).before args s' = true := vx_ot_at hW0 hvm.symm (hgood _ (List.mem_cons_of_mem _ List.mem_cons_self)) hini
  have hU' : vx_Zq Bundle.tN "UNASSIGNED_STACK" Bundle.steD A s' s'.heap := by rw [hhp]; exact vx_Zq.moved hW0.alike (hU.kept hS.2.1)
  have hN' : vx_Zq Bundle.tN "SUPPRESSED_SENTINEL" Bundle.listD A s' s'.heap := by rw [hhp]; exact vx_Zq.moved hW0.alike (hN.kept hS.2.1)
  have h : ∀ w ∈ Bundle.ownAtoms own ic cls names, w.before args s' = true := vx_own hat' (vx_isRefq hU'.1) (vx_isRefq hN'.1) hU'.2.word hN'.2.word
  have hown' : s'.vm.findClass own = some m.cls := by rw [hvm]; exact hown
  have hins : (Cond.instantiable cls 6).before args s' = true := h _ (by simp [Bundle.ownAtoms])
  obtain ⟨vm₁, cX, kX, hfX, hkX, -, -, X₁, st1⟩ := Y.newCold hexec (own := own) (C := cls) (index := ik) (n := 6) hown' hk' hins hini'
    (g := F0 m pc ls rest) rfl (by rw [hb]; exact d0) (Nat.le_refl _) (Nat.le_refl _)
  generalize hT1 : (T.setVm vm₁).pushCell { cls := cX, slots := kX.instanceTypes.map defaultValue, vm := .none } = T1 at X₁ st1
  have hcat : (Value.ref T.heap.size).category = 1 := rfl
  have hcellA : T1.heap[T.heap.size]? = some (freshCell cX kX) := by rw [← hT1]; exact State.heap_pushCell_size _ _
  have d3' : decode c.code (pc + 3) = .ok (.dup, 1) := by rw [hb]; exact d3
  have d4' : decode c.code (pc + 4) = .ok (.ldc_w is, 3) := by rw [hb]; exact d4
  have hstr' : vk_R own is text sa s' := vk_R.warm hW0 hstr
  obtain ⟨U, hsteps, hrun, hend, hW, hsame, ce, hce, hO⟩ := X₁.ctorThrowS hexec htr (own := own) (cls := cls) (names := names) (ic := ic) hown' hcls hnames h (fun x hx => nomatch hx) hfX hkX hcellA (by rw [hhp, hT]; exact Nat.le_refl _) (msg := .ref sa) rfl
    (g := { method := m, pc := pc + 7, locals := ls, stack := .ref sa :: .ref T.heap.size :: .ref T.heap.size :: rest, locked := none }) rfl hsize rfl rfl (rest := rest) rfl
    (by rw [hb]; exact d7) (by rw [hb]; exact d10) hout hRframes (by simp only [List.map_cons, List.sum_cons, hcat]; omega) hlocks
  obtain ⟨f1, f2⟩ := vx_frame hsame
  rw [hhp] at f1 f2
  have hWs : s.WarmedH U.vm := State.WarmedH.trans hW0 hW
  have hcl : s.vm.findClass cls = some ce.cls := by
    have h9 := hO.cls
    rw [hvm] at h9
    exact h9
  have hall : s.sameButNew ({ U with vm := s.vm } : State) locs mc ms := by
    subst hA
    obtain ⟨e1, e2⟩ := hsame
    rw [State.setFrames_setFrames] at e1
    have h2 : (T.setVm s.vm).sameButNew ({ U with vm := s.vm } : State) [] (0 + 1) (0 + 6) := ⟨e1, e2⟩
    have h3 := X.same.trans h2
    rw [List.append_nil] at h3
    exact h3.mono hc hs
  refine ⟨U, ?_, .threw T.heap.size, hrun, hend, Or.inr ⟨T.heap.size, rfl, cls, ce, locs, hx U hWs.alike f1 (fun q hq => f2 q hq (fun z hz => nomatch hz)), hce, hO.vm, hcl, hWs, hall, hf⟩⟩
  refine st1 _ ?_
  show Steps p.tables e below (T1.setTop { method := m, pc := pc + 3, locals := ls, stack := .ref T.heap.size :: rest, locked := none }) _
  jvm_step X₁.here [X₁.here.top, hexec, d3', Value.category]
  exact X₁.ldcStringW hexec (own := own) (text := text) (index := is) (a := sa) hown' hstr'.1 hstr'.2
    (g := { method := m, pc := pc + 4, locals := ls, stack := .ref T.heap.size :: .ref T.heap.size :: rest, locked := none }) rfl d4' _ hsteps
end Ends
section Bodies
variable {l : Launch}
theorem vx_ofW {y : MethodName} {ws ws' : List Cond} {rm : Room} {Pc : Array Value → State → Prop} {Qc : Array Value → State → Outcome → State → Prop} {XC : String → State → State → Prop} {mc ms : Nat} {free : Addr → Prop} {cc : ByteArray} {maxL : Nat} {ret : Option FieldType}
    (hy : plainName y.cls = true) (hw : ws = Cond.code y cc maxL ret :: ws')
    (body : ∀ p e s m args below meth c s₁, BodyLoose p l y (headSpec ws rm) cc maxL ret e s m args below meth c s₁ → c.maxLocals = maxL → (∀ x ∈ c.exceptionTable.toList, False) → Pc args s →
      W p l e (headSpec ws rm).room s m args below meth c s.heap [] 0 0 (vx_MQ below Qc XC args s mc ms free) (entryFrame m args maxL)) : vx_Met l y ws rm Pc Qc XC mc ms free := by
  refine MetFree.of_bodyS (code := cc) (maxLocals := maxL) (ret := ret) hy ?_ ?_
  · intro args s m h hn
    obtain ⟨meth, c, h1, h2, h3, h4, h5, h6, -, -⟩ := Cond.code_spec hn (atoms_spec (ws := ws) h _ (by rw [hw]; exact List.mem_cons_self))
    exact ⟨meth, c, h1, h2, h3, h4, h5, h6⟩
  · intro p e s m args below meth c s₁ B hml hP _
    have hh0 : s₁.heap = s.heap := by rw [B.state]; rfl
    have ht : ∀ x ∈ c.exceptionTable.toList, False := by
      obtain ⟨meth9, c9, h1, h2, -, -, -, -, h7, -⟩ := Cond.code_spec B.named (atoms_spec (ws := ws) B.pre _ (by rw [hw]; exact List.mem_cons_self))
      cases Option.some.inj (h1.symm.trans B.method)
      cases Option.some.inj (h2.symm.trans (Stand.of_body B).code)
      intro x hx
      rw [Array.isEmpty_iff.mp h7] at hx
      cases hx
    obtain ⟨t, a1, o, b1, b2, b3⟩ := body p e s m args below meth c s₁ B hml ht hP s₁ hh0 (Stand.of_body B)
    exact ⟨t, o, a1, b1, b2, b3⟩
/-- the table of a body with handlers -/
theorem vx_table {p : Program} {x y : MethodName} {S : Spec} {cc bytes : ByteArray} {maxL maxL' : Nat} {ret ret' : Option FieldType} {e : Env} {s s₁ : State} {m : MethodId} {args : Array Value} {below : List Frame} {meth : Method} {c : Code} {hh : List (Nat × Nat × Nat × Nat)}
    (B : BodyLoose p l y S cc maxL ret e s m args below meth c s₁) (h : (Cond.codeWith y bytes maxL' ret' hh).before args s = true) : c.exceptionTable.toList = tableOf hh := by
  obtain ⟨m9, meth9, c9, hn9, h1, h2, -, -, h6, -⟩ := Cond.codeWith_spec h
  cases Option.some.inj (hn9.symm.trans B.named)
  cases Option.some.inj (h1.symm.trans B.method)
  cases Option.some.inj (h2.symm.trans (Stand.of_body B).code)
  rw [← h6, table_eq]
end Bodies
end VXA
/-! ===== END ===== -/
/-! ===== BEGIN a static call of a method with an exception table ===== -/
section VXS
variable {p : Program} {l : Launch} {e : Env} {R : Room} {s : State} {m : MethodId} {args : Array Value} {below : List Frame} {meth : Method} {c : Code} {T : State} {H : Heap} {locs : List Loc} {cells slots : Nat}
abbrev vx_CSW (R : Room) (s : State) (args : Array Value) (own : String) (index : Nat) (y : MethodName) (bytes : ByteArray) (maxL : Nat) (ret : Option FieldType) (hh : List (Nat × Nat × Nat × Nat)) (ws : List Cond) (rm : Room) (mc ms n : Nat) : Prop :=
  (rm.cells = mc ∧ rm.slots = ms ∧ rm.frames + 1 ≤ R.frames ∧ 8 + (maxL + 11) + rm.locals ≤ R.locals ∧ (∀ w ∈ ws, ∀ (a' : Array Value) (U : State), s.WarmedH U.vm → w.before a' U = true) ∧ Cond.codeWith y bytes maxL ret hh ∈ ws) ∧
  (Cond.codeWith y bytes maxL ret hh).before args s = true ∧ (Cond.initialized y.cls).before args s = true ∧ (y.cls ≠ "java/lang/invoke/MethodHandle" ∧ y.cls ≠ "java/lang/invoke/VarHandle") ∧
  (∀ sig, parseMethodDescriptor y.desc = some sig → n = sig.parameters.length) ∧ (Cond.methodLink own index y).before args s = true ∧ (Cond.static y).before args s = true
theorem vx_cwSW {own : String} {index maxL mc ms : Nat} {y : MethodName} {bytes : ByteArray} {ret : Option FieldType} {hh : List (Nat × Nat × Nat × Nat)} {Ts ws ws' : List Cond} {rm : Room} (n : Nat) (ht : ∀ w ∈ Ts, w.before args s = true) (hT : GoodIn Ts (va_wsS own index y ws)) (hw : ws = Cond.codeWith y bytes maxL ret hh :: ws') (hrc : rm.cells = mc) (hrs : rm.slots = ms)
    (hd : y.cls ≠ "java/lang/invoke/MethodHandle" ∧ y.cls ≠ "java/lang/invoke/VarHandle" ∧ (parseMethodDescriptor y.desc).map (fun d => d.parameters.length) = some n) (hR : rm.frames + 1 ≤ R.frames ∧ 8 + (maxL + 11) + rm.locals ≤ R.locals) :
    vx_CSW R s args own index y bytes maxL ret hh ws rm mc ms n := by
  have ok : ∀ w ∈ va_wsS own index y ws, w.before args s = true := fun w h => ht w (hT w h).1
  have hG : GoodIn Ts ws := fun w h => hT w (by unfold va_wsS; exact List.mem_append_right _ h)
  have hc : Cond.codeWith y bytes maxL ret hh ∈ ws := by rw [hw]; exact List.mem_cons_self
  refine ⟨⟨hrc, hrs, hR.1, hR.2, pay_in ht hG, hc⟩, ht _ (hG _ hc).1, ok _ (by simp [va_wsS]), ⟨hd.1, hd.2.1⟩, fun sig h => ?_, ok _ (by simp [va_wsS]), ok _ (by simp [va_wsS])⟩
  have h2 := hd.2.2
  rw [h] at h2
  exact (Option.some.inj h2).symm
theorem vx_callSW (X : Stand p l e R s m args below meth c T locs cells slots) (hexec : p.tables.exec = Jvm.exec) {own : String} {index : Nat} {y : MethodName} {bytes : ByteArray} {maxL : Nat} {ret : Option FieldType} {hh : List (Nat × Nat × Nat × Nat)}
    (hown : s.vm.findClass own = some m.cls) (hlink : (Cond.methodLink own index y).before args s = true) (hstat : (Cond.static y).before args s = true) (hinit : (Cond.initialized y.cls).before args s = true)
    (hcode : (Cond.codeWith y bytes maxL ret hh).before args s = true) (hy : y.cls ≠ "java/lang/invoke/MethodHandle" ∧ y.cls ≠ "java/lang/invoke/VarHandle")
    {W9 : Nat} {Pre : Pt → Array Value → Prop} {Post : Pt → Array Value → Option Value → Pt → Prop} (hK : Back l R p e below s args y 3 W9 Pre Post)
    {g : JFrame} (hg : g.method = m) (hsize : g.locals.size = c.maxLocals) {argsL rest : List Value} (hlen : ∀ sig, parseMethodDescriptor y.desc = some sig → argsL.length = sig.parameters.length)
    (hstack : g.stack = argsL.reverse ++ rest) (hW : 2 * g.monitorRoom + (rest.map fun v => v.category).sum ≤ W9) (hdg : decode c.code g.pc = .ok (.invokestatic index, 3))
    (hpre : ∀ vm₁, s.WarmedH vm₁ → Pre ⟨T.setVm vm₁, locs, cells, slots⟩ argsL.toArray) :
    ∃ (v : Option Value) (vm₁ : Vm) (B : Pt), s.WarmedH vm₁ ∧ Stand p l e R s m args below meth c B.U B.locs B.cells B.slots ∧ Post ⟨T.setVm vm₁, locs, cells, slots⟩ argsL.toArray v B ∧
      ∀ target, Steps p.tables e below (B.U.setTop { g with pc := g.pc + 3, stack := v.toList ++ rest }) target → Steps p.tables e below (T.setTop g) target := by
  obtain ⟨mk, methM, cM, hnamed, hmethM, -, -, -, -, -, -, hsigM⟩ := Cond.codeWith_spec hcode
  have hstatic : methM.isStatic = true := Cond.static_spec hnamed hmethM hstat
  obtain ⟨kP, hkP, -⟩ := className_of_methodNamed hnamed
  have hinitP : kP.init = .initialized := Cond.initialized_spec (findClass_of_methodNamed hnamed) hkP hinit
  obtain ⟨vm₁, X₁, hstep₁⟩ := X.invokestatic hexec hown hlink hnamed hmethM hstatic hkP hinitP hy (g := g) hg (argsL := argsL) (rest := rest) (hlen _ hsigM) hstack hdg
  obtain ⟨v, B, X', hpost, hsteps⟩ := hK m meth c ⟨T.setVm vm₁, locs, cells, slots⟩ { g with stack := rest } (.invokestatic index) mk argsL.toArray X₁ hg hsize hdg hW (X₁.named hnamed) (hpre vm₁ X₁.warmed)
  exact ⟨v, vm₁, B, X₁.warmed, X', hpost, fun target h => hstep₁ _ fun acts => by rw [doInvoke_state]; exact hsteps.trans h⟩
theorem vx_runSW {y : MethodName} {bytes cc : ByteArray} {maxL nL mc ms n index : Nat} {ret : Option FieldType} {hh : List (Nat × Nat × Nat × Nat)} {ws : List Cond} {rm : Room} {Pc : Array Value → State → Prop} {Qc : Array Value → State → Outcome → State → Prop} {free : Addr → Prop} {Ts : List Cond} {own : String} {As rest : List Value} {g : JFrame}
    (S : CallFix p m c cc nL s args Ts own) (hM : Met l y ws rm Pc Qc mc ms free) (cw : vx_CSW R s args own index y bytes maxL ret hh ws rm mc ms n) (hp : PreS s H Pc As)
    (hg : g.method = m) (hn : As.length = n) (hsize : g.locals.size = nL) (hstack : g.stack = As.reverse ++ rest) (hW : 2 * g.monitorRoom + (rest.map fun v => v.category).sum ≤ 8) (hdg : decode cc g.pc = .ok (.invokestatic index, 3)) (hf : cells + mc ≤ R.cells ∧ slots + ms ≤ R.slots) :
    va_Run p l e R s m args below meth c H locs cells slots mc ms g rest (Qc As.toArray) (free) := by
  obtain ⟨⟨hrc, hrs, hfr, hlo, hws, hcw⟩, hcode, hini, hy, hlen, hl, hstt⟩ := cw
  have hK : Back l R p e below s args y 3 8 (PreOf R mc ms Pc) (PostOf Qc mc ms free) := va_backW (hh := hh) (bytes := bytes) (maxL := maxL) (ret := ret) hM hp.1 hrc hrs hfr hlo hws hcw (fun a' U hW => word_at hW (Or.inl (by first | rfl | simp [Cond.onTables, Cond.keeps, Cond.steady])) hini)
  obtain ⟨hx, hb, hml, ho, -⟩ := S
  intro T hT X
  obtain ⟨v, vm₁, ⟨U', l2, c2, s2⟩, hW₁, X', ⟨g', mk, t, L, e1, e2, hq, h1, hL, h2, h3⟩, st⟩ := vx_callSW X hx (hh := hh) (bytes := bytes) (maxL := maxL) (ret := ret) ho hl hstt hini hcode hy hK hg (hsize.trans hml.symm) (argsL := As) (rest := rest) (fun sig h => hn.trans (hlen sig h)) hstack hW (by rw [hb]; exact hdg)
    (fun vm₁ hW₁ => ⟨hf.1, hf.2, hp.2 (T.setVm vm₁) hT hW₁⟩)
  dsimp only [Pt.U, Pt.locs, Pt.cells, Pt.slots] at X' e1 e2 h1 h2 h3 st
  subst h1; subst h2; subst h3
  exact ⟨v, (T.setVm vm₁).calling g' mk As.toArray, t, U', L, hT, X', hL, e1, e2, hq, st⟩
/-- not caught here, past rows that name other classes: it goes on to the caller -/
theorem vx_outP {p : Program} {l : Launch} {e : Env} {R : Room} {s : State} {m : MethodId} {args : Array Value} {below : List Frame} {meth : Method} {c : Code} {H : Heap} {locs : List Loc} {cells slots : Nat} {free : Addr → Prop} {ls : Array Slot} {rest : List Value} {Qc : Array Value → State → Outcome → State → Prop} {XC : String → State → State → Prop}
    {pc : Nat} {own E : String} {ce : Cell} {q : Addr} {mc ms : Nat} (hown : s.vm.findClass own = some m.cls) (hlocks : meth.locks = false)
    (hpass : ∀ z ∈ c.exceptionTable.toList, covers z pc = false ∨ (z.catchType ≠ 0 ∧ ∃ nm : String, (Cond.classLink own z.catchType nm).before args s = true ∧ va_Nc E nm s)) (hcell : H[q]? = some ce) (hv : ce.vm = .none) (hcl : s.vm.findClass E = some ce.cls)
    (hx : ∀ t : State, t.heap = H → s.vm.Alike t.vm → XC E s t) (hf : ∀ z ∈ locs, free z.base) (hc : cells ≤ mc) (hs : slots ≤ ms) :
    vx_W p l e R s m args below meth c H locs cells slots (vx_MQ below Qc XC args s mc ms free) (F0 m pc ls rest) q := by
  intro T hT X
  have hpl : e.platform.magicAccessors = ({} : Platform).magicAccessors := by rw [X.admits.platform]
  obtain ⟨vm', hW', X', st⟩ := X.outThrough hlocks q (g := F0 m pc ls rest) rfl rfl rfl (cell := ce) (by rw [hT]; exact hcell) (by rw [hv]; rfl)
    (by obtain ⟨k9, h9, -⟩ := Vm.findClass_spec hcl; exact ⟨k9, h9⟩) (fun z hz => by
      rcases hpass z hz with h | ⟨hz0, nm, hl1, hn1⟩
      · exact Or.inl h
      · obtain ⟨c6, hc6, hcl6⟩ := Cond.classLink_spec hown hl1 e.platform hpl
        obtain ⟨a8, b8, h1, h2, h3⟩ := hn1
        cases Option.some.inj (h1.symm.trans hcl)
        cases Option.some.inj (h2.symm.trans hc6)
        exact Or.inr ⟨hz0, _, hcl6, h3⟩)
  obtain ⟨g₀, hfr⟩ := X'.frames_eq
  have hcell9 : ((T.setVm vm').setFrames (.throwing q :: below)).heap[q]? = some ce := by
    show T.heap[q]? = some ce
    rw [hT]; exact hcell
  have hend : Ended ((T.setVm vm').setFrames (.throwing q :: below)) below (.threw q) := State.frames_setFrames _ (State.cur_lt_of_frames hfr)
  refine ⟨(T.setVm vm').setFrames (.throwing q :: below), ?_, .threw q, X'.here.running, hend, Or.inr ⟨q, rfl, E, ce, locs, hx _ hT (X'.ends _).1.alike, hcell9, hv, hcl, (X'.ends _).1, (X'.ends _).2.mono hc hs, hf⟩⟩
  rw [X.pushThrowing_eq]
  exact st
/-- a thing of a world lies in the heap -/
theorem vx_lt {D : va_G} {cl : List vw_C} {ws : va_W} {H1 : Heap} (h : va_P D cl ws H1) {k : Nat} {q : Nat × va_E} (hk : ws[k]? = some q) : q.1 < H1.size := (h k q hk).lt
end VXS
/-! ===== END ===== -/
/-! ===== BEGIN methods with a table of their own: called by a name, returning or throwing ===== -/
section VXH
/-! vx_backW, vx_callVX, vx_callSX, vx_callVW, vx_runVW, vx_runVX, vx_runSX, vx_ofWH follow the same proofs as their sisters above (Free/Laws.lean, Shelf42/LK1.lean); vx_outP calls Shelf42/NT130.lean (outThrough). -/
section
variable {l : Launch} {R : Room} {p : Program} {e : Env} {below : List Frame} {s : State} {sargs : Array Value} {y : MethodName} {len W9 : Nat}
theorem vx_backW {ws : List Cond} {rm : Room} {Pc : Array Value → State → Prop} {Qc : Array Value → State → Outcome → State → Prop} {XC : String → State → State → Prop} {mc ms : Nat} {free : Addr → Prop} {bytes : ByteArray} {maxL : Nat} {ret : Option FieldType} {hh : List (Nat × Nat × Nat × Nat)}
    (hM : vx_Met l y ws rm Pc Qc XC mc ms free) (hblind : FrameBlind Pc) (hrc : rm.cells = mc) (hrs : rm.slots = ms)
    (hframes : rm.frames + 1 ≤ R.frames) (hlocals : W9 + (maxL + 11) + rm.locals ≤ R.locals)
    (hws : ∀ w ∈ ws, ∀ a' U, s.WarmedH U.vm → w.before a' U = true) (hcode : Cond.codeWith y bytes maxL ret hh ∈ ws) (hinit : ∀ a' U, s.WarmedH U.vm → (Cond.initialized y.cls).before a' U = true) :
    vx_Back l R p e below s sargs y len W9 (PreOf R mc ms Pc) (PostOf Qc mc ms free) (vx_Post XC mc ms free) := by
  intro m meth c A g ig mk a X hg hsize hdg hW hn hp
  have h1 : (headSpec ws rm).pre.before a A.U = true := atoms_intro fun w hw => hws w hw _ _ X.warmed
  have h2 : (Cond.codeWith y bytes maxL ret hh).before a A.U = true := hws _ hcode _ _ X.warmed
  have h3 : (Cond.initialized y.cls).before a A.U = true := hinit _ _ X.warmed
  have h4 : A.cells + (headSpec ws rm).room.cells ≤ R.cells := by rw [show (headSpec ws rm).room.cells = mc from hrc]; exact hp.1
  have h5 : A.slots + (headSpec ws rm).room.slots ≤ R.slots := by rw [show (headSpec ws rm).room.slots = ms from hrs]; exact hp.2.1
  have hPc : Pc a (A.U.calling g mk a) := hblind _ _ _ _ hp.2.2
  obtain ⟨U, Ls, c0, s0⟩ := A
  dsimp only [Pt.U, Pt.locs, Pt.cells, Pt.slots] at h1 h2 h3 h4 h5 X hn hPc ⊢
  obtain ⟨m9, methY, cY, hn9, hmY, hcY, -, hlY, -⟩ := Cond.codeWith_spec h2
  cases Option.some.inj (hn9.symm.trans hn)
  obtain ⟨kY, hkY, -⟩ := className_of_methodNamed hn
  have hinitY : kY.init = .initialized := Cond.initialized_spec (findClass_of_methodNamed hn) hkY h3
  have h : At U g.method c below := by rw [hg]; exact X.here
  have hlocals9 : W9 + (maxL + 11) + (headSpec ws rm).room.locals ≤ R.locals := hlocals
  have happ : (headSpec ws rm).appliesLoose y e.platform (U.calling g mk a) = true :=
    Spec.appliesLoose_calling (g := g) h hdg hn hkY hinitY
      (X.room_calling (g := g) (R' := (headSpec ws rm).room) hsize hmY hcY hframes (by rw [hlY]; omega) h4 h5) h1
  obtain ⟨mid, hmid⟩ := h.above
  have hfr : (U.setTop g).frames = (.java g :: mid) ++ below := by rw [State.frames_setTop' g h.top, hmid]; rfl
  obtain ⟨o, s₂, hsteps, -, hend, hq⟩ := Steps.callFree hM p X.admits X.cas X.clock (acts := []) hfr happ hPc trivial
  have hq' : vx_Q Qc XC mc ms free a (U.calling g mk a) o s₂ := hq
  rw [State.frames_setTop' g h.top] at hend
  obtain ⟨g₀, hg0⟩ := Option.isSome_iff_exists.mp h.top
  obtain ⟨r, hr⟩ := State.topJava?_eq_some.mp hg0
  have hr' : (({ U with heap := s₂.heap, slotsUsed := s₂.slotsUsed } : State).setVm s₂.vm).frames = .java g₀ :: r := hr
  rcases hq' with ⟨hqc, L, hfe, hL⟩ | ⟨q, rfl, E, ce, L, hx, hce, hcv, hcl, hW₂, hsm, hL⟩
  · obtain ⟨⟨v, rfl⟩, hW₂, e2, q2, q3, q4, q5, q6⟩ := id hfe
    have e3 : s₂ = ({ (U.calling g mk a).setFrames s₂.frames with heap := s₂.heap, slotsUsed := s₂.slotsUsed } : State).setVm s₂.vm := by
      have : s₂ = ({ s₂ with vm := (U.calling g mk a).vm } : State).setVm s₂.vm := rfl
      rw [e2] at this
      exact this
    obtain ⟨c₂, i₂, len₂, hc₂, hd₂, hf₂⟩ := hend
    have hW' : U.WarmedH s₂.vm := hW₂
    have hcc : c₂ = c := by
      have h1 : s₂.code? g.method = U.code? g.method := by
        rw [State.code?_eq, State.code?_eq, hW'.alike.method?]
      exact Option.some.inj (hc₂.symm.trans (h1.trans h.code))
    subst hcc
    have hlen : len₂ = len := by rw [hdg] at hd₂; cases hd₂; rfl
    subst hlen
    have hs₂ : s₂ = (({ U with heap := s₂.heap, slotsUsed := s₂.slotsUsed } : State).setVm s₂.vm).setTop { g with pc := g.pc + len₂, stack := v.toList ++ g.stack } := by
      refine e3.trans ?_
      rw [hf₂, State.calling_eq h.top, State.setFrames_setFrames, State.setTop_of_frames _ hr', hr]
      rfl
    have hsame : U.sameButNew ({ U with heap := s₂.heap, slotsUsed := s₂.slotsUsed } : State) L mc ms := by
      refine ⟨?_, q2, q3, q4, q5, q6⟩
      obtain ⟨t, ht, -⟩ := State.frames_cons hr
      show ({ U with heap := s₂.heap, slotsUsed := s₂.slotsUsed } : State) = { U.setFrames U.frames with heap := s₂.heap, slotsUsed := s₂.slotsUsed }
      rw [State.setFrames_self ht]
    subst hg
    refine Or.inl ⟨v, ⟨(({ U with heap := s₂.heap, slotsUsed := s₂.slotsUsed } : State).setVm s₂.vm), Ls ++ L, c0 + mc, s0 + ms⟩,
      ⟨X.admits, X.cas, X.clock, X.frames, X.room, X.hears, X.method, X.code, (X.here.setHeapUsed s₂.heap s₂.slotsUsed).setVm hW'.alike, X.tail, State.WarmedH.trans X.warmed hW', X.limits, X.bytes, X.same.trans (hsame.setVm s.vm)⟩,
      ⟨g, mk, s₂, L, rfl, rfl, hqc, rfl, hL, rfl, rfl⟩, ?_⟩
    show Steps p.tables e below _ ((({ U with heap := s₂.heap, slotsUsed := s₂.slotsUsed } : State).setVm s₂.vm).setTop { g with pc := g.pc + len₂, stack := v.toList ++ g.stack })
    rw [← hs₂]
    exact hsteps
  · obtain ⟨e2, q2, q3, q4, q5, q6⟩ := id hsm
    have e3 : s₂ = ({ (U.calling g mk a).setFrames s₂.frames with heap := s₂.heap, slotsUsed := s₂.slotsUsed } : State).setVm s₂.vm := by
      have : s₂ = ({ s₂ with vm := (U.calling g mk a).vm } : State).setVm s₂.vm := rfl
      rw [e2] at this
      exact this
    have hf₂ : s₂.frames = .throwing q :: .java g :: U.frames.tail := hend
    have hW' : U.WarmedH s₂.vm := hW₂
    have hs₂ : s₂ = ((({ U with heap := s₂.heap, slotsUsed := s₂.slotsUsed } : State).setVm s₂.vm).setTop g).pushFrame (.throwing q) := by
      refine e3.trans ?_
      rw [hf₂, State.calling_eq h.top, State.setFrames_setFrames, State.pushFrame, State.frames_setTop _ hr', State.setTop_of_frames _ hr', State.setFrames_setFrames, hr]
      rfl
    have hsame : U.sameButNew ({ U with heap := s₂.heap, slotsUsed := s₂.slotsUsed } : State) L mc ms := by
      refine ⟨?_, q2, q3, q4, q5, q6⟩
      obtain ⟨t, ht, -⟩ := State.frames_cons hr
      show ({ U with heap := s₂.heap, slotsUsed := s₂.slotsUsed } : State) = { U.setFrames U.frames with heap := s₂.heap, slotsUsed := s₂.slotsUsed }
      rw [State.setFrames_self ht]
    subst hg
    refine Or.inr ⟨q, ⟨(({ U with heap := s₂.heap, slotsUsed := s₂.slotsUsed } : State).setVm s₂.vm), Ls ++ L, c0 + mc, s0 + ms⟩,
      ⟨X.admits, X.cas, X.clock, X.frames, X.room, X.hears, X.method, X.code, (X.here.setHeapUsed s₂.heap s₂.slotsUsed).setVm hW'.alike, X.tail, State.WarmedH.trans X.warmed hW', X.limits, X.bytes, X.same.trans (hsame.setVm s.vm)⟩,
      ⟨g, mk, s₂, L, E, ce, rfl, rfl, hx, hce, hcv, hcl, rfl, hL, rfl, rfl⟩, ?_⟩
    show Steps p.tables e below _ (((({ U with heap := s₂.heap, slotsUsed := s₂.slotsUsed } : State).setVm s₂.vm).setTop g).pushFrame (.throwing q))
    rw [← hs₂]
    exact hsteps
end
variable {p : Program} {l : Launch} {e : Env} {R : Room} {s : State} {m : MethodId} {args : Array Value} {below : List Frame} {meth : Method} {c : Code} {T : State} {H : Heap} {locs : List Loc} {cells slots : Nat}
theorem vx_callVX (X : Stand p l e R s m args below meth c T locs cells slots) (hexec : p.tables.exec = Jvm.exec) {own C : String} {index : Nat} {y : MethodName} {bytes : ByteArray} {maxL : Nat} {ret : Option FieldType} {hh : List (Nat × Nat × Nat × Nat)}
    (hown : s.vm.findClass own = some m.cls) (hlink : (Cond.methodLink own index y).before args s = true) (hinst : (Cond.instanceMethod y).before args s = true) (hsel : (Cond.selects C y y).before args s = true)
    (hcode : (Cond.codeWith y bytes maxL ret hh).before args s = true) (hy : y.cls ≠ "java/lang/invoke/MethodHandle" ∧ y.cls ≠ "java/lang/invoke/VarHandle")
    {W9 : Nat} {Pre : Pt → Array Value → Prop} {Post : Pt → Array Value → Option Value → Pt → Prop} {PostX : Pt → Array Value → Addr → Pt → Prop} (hK : vx_Back l R p e below s args y 3 W9 Pre Post PostX)
    {b : Addr} {cellB : Cell} (hcell : T.heap[b]? = some cellB) (hobj : cellB.vm.isStatics = false) (hcls : s.vm.findClass C = some cellB.cls)
    {g : JFrame} (hg : g.method = m) (hsize : g.locals.size = c.maxLocals) {argsL rest : List Value} (hlen : ∀ sig, parseMethodDescriptor y.desc = some sig → argsL.length = sig.parameters.length)
    (hstack : g.stack = argsL.reverse ++ .ref b :: rest) (hW : 2 * g.monitorRoom + (rest.map fun v => v.category).sum ≤ W9) (hdg : decode c.code g.pc = .ok (.invokevirtual index, 3))
    (hpre : ∀ vm₁, s.WarmedH vm₁ → Pre ⟨T.setVm vm₁, locs, cells, slots⟩ (Value.ref b :: argsL).toArray) :
    (∃ (v : Option Value) (vm₁ : Vm) (B : Pt), s.WarmedH vm₁ ∧ Stand p l e R s m args below meth c B.U B.locs B.cells B.slots ∧ Post ⟨T.setVm vm₁, locs, cells, slots⟩ (Value.ref b :: argsL).toArray v B ∧
      ∀ target, Steps p.tables e below (B.U.setTop { g with pc := g.pc + 3, stack := v.toList ++ rest }) target → Steps p.tables e below (T.setTop g) target) ∨
    (∃ (q : Addr) (vm₁ : Vm) (B : Pt), s.WarmedH vm₁ ∧ Stand p l e R s m args below meth c B.U B.locs B.cells B.slots ∧ PostX ⟨T.setVm vm₁, locs, cells, slots⟩ (Value.ref b :: argsL).toArray q B ∧
      Steps p.tables e below (T.setTop g) ((B.U.setTop { g with stack := rest }).pushFrame (.throwing q))) := by
  obtain ⟨mk, methM, hnamed, hmethM, hstM, habM⟩ := Cond.instanceMethod_spec hinst
  obtain ⟨m8, methM', cM, hn8, hmethM', -, -, -, -, -, -, hsigM⟩ := Cond.codeWith_spec hcode
  cases Option.some.inj (hn8.symm.trans hnamed)
  cases hmethM.symm.trans hmethM'
  obtain ⟨c2, r2, m2, q1, q2, q3, q4, kP, hkP, hkPi⟩ := Cond.selects_spec hsel
  cases hcls.symm.trans q1
  cases (State.methodFound?_of_named hnamed hy).symm.trans q2
  cases hnamed.symm.trans q3
  have hselP : selectMethod e.platform s.vm cellB.cls mk = .method mk := by rw [Launch.admits_selectMethod X.admits]; exact q4
  obtain ⟨vm₁, X₁, hstep₁⟩ := X.invokevirtual hexec hown hlink hnamed hmethM hstM hkP hkPi hy (a := b) (cell := cellB) hcell
    (fun z h => by rw [h] at hobj; cases hobj) hselP hmethM habM hkP hkPi (g := g) hg (argsL := argsL) (rest := rest) (hlen _ hsigM) hstack hdg
  rcases hK m meth c ⟨T.setVm vm₁, locs, cells, slots⟩ { g with stack := rest } (.invokevirtual index) mk (Value.ref b :: argsL).toArray X₁ hg hsize hdg hW (X₁.named hnamed) (hpre vm₁ X₁.warmed) with ⟨v, B, X', hpost, hsteps⟩ | ⟨q, B, X', hpost, hsteps⟩
  · exact Or.inl ⟨v, vm₁, B, X₁.warmed, X', hpost, fun target h => hstep₁ _ fun acts => by rw [doInvoke_state]; exact hsteps.trans h⟩
  · exact Or.inr ⟨q, vm₁, B, X₁.warmed, X', hpost, hstep₁ _ fun acts => by rw [doInvoke_state]; exact hsteps⟩
theorem vx_callSX (X : Stand p l e R s m args below meth c T locs cells slots) (hexec : p.tables.exec = Jvm.exec) {own : String} {index : Nat} {y : MethodName} {bytes : ByteArray} {maxL : Nat} {ret : Option FieldType} {hh : List (Nat × Nat × Nat × Nat)}
    (hown : s.vm.findClass own = some m.cls) (hlink : (Cond.methodLink own index y).before args s = true) (hstat : (Cond.static y).before args s = true) (hinit : (Cond.initialized y.cls).before args s = true)
    (hcode : (Cond.codeWith y bytes maxL ret hh).before args s = true) (hy : y.cls ≠ "java/lang/invoke/MethodHandle" ∧ y.cls ≠ "java/lang/invoke/VarHandle")
    {W9 : Nat} {Pre : Pt → Array Value → Prop} {Post : Pt → Array Value → Option Value → Pt → Prop} {PostX : Pt → Array Value → Addr → Pt → Prop} (hK : vx_Back l R p e below s args y 3 W9 Pre Post PostX)
    {g : JFrame} (hg : g.method = m) (hsize : g.locals.size = c.maxLocals) {argsL rest : List Value} (hlen : ∀ sig, parseMethodDescriptor y.desc = some sig → argsL.length = sig.parameters.length)
    (hstack : g.stack = argsL.reverse ++ rest) (hW : 2 * g.monitorRoom + (rest.map fun v => v.category).sum ≤ W9) (hdg : decode c.code g.pc = .ok (.invokestatic index, 3))
    (hpre : ∀ vm₁, s.WarmedH vm₁ → Pre ⟨T.setVm vm₁, locs, cells, slots⟩ argsL.toArray) :
    (∃ (v : Option Value) (vm₁ : Vm) (B : Pt), s.WarmedH vm₁ ∧ Stand p l e R s m args below meth c B.U B.locs B.cells B.slots ∧ Post ⟨T.setVm vm₁, locs, cells, slots⟩ argsL.toArray v B ∧
      ∀ target, Steps p.tables e below (B.U.setTop { g with pc := g.pc + 3, stack := v.toList ++ rest }) target → Steps p.tables e below (T.setTop g) target) ∨
    (∃ (q : Addr) (vm₁ : Vm) (B : Pt), s.WarmedH vm₁ ∧ Stand p l e R s m args below meth c B.U B.locs B.cells B.slots ∧ PostX ⟨T.setVm vm₁, locs, cells, slots⟩ argsL.toArray q B ∧
      Steps p.tables e below (T.setTop g) ((B.U.setTop { g with stack := rest }).pushFrame (.throwing q))) := by
  obtain ⟨mk, methM, cM, hnamed, hmethM, -, -, -, -, -, -, hsigM⟩ := Cond.codeWith_spec hcode
  have hstatic : methM.isStatic = true := Cond.static_spec hnamed hmethM hstat
  obtain ⟨kP, hkP, -⟩ := className_of_methodNamed hnamed
  have hinitP : kP.init = .initialized := Cond.initialized_spec (findClass_of_methodNamed hnamed) hkP hinit
  obtain ⟨vm₁, X₁, hstep₁⟩ := X.invokestatic hexec hown hlink hnamed hmethM hstatic hkP hinitP hy (g := g) hg (argsL := argsL) (rest := rest) (hlen _ hsigM) hstack hdg
  rcases hK m meth c ⟨T.setVm vm₁, locs, cells, slots⟩ { g with stack := rest } (.invokestatic index) mk argsL.toArray X₁ hg hsize hdg hW (X₁.named hnamed) (hpre vm₁ X₁.warmed) with ⟨v, B, X', hpost, hsteps⟩ | ⟨q, B, X', hpost, hsteps⟩
  · exact Or.inl ⟨v, vm₁, B, X₁.warmed, X', hpost, fun target h => hstep₁ _ fun acts => by rw [doInvoke_state]; exact hsteps.trans h⟩
  · exact Or.inr ⟨q, vm₁, B, X₁.warmed, X', hpost, hstep₁ _ fun acts => by rw [doInvoke_state]; exact hsteps⟩
theorem vx_callVW (X : Stand p l e R s m args below meth c T locs cells slots) (hexec : p.tables.exec = Jvm.exec) {own C : String} {index : Nat} {y : MethodName} {bytes : ByteArray} {maxL : Nat} {ret : Option FieldType} {hh : List (Nat × Nat × Nat × Nat)}
    (hown : s.vm.findClass own = some m.cls) (hlink : (Cond.methodLink own index y).before args s = true) (hinst : (Cond.instanceMethod y).before args s = true) (hsel : (Cond.selects C y y).before args s = true)
    (hcode : (Cond.codeWith y bytes maxL ret hh).before args s = true) (hy : y.cls ≠ "java/lang/invoke/MethodHandle" ∧ y.cls ≠ "java/lang/invoke/VarHandle")
    {W9 : Nat} {Pre : Pt → Array Value → Prop} {Post : Pt → Array Value → Option Value → Pt → Prop} (hK : Back l R p e below s args y 3 W9 Pre Post)
    {b : Addr} {cellB : Cell} (hcell : T.heap[b]? = some cellB) (hobj : cellB.vm.isStatics = false) (hcls : s.vm.findClass C = some cellB.cls)
    {g : JFrame} (hg : g.method = m) (hsize : g.locals.size = c.maxLocals) {argsL rest : List Value} (hlen : ∀ sig, parseMethodDescriptor y.desc = some sig → argsL.length = sig.parameters.length)
    (hstack : g.stack = argsL.reverse ++ .ref b :: rest) (hW : 2 * g.monitorRoom + (rest.map fun v => v.category).sum ≤ W9) (hdg : decode c.code g.pc = .ok (.invokevirtual index, 3))
    (hpre : ∀ vm₁, s.WarmedH vm₁ → Pre ⟨T.setVm vm₁, locs, cells, slots⟩ (Value.ref b :: argsL).toArray) :
    ∃ (v : Option Value) (vm₁ : Vm) (B : Pt), s.WarmedH vm₁ ∧ Stand p l e R s m args below meth c B.U B.locs B.cells B.slots ∧ Post ⟨T.setVm vm₁, locs, cells, slots⟩ (Value.ref b :: argsL).toArray v B ∧
      ∀ target, Steps p.tables e below (B.U.setTop { g with pc := g.pc + 3, stack := v.toList ++ rest }) target → Steps p.tables e below (T.setTop g) target := by
  obtain ⟨mk, methM, hnamed, hmethM, hstM, habM⟩ := Cond.instanceMethod_spec hinst
  obtain ⟨m8, methM', cM, hn8, hmethM', -, -, -, -, -, -, hsigM⟩ := Cond.codeWith_spec hcode
  cases Option.some.inj (hn8.symm.trans hnamed)
  cases hmethM.symm.trans hmethM'
  obtain ⟨c2, r2, m2, q1, q2, q3, q4, kP, hkP, hkPi⟩ := Cond.selects_spec hsel
  cases hcls.symm.trans q1
  cases (State.methodFound?_of_named hnamed hy).symm.trans q2
  cases hnamed.symm.trans q3
  have hselP : selectMethod e.platform s.vm cellB.cls mk = .method mk := by rw [Launch.admits_selectMethod X.admits]; exact q4
  obtain ⟨vm₁, X₁, hstep₁⟩ := X.invokevirtual hexec hown hlink hnamed hmethM hstM hkP hkPi hy (a := b) (cell := cellB) hcell
    (fun z h => by rw [h] at hobj; cases hobj) hselP hmethM habM hkP hkPi (g := g) hg (argsL := argsL) (rest := rest) (hlen _ hsigM) hstack hdg
  obtain ⟨v, B, X', hpost, hsteps⟩ := hK m meth c ⟨T.setVm vm₁, locs, cells, slots⟩ { g with stack := rest } (.invokevirtual index) mk (Value.ref b :: argsL).toArray X₁ hg hsize hdg hW (X₁.named hnamed) (hpre vm₁ X₁.warmed)
  exact ⟨v, vm₁, B, X₁.warmed, X', hpost, fun target h => hstep₁ _ fun acts => by rw [doInvoke_state]; exact hsteps.trans h⟩
abbrev vx_CVW (R : Room) (s : State) (args : Array Value) (own C : String) (index : Nat) (y : MethodName) (bytes : ByteArray) (maxL : Nat) (ret : Option FieldType) (hh : List (Nat × Nat × Nat × Nat)) (ws : List Cond) (rm : Room) (mc ms n : Nat) : Prop :=
  (rm.cells = mc ∧ rm.slots = ms ∧ rm.frames + 1 ≤ R.frames ∧ 8 + (maxL + 11) + rm.locals ≤ R.locals ∧ (∀ w ∈ ws, ∀ (a' : Array Value) (U : State), s.WarmedH U.vm → w.before a' U = true) ∧ Cond.codeWith y bytes maxL ret hh ∈ ws) ∧
  (Cond.codeWith y bytes maxL ret hh).before args s = true ∧ (Cond.initialized y.cls).before args s = true ∧ (y.cls ≠ "java/lang/invoke/MethodHandle" ∧ y.cls ≠ "java/lang/invoke/VarHandle") ∧
  (∀ sig, parseMethodDescriptor y.desc = some sig → n = sig.parameters.length) ∧ (Cond.methodLink own index y).before args s = true ∧ (Cond.instanceMethod y).before args s = true ∧ (Cond.selects C y y).before args s = true
theorem vx_cwVW {own C : String} {index maxL mc ms : Nat} {y : MethodName} {bytes : ByteArray} {ret : Option FieldType} {hh : List (Nat × Nat × Nat × Nat)} {Ts ws ws' : List Cond} {rm : Room} (n : Nat) (ht : ∀ w ∈ Ts, w.before args s = true) (hT : GoodIn Ts (wsV own index C y ws)) (hw : ws = Cond.codeWith y bytes maxL ret hh :: ws') (hrc : rm.cells = mc) (hrs : rm.slots = ms)
    (hd : y.cls = C ∧ y.cls ≠ "java/lang/invoke/MethodHandle" ∧ y.cls ≠ "java/lang/invoke/VarHandle" ∧ (parseMethodDescriptor y.desc).map (fun d => d.parameters.length) = some n) (hR : rm.frames + 1 ≤ R.frames ∧ 8 + (maxL + 11) + rm.locals ≤ R.locals) :
    vx_CVW R s args own C index y bytes maxL ret hh ws rm mc ms n := by
  obtain ⟨hC, hd⟩ := hd
  subst hC
  have ok : ∀ w ∈ wsV own index y.cls y ws, w.before args s = true := fun w h => ht w (hT w h).1
  have hG : GoodIn Ts ws := fun w h => hT w (by unfold wsV; exact List.mem_append_right _ h)
  have hc : Cond.codeWith y bytes maxL ret hh ∈ ws := by rw [hw]; exact List.mem_cons_self
  refine ⟨⟨hrc, hrs, hR.1, hR.2, pay_in ht hG, hc⟩, ht _ (hG _ hc).1, ok _ (by simp [wsV]), ⟨hd.1, hd.2.1⟩, fun sig h => ?_, ok _ (by simp [wsV]), ok _ (by simp [wsV]), ok _ (by simp [wsV])⟩
  have h2 := hd.2.2
  rw [h] at h2
  exact (Option.some.inj h2).symm
theorem vx_runVW {y : MethodName} {bytes cc : ByteArray} {maxL nL mc ms n index : Nat} {ret : Option FieldType} {hh : List (Nat × Nat × Nat × Nat)} {ws : List Cond} {rm : Room} {Pc : Array Value → State → Prop} {Qc : Array Value → State → Outcome → State → Prop} {free : Addr → Prop} {Ts : List Cond} {own C : String} {b : Addr} {As rest : List Value} {g : JFrame}
    (S : CallFix p m c cc nL s args Ts own) (hM : Met l y ws rm Pc Qc mc ms free) (cw : vx_CVW R s args own C index y bytes maxL ret hh ws rm mc ms n) (hp : PreV s H C b Pc As)
    (hg : g.method = m) (hn : As.length = n) (hsize : g.locals.size = nL) (hstack : g.stack = As.reverse ++ .ref b :: rest) (hW : 2 * g.monitorRoom + (rest.map fun v => v.category).sum ≤ 8) (hdg : decode cc g.pc = .ok (.invokevirtual index, 3)) (hf : cells + mc ≤ R.cells ∧ slots + ms ≤ R.slots) :
    va_Run p l e R s m args below meth c H locs cells slots mc ms g rest (Qc (Value.ref b :: As).toArray) free := by
  obtain ⟨⟨hrc, hrs, hfr, hlo, hws, hcw⟩, hcode, hini, hy, hlen, hl, hin, hse⟩ := cw
  have hK : Back l R p e below s args y 3 8 (PreOf R mc ms Pc) (PostOf Qc mc ms free) := va_backW (hh := hh) (bytes := bytes) (maxL := maxL) (ret := ret) hM hp.1 hrc hrs hfr hlo hws hcw (fun a' U hW => word_at hW (Or.inl (by first | rfl | simp [Cond.onTables, Cond.keeps, Cond.steady])) hini)
  obtain ⟨hx, hb, hml, ho, -⟩ := S
  obtain ⟨-, ⟨cellB, hcB, hoB, hclB⟩, hPc⟩ := hp
  intro T hT X
  obtain ⟨v, vm₁, ⟨U', l2, c2, s2⟩, hW₁, X', ⟨g', mk, t, L, e1, e2, hq, h1, hL, h2, h3⟩, st⟩ := vx_callVW X hx (C := C) (hh := hh) (bytes := bytes) (maxL := maxL) (ret := ret) ho hl hin hse hcode hy hK (by rw [hT]; exact hcB) hoB hclB hg (hsize.trans hml.symm) (argsL := As) (rest := rest) (fun sig h => hn.trans (hlen sig h)) hstack hW (by rw [hb]; exact hdg)
    (fun vm₁ hW₁ => ⟨hf.1, hf.2, hPc (T.setVm vm₁) hT hW₁⟩)
  dsimp only [Pt.U, Pt.locs, Pt.cells, Pt.slots] at X' e1 e2 h1 h2 h3 st
  subst h1; subst h2; subst h3
  exact ⟨v, (T.setVm vm₁).calling g' mk (Value.ref b :: As).toArray, t, U', L, hT, X', hL, e1, e2, hq, st⟩
section
variable {y : MethodName} {bytes cc : ByteArray} {maxL nL mc ms n index : Nat} {ret : Option FieldType} {ws : List Cond} {rm : Room} {Pc : Array Value → State → Prop} {Qc : Array Value → State → Outcome → State → Prop} {XC : String → State → State → Prop} {free : Addr → Prop} {Ts : List Cond} {own C : String} {b : Addr} {As rest : List Value} {g : JFrame}
theorem vx_runVX {hh : List (Nat × Nat × Nat × Nat)} (S : CallFix p m c cc nL s args Ts own) (hM : vx_Met l y ws rm Pc Qc XC mc ms free) (cw : vx_CVW R s args own C index y bytes maxL ret hh ws rm mc ms n) (hp : PreV s H C b Pc As)
    (hg : g.method = m) (hn : As.length = n) (hsize : g.locals.size = nL) (hstack : g.stack = As.reverse ++ .ref b :: rest) (hW : 2 * g.monitorRoom + (rest.map fun v => v.category).sum ≤ 8) (hdg : decode cc g.pc = .ok (.invokevirtual index, 3)) (hf : cells + mc ≤ R.cells ∧ slots + ms ≤ R.slots) :
    vx_Run p l e R s m args below meth c H locs cells slots mc ms g rest (Qc (Value.ref b :: As).toArray) XC free := by
  obtain ⟨⟨hrc, hrs, hfr, hlo, hws, hcw⟩, hcode, hini, hy, hlen, hl, hin, hse⟩ := cw
  have hK : vx_Back l R p e below s args y 3 8 (PreOf R mc ms Pc) (PostOf Qc mc ms free) (vx_Post XC mc ms free) := vx_backW (hh := hh) (bytes := bytes) (maxL := maxL) (ret := ret) hM hp.1 hrc hrs hfr hlo hws hcw (fun a' U hW => word_at hW (Or.inl (by first | rfl | simp [Cond.onTables, Cond.keeps, Cond.steady])) hini)
  obtain ⟨hx, hb, hml, ho, -⟩ := S
  obtain ⟨-, ⟨cellB, hcB, hoB, hclB⟩, hPc⟩ := hp
  intro T hT X
  rcases vx_callVX X hx (C := C) (hh := hh) (bytes := bytes) (maxL := maxL) (ret := ret) ho hl hin hse hcode hy hK (by rw [hT]; exact hcB) hoB hclB hg (hsize.trans hml.symm) (argsL := As) (rest := rest) (fun sig h => hn.trans (hlen sig h)) hstack hW (by rw [hb]; exact hdg)
    (fun vm₁ hW₁ => ⟨hf.1, hf.2, hPc (T.setVm vm₁) hT hW₁⟩) with ⟨v, vm₁, ⟨U', l2, c2, s2⟩, hW₁, X', ⟨g', mk, t, L, e1, e2, hq, h1, hL, h2, h3⟩, st⟩ | ⟨q, vm₁, ⟨U', l2, c2, s2⟩, hW₁, X', ⟨g', mk, t, L, E, ce, e1, e2, hq, hce, hcv, hcl, h1, hL, h2, h3⟩, st⟩
  · dsimp only [Pt.U, Pt.locs, Pt.cells, Pt.slots] at X' e1 e2 h1 h2 h3 st
    subst h1; subst h2; subst h3
    exact Or.inl ⟨v, (T.setVm vm₁).calling g' mk (Value.ref b :: As).toArray, t, U', L, hT, X', hL, e1, e2, hq, st⟩
  · dsimp only [Pt.U, Pt.locs, Pt.cells, Pt.slots] at X' e1 e2 h1 h2 h3 st hcl
    subst h1; subst h2; subst h3
    exact Or.inr ⟨q, (T.setVm vm₁).calling g' mk (Value.ref b :: As).toArray, t, U', L, E, ce, hT, X', hL, e1, e2, hq, hce, hcv, vx_cls hW₁ hcl, st⟩
theorem vx_runSX {hh : List (Nat × Nat × Nat × Nat)} (S : CallFix p m c cc nL s args Ts own) (hM : vx_Met l y ws rm Pc Qc XC mc ms free) (cw : vx_CSW R s args own index y bytes maxL ret hh ws rm mc ms n) (hp : PreS s H Pc As)
    (hg : g.method = m) (hn : As.length = n) (hsize : g.locals.size = nL) (hstack : g.stack = As.reverse ++ rest) (hW : 2 * g.monitorRoom + (rest.map fun v => v.category).sum ≤ 8) (hdg : decode cc g.pc = .ok (.invokestatic index, 3)) (hf : cells + mc ≤ R.cells ∧ slots + ms ≤ R.slots) :
    vx_Run p l e R s m args below meth c H locs cells slots mc ms g rest (Qc As.toArray) XC free := by
  obtain ⟨⟨hrc, hrs, hfr, hlo, hws, hcw⟩, hcode, hini, hy, hlen, hl, hstt⟩ := cw
  have hK : vx_Back l R p e below s args y 3 8 (PreOf R mc ms Pc) (PostOf Qc mc ms free) (vx_Post XC mc ms free) := vx_backW (hh := hh) (bytes := bytes) (maxL := maxL) (ret := ret) hM hp.1 hrc hrs hfr hlo hws hcw (fun a' U hW => word_at hW (Or.inl (by first | rfl | simp [Cond.onTables, Cond.keeps, Cond.steady])) hini)
  obtain ⟨hx, hb, hml, ho, -⟩ := S
  intro T hT X
  rcases vx_callSX X hx (hh := hh) (bytes := bytes) (maxL := maxL) (ret := ret) ho hl hstt hini hcode hy hK hg (hsize.trans hml.symm) (argsL := As) (rest := rest) (fun sig h => hn.trans (hlen sig h)) hstack hW (by rw [hb]; exact hdg)
    (fun vm₁ hW₁ => ⟨hf.1, hf.2, hp.2 (T.setVm vm₁) hT hW₁⟩) with ⟨v, vm₁, ⟨U', l2, c2, s2⟩, hW₁, X', ⟨g', mk, t, L, e1, e2, hq, h1, hL, h2, h3⟩, st⟩ | ⟨q, vm₁, ⟨U', l2, c2, s2⟩, hW₁, X', ⟨g', mk, t, L, E, ce, e1, e2, hq, hce, hcv, hcl, h1, hL, h2, h3⟩, st⟩
  · dsimp only [Pt.U, Pt.locs, Pt.cells, Pt.slots] at X' e1 e2 h1 h2 h3 st
    subst h1; subst h2; subst h3
    exact Or.inl ⟨v, (T.setVm vm₁).calling g' mk As.toArray, t, U', L, hT, X', hL, e1, e2, hq, st⟩
  · dsimp only [Pt.U, Pt.locs, Pt.cells, Pt.slots] at X' e1 e2 h1 h2 h3 st hcl
    subst h1; subst h2; subst h3
    exact Or.inr ⟨q, (T.setVm vm₁).calling g' mk As.toArray, t, U', L, E, ce, hT, X', hL, e1, e2, hq, hce, hcv, vx_cls hW₁ hcl, st⟩
end
end VXH
theorem vx_ofWH {l : Launch} {y : MethodName} {ws ws' : List Cond} {rm : Room} {Pc : Array Value → State → Prop} {Qc : Array Value → State → Outcome → State → Prop} {XC : String → State → State → Prop} {mc ms : Nat} {free : Addr → Prop} {cc : ByteArray} {maxL : Nat} {ret : Option FieldType} {hh : List (Nat × Nat × Nat × Nat)}
    (hy : plainName y.cls = true) (hw : ws = Cond.codeWith y cc maxL ret hh :: ws')
    (body : ∀ p e s m args below meth c s₁, BodyLoose p l y (headSpec ws rm) cc maxL ret e s m args below meth c s₁ → c.maxLocals = maxL → Pc args s →
      W p l e (headSpec ws rm).room s m args below meth c s.heap [] 0 0 (vx_MQ below Qc XC args s mc ms free) (entryFrame m args maxL)) : vx_Met l y ws rm Pc Qc XC mc ms free := by
  refine MetFree.of_bodyS (code := cc) (maxLocals := maxL) (ret := ret) hy ?_ ?_
  · intro args s m h hn
    obtain ⟨m9, meth, c, hn9, h1, h2, h3, h4, -, h5, h6, -⟩ := Cond.codeWith_spec (atoms_spec (ws := ws) h _ (by rw [hw]; exact List.mem_cons_self))
    cases hn.symm.trans hn9
    exact ⟨meth, c, h1, h2, h3, h4, h5, h6⟩
  · intro p e s m args below meth c s₁ B hml hP _
    have hh0 : s₁.heap = s.heap := by rw [B.state]; rfl
    obtain ⟨t, a1, o, b1, b2, b3⟩ := body p e s m args below meth c s₁ B hml hP s₁ hh0 (Stand.of_body B)
    exact ⟨t, o, a1, b1, b2, b3⟩
/-! ===== END ===== -/
end
section
theorem dJ0_length_8abf5_0 : decode cJ0_length_8abf5 0 = .ok (.aload_n 0, 1) := by decide +kernel
theorem dJ0_length_8abf5_1 : decode cJ0_length_8abf5 1 = .ok (.getfield 9, 3) := by decide +kernel
theorem dJ0_length_8abf5_4 : decode cJ0_length_8abf5 4 = .ok (.arraylength, 1) := by decide +kernel
theorem dJ0_length_8abf5_5 : decode cJ0_length_8abf5 5 = .ok (.aload_n 0, 1) := by decide +kernel
theorem dJ0_length_8abf5_6 : decode cJ0_length_8abf5 6 = .ok (.invokevirtual 335, 3) := by decide +kernel
theorem dJ0_length_8abf5_9 : decode cJ0_length_8abf5 9 = .ok (.ishr, 1) := by decide +kernel
theorem dJ0_length_8abf5_10 : decode cJ0_length_8abf5 10 = .ok (.ireturn, 1) := by decide +kernel
theorem dJ0_charAt_5068e_0 : decode cJ0_charAt_5068e 0 = .ok (.aload_n 0, 1) := by decide +kernel
theorem dJ0_charAt_5068e_1 : decode cJ0_charAt_5068e 1 = .ok (.invokevirtual 492, 3) := by decide +kernel
theorem dJ0_charAt_5068e_4 : decode cJ0_charAt_5068e 4 = .ok (.ifCond .eq 12, 3) := by decide +kernel
theorem dJ0_charAt_5068e_7 : decode cJ0_charAt_5068e 7 = .ok (.aload_n 0, 1) := by decide +kernel
theorem dJ0_charAt_5068e_8 : decode cJ0_charAt_5068e 8 = .ok (.getfield 9, 3) := by decide +kernel
theorem dJ0_charAt_5068e_11 : decode cJ0_charAt_5068e 11 = .ok (.iload_n 1, 1) := by decide +kernel
theorem dJ0_charAt_5068e_12 : decode cJ0_charAt_5068e 12 = .ok (.invokestatic 495, 3) := by decide +kernel
theorem dJ0_charAt_5068e_15 : decode cJ0_charAt_5068e 15 = .ok (.ireturn, 1) := by decide +kernel
theorem dJ0_charAt_5068e_16 : decode cJ0_charAt_5068e 16 = .ok (.aload_n 0, 1) := by decide +kernel
theorem dJ0_charAt_5068e_17 : decode cJ0_charAt_5068e 17 = .ok (.getfield 9, 3) := by decide +kernel
theorem dJ0_charAt_5068e_20 : decode cJ0_charAt_5068e 20 = .ok (.iload_n 1, 1) := by decide +kernel
theorem dJ0_charAt_5068e_21 : decode cJ0_charAt_5068e 21 = .ok (.invokestatic 498, 3) := by decide +kernel
theorem dJ0_charAt_5068e_24 : decode cJ0_charAt_5068e 24 = .ok (.ireturn, 1) := by decide +kernel
theorem dJ0_indexOf_0f7a4_0 : decode cJ0_indexOf_0f7a4 0 = .ok (.aload_n 0, 1) := by decide +kernel
theorem dJ0_indexOf_0f7a4_1 : decode cJ0_indexOf_0f7a4 1 = .ok (.iload_n 1, 1) := by decide +kernel
theorem dJ0_indexOf_0f7a4_2 : decode cJ0_indexOf_0f7a4 2 = .ok (.iconst 0, 1) := by decide +kernel
theorem dJ0_indexOf_0f7a4_3 : decode cJ0_indexOf_0f7a4 3 = .ok (.invokevirtual 633, 3) := by decide +kernel
theorem dJ0_indexOf_0f7a4_6 : decode cJ0_indexOf_0f7a4 6 = .ok (.ireturn, 1) := by decide +kernel
theorem dJ0_indexOf_7cf53_0 : decode cJ0_indexOf_7cf53 0 = .ok (.aload_n 0, 1) := by decide +kernel
theorem dJ0_indexOf_7cf53_1 : decode cJ0_indexOf_7cf53 1 = .ok (.invokevirtual 492, 3) := by decide +kernel
theorem dJ0_indexOf_7cf53_4 : decode cJ0_indexOf_7cf53 4 = .ok (.ifCond .eq 19, 3) := by decide +kernel
theorem dJ0_indexOf_7cf53_7 : decode cJ0_indexOf_7cf53 7 = .ok (.aload_n 0, 1) := by decide +kernel
theorem dJ0_indexOf_7cf53_8 : decode cJ0_indexOf_7cf53 8 = .ok (.getfield 9, 3) := by decide +kernel
theorem dJ0_indexOf_7cf53_11 : decode cJ0_indexOf_7cf53 11 = .ok (.iload_n 1, 1) := by decide +kernel
theorem dJ0_indexOf_7cf53_12 : decode cJ0_indexOf_7cf53 12 = .ok (.iload_n 2, 1) := by decide +kernel
theorem dJ0_indexOf_7cf53_13 : decode cJ0_indexOf_7cf53 13 = .ok (.aload_n 0, 1) := by decide +kernel
theorem dJ0_indexOf_7cf53_14 : decode cJ0_indexOf_7cf53 14 = .ok (.invokevirtual 505, 3) := by decide +kernel
theorem dJ0_indexOf_7cf53_17 : decode cJ0_indexOf_7cf53 17 = .ok (.invokestatic 637, 3) := by decide +kernel
theorem dJ0_indexOf_7cf53_20 : decode cJ0_indexOf_7cf53 20 = .ok (.goto 16, 3) := by decide +kernel
theorem dJ0_indexOf_7cf53_23 : decode cJ0_indexOf_7cf53 23 = .ok (.aload_n 0, 1) := by decide +kernel
theorem dJ0_indexOf_7cf53_24 : decode cJ0_indexOf_7cf53 24 = .ok (.getfield 9, 3) := by decide +kernel
theorem dJ0_indexOf_7cf53_27 : decode cJ0_indexOf_7cf53 27 = .ok (.iload_n 1, 1) := by decide +kernel
theorem dJ0_indexOf_7cf53_28 : decode cJ0_indexOf_7cf53 28 = .ok (.iload_n 2, 1) := by decide +kernel
theorem dJ0_indexOf_7cf53_29 : decode cJ0_indexOf_7cf53 29 = .ok (.aload_n 0, 1) := by decide +kernel
theorem dJ0_indexOf_7cf53_30 : decode cJ0_indexOf_7cf53 30 = .ok (.invokevirtual 505, 3) := by decide +kernel
theorem dJ0_indexOf_7cf53_33 : decode cJ0_indexOf_7cf53 33 = .ok (.invokestatic 640, 3) := by decide +kernel
theorem dJ0_indexOf_7cf53_36 : decode cJ0_indexOf_7cf53 36 = .ok (.ireturn, 1) := by decide +kernel
theorem dJ0_coder_7d493_0 : decode cJ0_coder_7d493 0 = .ok (.getstatic 38, 3) := by decide +kernel
theorem dJ0_coder_7d493_3 : decode cJ0_coder_7d493 3 = .ok (.ifCond .eq 10, 3) := by decide +kernel
theorem dJ0_coder_7d493_6 : decode cJ0_coder_7d493 6 = .ok (.aload_n 0, 1) := by decide +kernel
theorem dJ0_coder_7d493_7 : decode cJ0_coder_7d493 7 = .ok (.getfield 15, 3) := by decide +kernel
theorem dJ0_coder_7d493_10 : decode cJ0_coder_7d493 10 = .ok (.goto 4, 3) := by decide +kernel
theorem dJ0_coder_7d493_13 : decode cJ0_coder_7d493 13 = .ok (.iconst 1, 1) := by decide +kernel
theorem dJ0_coder_7d493_14 : decode cJ0_coder_7d493 14 = .ok (.ireturn, 1) := by decide +kernel
theorem dJ0_isLatin1_aae02_0 : decode cJ0_isLatin1_aae02 0 = .ok (.getstatic 38, 3) := by decide +kernel
theorem dJ0_isLatin1_aae02_3 : decode cJ0_isLatin1_aae02 3 = .ok (.ifCond .eq 14, 3) := by decide +kernel
theorem dJ0_isLatin1_aae02_6 : decode cJ0_isLatin1_aae02 6 = .ok (.aload_n 0, 1) := by decide +kernel
theorem dJ0_isLatin1_aae02_7 : decode cJ0_isLatin1_aae02 7 = .ok (.getfield 15, 3) := by decide +kernel
theorem dJ0_isLatin1_aae02_10 : decode cJ0_isLatin1_aae02 10 = .ok (.ifCond .ne 7, 3) := by decide +kernel
theorem dJ0_isLatin1_aae02_13 : decode cJ0_isLatin1_aae02 13 = .ok (.iconst 1, 1) := by decide +kernel
theorem dJ0_isLatin1_aae02_14 : decode cJ0_isLatin1_aae02 14 = .ok (.goto 4, 3) := by decide +kernel
theorem dJ0_isLatin1_aae02_17 : decode cJ0_isLatin1_aae02 17 = .ok (.iconst 0, 1) := by decide +kernel
theorem dJ0_isLatin1_aae02_18 : decode cJ0_isLatin1_aae02 18 = .ok (.ireturn, 1) := by decide +kernel
theorem dJ0_checkIndex_df160_0 : decode cJ0_checkIndex_df160 0 = .ok (.iload_n 0, 1) := by decide +kernel
theorem dJ0_checkIndex_df160_1 : decode cJ0_checkIndex_df160 1 = .ok (.iload_n 1, 1) := by decide +kernel
theorem dJ0_checkIndex_df160_2 : decode cJ0_checkIndex_df160 2 = .ok (.getstatic 1053, 3) := by decide +kernel
theorem dJ0_checkIndex_df160_5 : decode cJ0_checkIndex_df160 5 = .ok (.invokestatic 1059, 3) := by decide +kernel
theorem dJ0_checkIndex_df160_8 : decode cJ0_checkIndex_df160 8 = .ok (.pop, 1) := by decide +kernel
theorem dJ0_checkIndex_df160_9 : decode cJ0_checkIndex_df160 9 = .ok (.return_, 1) := by decide +kernel
theorem dJ0_checkBoundsBeginEnd_23922_0 : decode cJ0_checkBoundsBeginEnd_23922 0 = .ok (.iload_n 0, 1) := by decide +kernel
theorem dJ0_checkBoundsBeginEnd_23922_1 : decode cJ0_checkBoundsBeginEnd_23922 1 = .ok (.iload_n 1, 1) := by decide +kernel
theorem dJ0_checkBoundsBeginEnd_23922_2 : decode cJ0_checkBoundsBeginEnd_23922 2 = .ok (.iload_n 2, 1) := by decide +kernel
theorem dJ0_checkBoundsBeginEnd_23922_3 : decode cJ0_checkBoundsBeginEnd_23922 3 = .ok (.getstatic 1053, 3) := by decide +kernel
theorem dJ0_checkBoundsBeginEnd_23922_6 : decode cJ0_checkBoundsBeginEnd_23922 6 = .ok (.invokestatic 1062, 3) := by decide +kernel
theorem dJ0_checkBoundsBeginEnd_23922_9 : decode cJ0_checkBoundsBeginEnd_23922 9 = .ok (.pop, 1) := by decide +kernel
theorem dJ0_checkBoundsBeginEnd_23922_10 : decode cJ0_checkBoundsBeginEnd_23922 10 = .ok (.return_, 1) := by decide +kernel
theorem dJ1_charAt_3b067_0 : decode cJ1_charAt_3b067 0 = .ok (.iload_n 1, 1) := by decide +kernel
theorem dJ1_charAt_3b067_1 : decode cJ1_charAt_3b067 1 = .ok (.aload_n 0, 1) := by decide +kernel
theorem dJ1_charAt_3b067_2 : decode cJ1_charAt_3b067 2 = .ok (.arraylength, 1) := by decide +kernel
theorem dJ1_charAt_3b067_3 : decode cJ1_charAt_3b067 3 = .ok (.invokestatic 9, 3) := by decide +kernel
theorem dJ1_charAt_3b067_6 : decode cJ1_charAt_3b067 6 = .ok (.aload_n 0, 1) := by decide +kernel
theorem dJ1_charAt_3b067_7 : decode cJ1_charAt_3b067 7 = .ok (.iload_n 1, 1) := by decide +kernel
theorem dJ1_charAt_3b067_8 : decode cJ1_charAt_3b067 8 = .ok (.baload, 1) := by decide +kernel
theorem dJ1_charAt_3b067_9 : decode cJ1_charAt_3b067 9 = .ok (.sipush 255, 3) := by decide +kernel
theorem dJ1_charAt_3b067_12 : decode cJ1_charAt_3b067 12 = .ok (.iand, 1) := by decide +kernel
theorem dJ1_charAt_3b067_13 : decode cJ1_charAt_3b067 13 = .ok (.i2c, 1) := by decide +kernel
theorem dJ1_charAt_3b067_14 : decode cJ1_charAt_3b067 14 = .ok (.ireturn, 1) := by decide +kernel
theorem dJ1_canEncode_9a6ad_0 : decode cJ1_canEncode_9a6ad 0 = .ok (.iload_n 0, 1) := by decide +kernel
theorem dJ1_canEncode_9a6ad_1 : decode cJ1_canEncode_9a6ad 1 = .ok (.ifCond .lt 14, 3) := by decide +kernel
theorem dJ1_canEncode_9a6ad_4 : decode cJ1_canEncode_9a6ad 4 = .ok (.iload_n 0, 1) := by decide +kernel
theorem dJ1_canEncode_9a6ad_5 : decode cJ1_canEncode_9a6ad 5 = .ok (.sipush 255, 3) := by decide +kernel
theorem dJ1_canEncode_9a6ad_8 : decode cJ1_canEncode_9a6ad 8 = .ok (.if_icmp .gt 7, 3) := by decide +kernel
theorem dJ1_canEncode_9a6ad_11 : decode cJ1_canEncode_9a6ad 11 = .ok (.iconst 1, 1) := by decide +kernel
theorem dJ1_canEncode_9a6ad_12 : decode cJ1_canEncode_9a6ad 12 = .ok (.goto 4, 3) := by decide +kernel
theorem dJ1_canEncode_9a6ad_15 : decode cJ1_canEncode_9a6ad 15 = .ok (.iconst 0, 1) := by decide +kernel
theorem dJ1_canEncode_9a6ad_16 : decode cJ1_canEncode_9a6ad 16 = .ok (.ireturn, 1) := by decide +kernel
theorem dJ1_indexOf_4cfef_0 : decode cJ1_indexOf_4cfef 0 = .ok (.iload_n 1, 1) := by decide +kernel
theorem dJ1_indexOf_4cfef_1 : decode cJ1_indexOf_4cfef 1 = .ok (.invokestatic 88, 3) := by decide +kernel
theorem dJ1_indexOf_4cfef_4 : decode cJ1_indexOf_4cfef 4 = .ok (.ifCond .ne 5, 3) := by decide +kernel
theorem dJ1_indexOf_4cfef_7 : decode cJ1_indexOf_4cfef 7 = .ok (.iconst (-1), 1) := by decide +kernel
theorem dJ1_indexOf_4cfef_8 : decode cJ1_indexOf_4cfef 8 = .ok (.ireturn, 1) := by decide +kernel
theorem dJ1_indexOf_4cfef_9 : decode cJ1_indexOf_4cfef 9 = .ok (.iload_n 2, 1) := by decide +kernel
theorem dJ1_indexOf_4cfef_10 : decode cJ1_indexOf_4cfef 10 = .ok (.iconst 0, 1) := by decide +kernel
theorem dJ1_indexOf_4cfef_11 : decode cJ1_indexOf_4cfef 11 = .ok (.invokestatic 92, 3) := by decide +kernel
theorem dJ1_indexOf_4cfef_14 : decode cJ1_indexOf_4cfef 14 = .ok (.istore_n 2, 1) := by decide +kernel
theorem dJ1_indexOf_4cfef_15 : decode cJ1_indexOf_4cfef 15 = .ok (.iload_n 3, 1) := by decide +kernel
theorem dJ1_indexOf_4cfef_16 : decode cJ1_indexOf_4cfef 16 = .ok (.aload_n 0, 1) := by decide +kernel
theorem dJ1_indexOf_4cfef_17 : decode cJ1_indexOf_4cfef 17 = .ok (.arraylength, 1) := by decide +kernel
theorem dJ1_indexOf_4cfef_18 : decode cJ1_indexOf_4cfef 18 = .ok (.invokestatic 38, 3) := by decide +kernel
theorem dJ1_indexOf_4cfef_21 : decode cJ1_indexOf_4cfef 21 = .ok (.istore_n 3, 1) := by decide +kernel
theorem dJ1_indexOf_4cfef_22 : decode cJ1_indexOf_4cfef 22 = .ok (.iload_n 2, 1) := by decide +kernel
theorem dJ1_indexOf_4cfef_23 : decode cJ1_indexOf_4cfef 23 = .ok (.iload_n 3, 1) := by decide +kernel
theorem dJ1_indexOf_4cfef_24 : decode cJ1_indexOf_4cfef 24 = .ok (.if_icmp .lt 5, 3) := by decide +kernel
theorem dJ1_indexOf_4cfef_27 : decode cJ1_indexOf_4cfef 27 = .ok (.iconst (-1), 1) := by decide +kernel
theorem dJ1_indexOf_4cfef_28 : decode cJ1_indexOf_4cfef 28 = .ok (.ireturn, 1) := by decide +kernel
theorem dJ1_indexOf_4cfef_29 : decode cJ1_indexOf_4cfef 29 = .ok (.aload_n 0, 1) := by decide +kernel
theorem dJ1_indexOf_4cfef_30 : decode cJ1_indexOf_4cfef 30 = .ok (.iload_n 1, 1) := by decide +kernel
theorem dJ1_indexOf_4cfef_31 : decode cJ1_indexOf_4cfef 31 = .ok (.iload_n 2, 1) := by decide +kernel
theorem dJ1_indexOf_4cfef_32 : decode cJ1_indexOf_4cfef 32 = .ok (.iload_n 3, 1) := by decide +kernel
theorem dJ1_indexOf_4cfef_33 : decode cJ1_indexOf_4cfef 33 = .ok (.invokestatic 95, 3) := by decide +kernel
theorem dJ1_indexOf_4cfef_36 : decode cJ1_indexOf_4cfef 36 = .ok (.ireturn, 1) := by decide +kernel
theorem dJ1_indexOfChar_4cfef_0 : decode cJ1_indexOfChar_4cfef 0 = .ok (.iload_n 1, 1) := by decide +kernel
theorem dJ1_indexOfChar_4cfef_1 : decode cJ1_indexOfChar_4cfef 1 = .ok (.i2b, 1) := by decide +kernel
theorem dJ1_indexOfChar_4cfef_2 : decode cJ1_indexOfChar_4cfef 2 = .ok (.istore 4, 2) := by decide +kernel
theorem dJ1_indexOfChar_4cfef_4 : decode cJ1_indexOfChar_4cfef 4 = .ok (.iload_n 2, 1) := by decide +kernel
theorem dJ1_indexOfChar_4cfef_5 : decode cJ1_indexOfChar_4cfef 5 = .ok (.istore 5, 2) := by decide +kernel
theorem dJ1_indexOfChar_4cfef_7 : decode cJ1_indexOfChar_4cfef 7 = .ok (.iload 5, 2) := by decide +kernel
theorem dJ1_indexOfChar_4cfef_9 : decode cJ1_indexOfChar_4cfef 9 = .ok (.iload_n 3, 1) := by decide +kernel
theorem dJ1_indexOfChar_4cfef_10 : decode cJ1_indexOfChar_4cfef 10 = .ok (.if_icmp .ge 21, 3) := by decide +kernel
theorem dJ1_indexOfChar_4cfef_13 : decode cJ1_indexOfChar_4cfef 13 = .ok (.aload_n 0, 1) := by decide +kernel
theorem dJ1_indexOfChar_4cfef_14 : decode cJ1_indexOfChar_4cfef 14 = .ok (.iload 5, 2) := by decide +kernel
theorem dJ1_indexOfChar_4cfef_16 : decode cJ1_indexOfChar_4cfef 16 = .ok (.baload, 1) := by decide +kernel
theorem dJ1_indexOfChar_4cfef_17 : decode cJ1_indexOfChar_4cfef 17 = .ok (.iload 4, 2) := by decide +kernel
theorem dJ1_indexOfChar_4cfef_19 : decode cJ1_indexOfChar_4cfef 19 = .ok (.if_icmp .ne 6, 3) := by decide +kernel
theorem dJ1_indexOfChar_4cfef_22 : decode cJ1_indexOfChar_4cfef 22 = .ok (.iload 5, 2) := by decide +kernel
theorem dJ1_indexOfChar_4cfef_24 : decode cJ1_indexOfChar_4cfef 24 = .ok (.ireturn, 1) := by decide +kernel
theorem dJ1_indexOfChar_4cfef_25 : decode cJ1_indexOfChar_4cfef 25 = .ok (.iinc 5 1, 3) := by decide +kernel
theorem dJ1_indexOfChar_4cfef_28 : decode cJ1_indexOfChar_4cfef 28 = .ok (.goto (-21), 3) := by decide +kernel
theorem dJ1_indexOfChar_4cfef_31 : decode cJ1_indexOfChar_4cfef 31 = .ok (.iconst (-1), 1) := by decide +kernel
theorem dJ1_indexOfChar_4cfef_32 : decode cJ1_indexOfChar_4cfef 32 = .ok (.ireturn, 1) := by decide +kernel
theorem dJ3_checkIndex_8e157_0 : decode cJ3_checkIndex_8e157 0 = .ok (.iload_n 0, 1) := by decide +kernel
theorem dJ3_checkIndex_8e157_1 : decode cJ3_checkIndex_8e157 1 = .ok (.ifCond .lt 8, 3) := by decide +kernel
theorem dJ3_checkIndex_8e157_4 : decode cJ3_checkIndex_8e157 4 = .ok (.iload_n 0, 1) := by decide +kernel
theorem dJ3_checkIndex_8e157_5 : decode cJ3_checkIndex_8e157 5 = .ok (.iload_n 1, 1) := by decide +kernel
theorem dJ3_checkIndex_8e157_6 : decode cJ3_checkIndex_8e157 6 = .ok (.if_icmp .lt 10, 3) := by decide +kernel
theorem dJ3_checkIndex_8e157_9 : decode cJ3_checkIndex_8e157 9 = .ok (.aload_n 2, 1) := by decide +kernel
theorem dJ3_checkIndex_8e157_10 : decode cJ3_checkIndex_8e157 10 = .ok (.iload_n 0, 1) := by decide +kernel
theorem dJ3_checkIndex_8e157_11 : decode cJ3_checkIndex_8e157 11 = .ok (.iload_n 1, 1) := by decide +kernel
theorem dJ3_checkIndex_8e157_12 : decode cJ3_checkIndex_8e157 12 = .ok (.invokestatic 95, 3) := by decide +kernel
theorem dJ3_checkIndex_8e157_15 : decode cJ3_checkIndex_8e157 15 = .ok (.athrow, 1) := by decide +kernel
theorem dJ3_checkIndex_8e157_16 : decode cJ3_checkIndex_8e157 16 = .ok (.iload_n 0, 1) := by decide +kernel
theorem dJ3_checkIndex_8e157_17 : decode cJ3_checkIndex_8e157 17 = .ok (.ireturn, 1) := by decide +kernel
theorem dJ3_checkFromToIndex_8c36e_0 : decode cJ3_checkFromToIndex_8c36e 0 = .ok (.iload_n 0, 1) := by decide +kernel
theorem dJ3_checkFromToIndex_8c36e_1 : decode cJ3_checkFromToIndex_8c36e 1 = .ok (.ifCond .lt 13, 3) := by decide +kernel
theorem dJ3_checkFromToIndex_8c36e_4 : decode cJ3_checkFromToIndex_8c36e 4 = .ok (.iload_n 0, 1) := by decide +kernel
theorem dJ3_checkFromToIndex_8c36e_5 : decode cJ3_checkFromToIndex_8c36e 5 = .ok (.iload_n 1, 1) := by decide +kernel
theorem dJ3_checkFromToIndex_8c36e_6 : decode cJ3_checkFromToIndex_8c36e 6 = .ok (.if_icmp .gt 8, 3) := by decide +kernel
theorem dJ3_checkFromToIndex_8c36e_9 : decode cJ3_checkFromToIndex_8c36e 9 = .ok (.iload_n 1, 1) := by decide +kernel
theorem dJ3_checkFromToIndex_8c36e_10 : decode cJ3_checkFromToIndex_8c36e 10 = .ok (.iload_n 2, 1) := by decide +kernel
theorem dJ3_checkFromToIndex_8c36e_11 : decode cJ3_checkFromToIndex_8c36e 11 = .ok (.if_icmp .le 11, 3) := by decide +kernel
theorem dJ3_checkFromToIndex_8c36e_14 : decode cJ3_checkFromToIndex_8c36e 14 = .ok (.aload_n 3, 1) := by decide +kernel
theorem dJ3_checkFromToIndex_8c36e_15 : decode cJ3_checkFromToIndex_8c36e 15 = .ok (.iload_n 0, 1) := by decide +kernel
theorem dJ3_checkFromToIndex_8c36e_16 : decode cJ3_checkFromToIndex_8c36e 16 = .ok (.iload_n 1, 1) := by decide +kernel
theorem dJ3_checkFromToIndex_8c36e_17 : decode cJ3_checkFromToIndex_8c36e 17 = .ok (.iload_n 2, 1) := by decide +kernel
theorem dJ3_checkFromToIndex_8c36e_18 : decode cJ3_checkFromToIndex_8c36e 18 = .ok (.invokestatic 99, 3) := by decide +kernel
theorem dJ3_checkFromToIndex_8c36e_21 : decode cJ3_checkFromToIndex_8c36e 21 = .ok (.athrow, 1) := by decide +kernel
theorem dJ3_checkFromToIndex_8c36e_22 : decode cJ3_checkFromToIndex_8c36e 22 = .ok (.iload_n 0, 1) := by decide +kernel
theorem dJ3_checkFromToIndex_8c36e_23 : decode cJ3_checkFromToIndex_8c36e 23 = .ok (.ireturn, 1) := by decide +kernel
theorem dX0_init_0 : decode cX0_init 0 = .ok (.aload_n 0, 1) := by decide +kernel
theorem dX0_init_1 : decode cX0_init 1 = .ok (.invokespecial 3, 3) := by decide +kernel
theorem dX0_init_4 : decode cX0_init 4 = .ok (.aload_n 0, 1) := by decide +kernel
theorem dX0_init_5 : decode cX0_init 5 = .ok (.aload_n 1, 1) := by decide +kernel
theorem dX0_init_6 : decode cX0_init 6 = .ok (.putfield 9, 3) := by decide +kernel
theorem dX0_init_9 : decode cX0_init 9 = .ok (.aload_n 0, 1) := by decide +kernel
theorem dX0_init_10 : decode cX0_init 10 = .ok (.aload_n 2, 1) := by decide +kernel
theorem dX0_init_11 : decode cX0_init 11 = .ok (.putfield 15, 3) := by decide +kernel
theorem dX0_init_14 : decode cX0_init 14 = .ok (.return_, 1) := by decide +kernel
theorem dX0_firstMisfit_0 : decode cX0_firstMisfit 0 = .ok (.aload_n 0, 1) := by decide +kernel
theorem dX0_firstMisfit_1 : decode cX0_firstMisfit 1 = .ok (.getfield 15, 3) := by decide +kernel
theorem dX0_firstMisfit_4 : decode cX0_firstMisfit 4 = .ok (.invokevirtual 19, 3) := by decide +kernel
theorem dX0_firstMisfit_7 : decode cX0_firstMisfit 7 = .ok (.aload_n 0, 1) := by decide +kernel
theorem dX0_firstMisfit_8 : decode cX0_firstMisfit 8 = .ok (.iconst 0, 1) := by decide +kernel
theorem dX0_firstMisfit_9 : decode cX0_firstMisfit 9 = .ok (.putfield 24, 3) := by decide +kernel
theorem dX0_firstMisfit_12 : decode cX0_firstMisfit 12 = .ok (.iconst 0, 1) := by decide +kernel
theorem dX0_firstMisfit_13 : decode cX0_firstMisfit 13 = .ok (.istore_n 1, 1) := by decide +kernel
theorem dX0_firstMisfit_14 : decode cX0_firstMisfit 14 = .ok (.iload_n 1, 1) := by decide +kernel
theorem dX0_firstMisfit_15 : decode cX0_firstMisfit 15 = .ok (.sipush 400, 3) := by decide +kernel
theorem dX0_firstMisfit_18 : decode cX0_firstMisfit 18 = .ok (.if_icmp .ge 38, 3) := by decide +kernel
theorem dX0_firstMisfit_21 : decode cX0_firstMisfit 21 = .ok (.aload_n 0, 1) := by decide +kernel
theorem dX0_firstMisfit_22 : decode cX0_firstMisfit 22 = .ok (.iconst 0, 1) := by decide +kernel
theorem dX0_firstMisfit_23 : decode cX0_firstMisfit 23 = .ok (.invokevirtual 28, 3) := by decide +kernel
theorem dX0_firstMisfit_26 : decode cX0_firstMisfit 26 = .ok (.ifCond .ne 30, 3) := by decide +kernel
theorem dX0_firstMisfit_29 : decode cX0_firstMisfit 29 = .ok (.aload_n 0, 1) := by decide +kernel
theorem dX0_firstMisfit_30 : decode cX0_firstMisfit 30 = .ok (.invokevirtual 32, 3) := by decide +kernel
theorem dX0_firstMisfit_33 : decode cX0_firstMisfit 33 = .ok (.ifCond .eq 12, 3) := by decide +kernel
theorem dX0_firstMisfit_36 : decode cX0_firstMisfit 36 = .ok (.aload_n 0, 1) := by decide +kernel
theorem dX0_firstMisfit_37 : decode cX0_firstMisfit 37 = .ok (.bipush 59, 2) := by decide +kernel
theorem dX0_firstMisfit_39 : decode cX0_firstMisfit 39 = .ok (.invokevirtual 36, 3) := by decide +kernel
theorem dX0_firstMisfit_42 : decode cX0_firstMisfit 42 = .ok (.ifCond .ne 8, 3) := by decide +kernel
theorem dX0_firstMisfit_45 : decode cX0_firstMisfit 45 = .ok (.aload_n 0, 1) := by decide +kernel
theorem dX0_firstMisfit_46 : decode cX0_firstMisfit 46 = .ok (.getfield 24, 3) := by decide +kernel
theorem dX0_firstMisfit_49 : decode cX0_firstMisfit 49 = .ok (.ireturn, 1) := by decide +kernel
theorem dX0_firstMisfit_50 : decode cX0_firstMisfit 50 = .ok (.iinc 1 1, 3) := by decide +kernel
theorem dX0_firstMisfit_53 : decode cX0_firstMisfit 53 = .ok (.goto (-39), 3) := by decide +kernel
theorem dX0_firstMisfit_56 : decode cX0_firstMisfit 56 = .ok (.aload_n 0, 1) := by decide +kernel
theorem dX0_firstMisfit_57 : decode cX0_firstMisfit 57 = .ok (.iconst 0, 1) := by decide +kernel
theorem dX0_firstMisfit_58 : decode cX0_firstMisfit 58 = .ok (.invokevirtual 28, 3) := by decide +kernel
theorem dX0_firstMisfit_61 : decode cX0_firstMisfit 61 = .ok (.ifCond .eq 7, 3) := by decide +kernel
theorem dX0_firstMisfit_64 : decode cX0_firstMisfit 64 = .ok (.iconst (-1), 1) := by decide +kernel
theorem dX0_firstMisfit_65 : decode cX0_firstMisfit 65 = .ok (.goto 7, 3) := by decide +kernel
theorem dX0_firstMisfit_68 : decode cX0_firstMisfit 68 = .ok (.aload_n 0, 1) := by decide +kernel
theorem dX0_firstMisfit_69 : decode cX0_firstMisfit 69 = .ok (.getfield 24, 3) := by decide +kernel
theorem dX0_firstMisfit_72 : decode cX0_firstMisfit 72 = .ok (.ireturn, 1) := by decide +kernel
theorem dX0_isNext_0 : decode cX0_isNext 0 = .ok (.aload_n 0, 1) := by decide +kernel
theorem dX0_isNext_1 : decode cX0_isNext 1 = .ok (.getfield 9, 3) := by decide +kernel
theorem dX0_isNext_4 : decode cX0_isNext 4 = .ok (.aload_n 0, 1) := by decide +kernel
theorem dX0_isNext_5 : decode cX0_isNext 5 = .ok (.getfield 24, 3) := by decide +kernel
theorem dX0_isNext_8 : decode cX0_isNext 8 = .ok (.invokevirtual 39, 3) := by decide +kernel
theorem dX0_isNext_11 : decode cX0_isNext 11 = .ok (.iload_n 1, 1) := by decide +kernel
theorem dX0_isNext_12 : decode cX0_isNext 12 = .ok (.if_icmp .ne 7, 3) := by decide +kernel
theorem dX0_isNext_15 : decode cX0_isNext 15 = .ok (.iconst 1, 1) := by decide +kernel
theorem dX0_isNext_16 : decode cX0_isNext 16 = .ok (.goto 4, 3) := by decide +kernel
theorem dX0_isNext_19 : decode cX0_isNext 19 = .ok (.iconst 0, 1) := by decide +kernel
theorem dX0_isNext_20 : decode cX0_isNext 20 = .ok (.ireturn, 1) := by decide +kernel
theorem dX0_take_0 : decode cX0_take 0 = .ok (.aload_n 0, 1) := by decide +kernel
theorem dX0_take_1 : decode cX0_take 1 = .ok (.getfield 9, 3) := by decide +kernel
theorem dX0_take_4 : decode cX0_take 4 = .ok (.aload_n 0, 1) := by decide +kernel
theorem dX0_take_5 : decode cX0_take 5 = .ok (.getfield 24, 3) := by decide +kernel
theorem dX0_take_8 : decode cX0_take 8 = .ok (.invokevirtual 39, 3) := by decide +kernel
theorem dX0_take_11 : decode cX0_take 11 = .ok (.iload_n 1, 1) := by decide +kernel
theorem dX0_take_12 : decode cX0_take 12 = .ok (.if_icmp .eq 5, 3) := by decide +kernel
theorem dX0_take_15 : decode cX0_take 15 = .ok (.iconst 0, 1) := by decide +kernel
theorem dX0_take_16 : decode cX0_take 16 = .ok (.ireturn, 1) := by decide +kernel
theorem dX0_take_17 : decode cX0_take 17 = .ok (.aload_n 0, 1) := by decide +kernel
theorem dX0_take_18 : decode cX0_take 18 = .ok (.dup, 1) := by decide +kernel
theorem dX0_take_19 : decode cX0_take 19 = .ok (.getfield 24, 3) := by decide +kernel
theorem dX0_take_22 : decode cX0_take 22 = .ok (.iconst 1, 1) := by decide +kernel
theorem dX0_take_23 : decode cX0_take 23 = .ok (.iadd, 1) := by decide +kernel
theorem dX0_take_24 : decode cX0_take 24 = .ok (.putfield 24, 3) := by decide +kernel
theorem dX0_take_27 : decode cX0_take 27 = .ok (.iconst 1, 1) := by decide +kernel
theorem dX0_take_28 : decode cX0_take 28 = .ok (.ireturn, 1) := by decide +kernel
theorem dX0_line_0 : decode cX0_line 0 = .ok (.aload_n 0, 1) := by decide +kernel
theorem dX0_line_1 : decode cX0_line 1 = .ok (.sipush 128, 3) := by decide +kernel
theorem dX0_line_4 : decode cX0_line 4 = .ok (.invokevirtual 36, 3) := by decide +kernel
theorem dX0_line_7 : decode cX0_line 7 = .ok (.ifCond .eq 8, 3) := by decide +kernel
theorem dX0_line_10 : decode cX0_line 10 = .ok (.aload_n 0, 1) := by decide +kernel
theorem dX0_line_11 : decode cX0_line 11 = .ok (.invokevirtual 45, 3) := by decide +kernel
theorem dX0_line_14 : decode cX0_line 14 = .ok (.ireturn, 1) := by decide +kernel
theorem dX0_line_15 : decode cX0_line 15 = .ok (.aload_n 0, 1) := by decide +kernel
theorem dX0_line_16 : decode cX0_line 16 = .ok (.sipush 131, 3) := by decide +kernel
theorem dX0_line_19 : decode cX0_line 19 = .ok (.invokevirtual 36, 3) := by decide +kernel
theorem dX0_line_22 : decode cX0_line 22 = .ok (.ifCond .ne 13, 3) := by decide +kernel
theorem dX0_line_25 : decode cX0_line 25 = .ok (.aload_n 0, 1) := by decide +kernel
theorem dX0_line_26 : decode cX0_line 26 = .ok (.sipush 132, 3) := by decide +kernel
theorem dX0_line_29 : decode cX0_line 29 = .ok (.invokevirtual 36, 3) := by decide +kernel
theorem dX0_line_32 : decode cX0_line 32 = .ok (.ifCond .eq 9, 3) := by decide +kernel
theorem dX0_line_35 : decode cX0_line 35 = .ok (.aload_n 0, 1) := by decide +kernel
theorem dX0_line_36 : decode cX0_line 36 = .ok (.iconst 3, 1) := by decide +kernel
theorem dX0_line_37 : decode cX0_line 37 = .ok (.invokevirtual 36, 3) := by decide +kernel
theorem dX0_line_40 : decode cX0_line 40 = .ok (.ireturn, 1) := by decide +kernel
theorem dX0_line_41 : decode cX0_line 41 = .ok (.aload_n 0, 1) := by decide +kernel
theorem dX0_line_42 : decode cX0_line 42 = .ok (.getfield 9, 3) := by decide +kernel
theorem dX0_line_45 : decode cX0_line 45 = .ok (.aload_n 0, 1) := by decide +kernel
theorem dX0_line_46 : decode cX0_line 46 = .ok (.getfield 24, 3) := by decide +kernel
theorem dX0_line_49 : decode cX0_line 49 = .ok (.invokevirtual 39, 3) := by decide +kernel
theorem dX0_line_52 : decode cX0_line 52 = .ok (.istore_n 1, 1) := by decide +kernel
theorem dX0_line_53 : decode cX0_line 53 = .ok (.aload_n 0, 1) := by decide +kernel
theorem dX0_line_54 : decode cX0_line 54 = .ok (.getfield 24, 3) := by decide +kernel
theorem dX0_line_57 : decode cX0_line 57 = .ok (.iconst 1, 1) := by decide +kernel
theorem dX0_line_58 : decode cX0_line 58 = .ok (.iadd, 1) := by decide +kernel
theorem dX0_line_59 : decode cX0_line 59 = .ok (.istore_n 2, 1) := by decide +kernel
theorem dX0_line_60 : decode cX0_line 60 = .ok (.aload_n 0, 1) := by decide +kernel
theorem dX0_line_61 : decode cX0_line 61 = .ok (.iload_n 1, 1) := by decide +kernel
theorem dX0_line_62 : decode cX0_line 62 = .ok (.invokevirtual 48, 3) := by decide +kernel
theorem dX0_line_65 : decode cX0_line 65 = .ok (.ifCond .ne 5, 3) := by decide +kernel
theorem dX0_line_68 : decode cX0_line 68 = .ok (.iconst 0, 1) := by decide +kernel
theorem dX0_line_69 : decode cX0_line 69 = .ok (.ireturn, 1) := by decide +kernel
theorem dX0_line_70 : decode cX0_line 70 = .ok (.aload_n 0, 1) := by decide +kernel
theorem dX0_line_71 : decode cX0_line 71 = .ok (.sipush 139, 3) := by decide +kernel
theorem dX0_line_74 : decode cX0_line 74 = .ok (.invokevirtual 36, 3) := by decide +kernel
theorem dX0_line_77 : decode cX0_line 77 = .ok (.ifCond .ne 16, 3) := by decide +kernel
theorem dX0_line_80 : decode cX0_line 80 = .ok (.aload_n 0, 1) := by decide +kernel
theorem dX0_line_81 : decode cX0_line 81 = .ok (.getfield 15, 3) := by decide +kernel
theorem dX0_line_84 : decode cX0_line 84 = .ok (.bipush 7, 2) := by decide +kernel
theorem dX0_line_86 : decode cX0_line 86 = .ok (.iload_n 2, 1) := by decide +kernel
theorem dX0_line_87 : decode cX0_line 87 = .ok (.invokevirtual 51, 3) := by decide +kernel
theorem dX0_line_90 : decode cX0_line 90 = .ok (.goto 13, 3) := by decide +kernel
theorem dX0_line_93 : decode cX0_line 93 = .ok (.aload_n 0, 1) := by decide +kernel
theorem dX0_line_94 : decode cX0_line 94 = .ok (.iconst 0, 1) := by decide +kernel
theorem dX0_line_95 : decode cX0_line 95 = .ok (.invokevirtual 55, 3) := by decide +kernel
theorem dX0_line_98 : decode cX0_line 98 = .ok (.ifCond .ne 5, 3) := by decide +kernel
theorem dX0_line_101 : decode cX0_line 101 = .ok (.iconst 0, 1) := by decide +kernel
theorem dX0_line_102 : decode cX0_line 102 = .ok (.ireturn, 1) := by decide +kernel
theorem dX0_line_103 : decode cX0_line 103 = .ok (.aload_n 0, 1) := by decide +kernel
theorem dX0_line_104 : decode cX0_line 104 = .ok (.getfield 15, 3) := by decide +kernel
theorem dX0_line_107 : decode cX0_line 107 = .ok (.iload_n 1, 1) := by decide +kernel
theorem dX0_line_108 : decode cX0_line 108 = .ok (.iload_n 2, 1) := by decide +kernel
theorem dX0_line_109 : decode cX0_line 109 = .ok (.invokevirtual 51, 3) := by decide +kernel
theorem dX0_line_112 : decode cX0_line 112 = .ok (.iconst 1, 1) := by decide +kernel
theorem dX0_line_113 : decode cX0_line 113 = .ok (.ireturn, 1) := by decide +kernel
theorem dX0_mirror_0 : decode cX0_mirror 0 = .ok (.aload_n 0, 1) := by decide +kernel
theorem dX0_mirror_1 : decode cX0_mirror 1 = .ok (.iconst 2, 1) := by decide +kernel
theorem dX0_mirror_2 : decode cX0_mirror 2 = .ok (.invokevirtual 36, 3) := by decide +kernel
theorem dX0_mirror_5 : decode cX0_mirror 5 = .ok (.ifCond .eq 31, 3) := by decide +kernel
theorem dX0_mirror_8 : decode cX0_mirror 8 = .ok (.aload_n 0, 1) := by decide +kernel
theorem dX0_mirror_9 : decode cX0_mirror 9 = .ok (.sipush 129, 3) := by decide +kernel
theorem dX0_mirror_12 : decode cX0_mirror 12 = .ok (.invokevirtual 36, 3) := by decide +kernel
theorem dX0_mirror_15 : decode cX0_mirror 15 = .ok (.ifCond .eq 21, 3) := by decide +kernel
theorem dX0_mirror_18 : decode cX0_mirror 18 = .ok (.aload_n 0, 1) := by decide +kernel
theorem dX0_mirror_19 : decode cX0_mirror 19 = .ok (.iconst 3, 1) := by decide +kernel
theorem dX0_mirror_20 : decode cX0_mirror 20 = .ok (.invokevirtual 36, 3) := by decide +kernel
theorem dX0_mirror_23 : decode cX0_mirror 23 = .ok (.ifCond .eq 13, 3) := by decide +kernel
theorem dX0_mirror_26 : decode cX0_mirror 26 = .ok (.aload_n 0, 1) := by decide +kernel
theorem dX0_mirror_27 : decode cX0_mirror 27 = .ok (.sipush 130, 3) := by decide +kernel
theorem dX0_mirror_30 : decode cX0_mirror 30 = .ok (.invokevirtual 36, 3) := by decide +kernel
theorem dX0_mirror_33 : decode cX0_mirror 33 = .ok (.ifCond .ne 5, 3) := by decide +kernel
theorem dX0_mirror_36 : decode cX0_mirror 36 = .ok (.iconst 0, 1) := by decide +kernel
theorem dX0_mirror_37 : decode cX0_mirror 37 = .ok (.ireturn, 1) := by decide +kernel
theorem dX0_mirror_38 : decode cX0_mirror 38 = .ok (.aload_n 0, 1) := by decide +kernel
theorem dX0_mirror_39 : decode cX0_mirror 39 = .ok (.bipush 45, 2) := by decide +kernel
theorem dX0_mirror_41 : decode cX0_mirror 41 = .ok (.invokevirtual 36, 3) := by decide +kernel
theorem dX0_mirror_44 : decode cX0_mirror 44 = .ok (.pop, 1) := by decide +kernel
theorem dX0_mirror_45 : decode cX0_mirror 45 = .ok (.aload_n 0, 1) := by decide +kernel
theorem dX0_mirror_46 : decode cX0_mirror 46 = .ok (.iconst 3, 1) := by decide +kernel
theorem dX0_mirror_47 : decode cX0_mirror 47 = .ok (.invokevirtual 36, 3) := by decide +kernel
theorem dX0_mirror_50 : decode cX0_mirror 50 = .ok (.ireturn, 1) := by decide +kernel
theorem dX0_order_0 : decode cX0_order 0 = .ok (.iload_n 1, 1) := by decide +kernel
theorem dX0_order_1 : decode cX0_order 1 = .ok (.invokestatic 58, 3) := by decide +kernel
theorem dX0_order_4 : decode cX0_order 4 = .ok (.ifCond .eq 19, 3) := by decide +kernel
theorem dX0_order_7 : decode cX0_order 7 = .ok (.aload_n 0, 1) := by decide +kernel
theorem dX0_order_8 : decode cX0_order 8 = .ok (.iload_n 1, 1) := by decide +kernel
theorem dX0_order_9 : decode cX0_order 9 = .ok (.invokevirtual 36, 3) := by decide +kernel
theorem dX0_order_12 : decode cX0_order 12 = .ok (.ifCond .eq 11, 3) := by decide +kernel
theorem dX0_order_15 : decode cX0_order 15 = .ok (.aload_n 0, 1) := by decide +kernel
theorem dX0_order_16 : decode cX0_order 16 = .ok (.iconst 2, 1) := by decide +kernel
theorem dX0_order_17 : decode cX0_order 17 = .ok (.invokevirtual 36, 3) := by decide +kernel
theorem dX0_order_20 : decode cX0_order 20 = .ok (.ifCond .ne 5, 3) := by decide +kernel
theorem dX0_order_23 : decode cX0_order 23 = .ok (.iconst 0, 1) := by decide +kernel
theorem dX0_order_24 : decode cX0_order 24 = .ok (.ireturn, 1) := by decide +kernel
theorem dX0_order_25 : decode cX0_order 25 = .ok (.iload_n 1, 1) := by decide +kernel
theorem dX0_order_26 : decode cX0_order 26 = .ok (.invokestatic 61, 3) := by decide +kernel
theorem dX0_order_29 : decode cX0_order 29 = .ok (.ifCond .eq 21, 3) := by decide +kernel
theorem dX0_order_32 : decode cX0_order 32 = .ok (.aload_n 0, 1) := by decide +kernel
theorem dX0_order_33 : decode cX0_order 33 = .ok (.sipush 134, 3) := by decide +kernel
theorem dX0_order_36 : decode cX0_order 36 = .ok (.invokevirtual 36, 3) := by decide +kernel
theorem dX0_order_39 : decode cX0_order 39 = .ok (.ifCond .eq 15, 3) := by decide +kernel
theorem dX0_order_42 : decode cX0_order 42 = .ok (.aload_n 0, 1) := by decide +kernel
theorem dX0_order_43 : decode cX0_order 43 = .ok (.iconst 0, 1) := by decide +kernel
theorem dX0_order_44 : decode cX0_order 44 = .ok (.invokevirtual 64, 3) := by decide +kernel
theorem dX0_order_47 : decode cX0_order 47 = .ok (.ifCond .eq 7, 3) := by decide +kernel
theorem dX0_order_50 : decode cX0_order 50 = .ok (.iconst 1, 1) := by decide +kernel
theorem dX0_order_51 : decode cX0_order 51 = .ok (.goto 4, 3) := by decide +kernel
theorem dX0_order_54 : decode cX0_order 54 = .ok (.iconst 0, 1) := by decide +kernel
theorem dX0_order_55 : decode cX0_order 55 = .ok (.ireturn, 1) := by decide +kernel
theorem dX0_test_0 : decode cX0_test 0 = .ok (.aload_n 0, 1) := by decide +kernel
theorem dX0_test_1 : decode cX0_test 1 = .ok (.iload_n 1, 1) := by decide +kernel
theorem dX0_test_2 : decode cX0_test 2 = .ok (.invokevirtual 67, 3) := by decide +kernel
theorem dX0_test_5 : decode cX0_test 5 = .ok (.ifCond .ne 5, 3) := by decide +kernel
theorem dX0_test_8 : decode cX0_test 8 = .ok (.iconst 0, 1) := by decide +kernel
theorem dX0_test_9 : decode cX0_test 9 = .ok (.ireturn, 1) := by decide +kernel
theorem dX0_test_10 : decode cX0_test 10 = .ok (.iconst 0, 1) := by decide +kernel
theorem dX0_test_11 : decode cX0_test 11 = .ok (.istore_n 2, 1) := by decide +kernel
theorem dX0_test_12 : decode cX0_test 12 = .ok (.iload_n 2, 1) := by decide +kernel
theorem dX0_test_13 : decode cX0_test 13 = .ok (.sipush 400, 3) := by decide +kernel
theorem dX0_test_16 : decode cX0_test 16 = .ok (.if_icmp .ge 43, 3) := by decide +kernel
theorem dX0_test_19 : decode cX0_test 19 = .ok (.aload_n 0, 1) := by decide +kernel
theorem dX0_test_20 : decode cX0_test 20 = .ok (.sipush 151, 3) := by decide +kernel
theorem dX0_test_23 : decode cX0_test 23 = .ok (.invokevirtual 36, 3) := by decide +kernel
theorem dX0_test_26 : decode cX0_test 26 = .ok (.ifCond .eq 33, 3) := by decide +kernel
theorem dX0_test_29 : decode cX0_test 29 = .ok (.aload_n 0, 1) := by decide +kernel
theorem dX0_test_30 : decode cX0_test 30 = .ok (.iload_n 1, 1) := by decide +kernel
theorem dX0_test_31 : decode cX0_test 31 = .ok (.invokevirtual 67, 3) := by decide +kernel
theorem dX0_test_34 : decode cX0_test 34 = .ok (.ifCond .ne 5, 3) := by decide +kernel
theorem dX0_test_37 : decode cX0_test 37 = .ok (.iconst 0, 1) := by decide +kernel
theorem dX0_test_38 : decode cX0_test 38 = .ok (.ireturn, 1) := by decide +kernel
theorem dX0_test_39 : decode cX0_test 39 = .ok (.aload_n 0, 1) := by decide +kernel
theorem dX0_test_40 : decode cX0_test 40 = .ok (.getfield 15, 3) := by decide +kernel
theorem dX0_test_43 : decode cX0_test 43 = .ok (.sipush 151, 3) := by decide +kernel
theorem dX0_test_46 : decode cX0_test 46 = .ok (.aload_n 0, 1) := by decide +kernel
theorem dX0_test_47 : decode cX0_test 47 = .ok (.getfield 24, 3) := by decide +kernel
theorem dX0_test_50 : decode cX0_test 50 = .ok (.invokevirtual 51, 3) := by decide +kernel
theorem dX0_test_53 : decode cX0_test 53 = .ok (.iinc 2 1, 3) := by decide +kernel
theorem dX0_test_56 : decode cX0_test 56 = .ok (.goto (-44), 3) := by decide +kernel
theorem dX0_test_59 : decode cX0_test 59 = .ok (.iconst 1, 1) := by decide +kernel
theorem dX0_test_60 : decode cX0_test 60 = .ok (.ireturn, 1) := by decide +kernel
theorem dX0_both_0 : decode cX0_both 0 = .ok (.aload_n 0, 1) := by decide +kernel
theorem dX0_both_1 : decode cX0_both 1 = .ok (.iload_n 1, 1) := by decide +kernel
theorem dX0_both_2 : decode cX0_both 2 = .ok (.invokevirtual 70, 3) := by decide +kernel
theorem dX0_both_5 : decode cX0_both 5 = .ok (.ifCond .ne 5, 3) := by decide +kernel
theorem dX0_both_8 : decode cX0_both 8 = .ok (.iconst 0, 1) := by decide +kernel
theorem dX0_both_9 : decode cX0_both 9 = .ok (.ireturn, 1) := by decide +kernel
theorem dX0_both_10 : decode cX0_both 10 = .ok (.iconst 0, 1) := by decide +kernel
theorem dX0_both_11 : decode cX0_both 11 = .ok (.istore_n 2, 1) := by decide +kernel
theorem dX0_both_12 : decode cX0_both 12 = .ok (.iload_n 2, 1) := by decide +kernel
theorem dX0_both_13 : decode cX0_both 13 = .ok (.sipush 400, 3) := by decide +kernel
theorem dX0_both_16 : decode cX0_both 16 = .ok (.if_icmp .ge 43, 3) := by decide +kernel
theorem dX0_both_19 : decode cX0_both 19 = .ok (.aload_n 0, 1) := by decide +kernel
theorem dX0_both_20 : decode cX0_both 20 = .ok (.sipush 150, 3) := by decide +kernel
theorem dX0_both_23 : decode cX0_both 23 = .ok (.invokevirtual 36, 3) := by decide +kernel
theorem dX0_both_26 : decode cX0_both 26 = .ok (.ifCond .eq 33, 3) := by decide +kernel
theorem dX0_both_29 : decode cX0_both 29 = .ok (.aload_n 0, 1) := by decide +kernel
theorem dX0_both_30 : decode cX0_both 30 = .ok (.iload_n 1, 1) := by decide +kernel
theorem dX0_both_31 : decode cX0_both 31 = .ok (.invokevirtual 70, 3) := by decide +kernel
theorem dX0_both_34 : decode cX0_both 34 = .ok (.ifCond .ne 5, 3) := by decide +kernel
theorem dX0_both_37 : decode cX0_both 37 = .ok (.iconst 0, 1) := by decide +kernel
theorem dX0_both_38 : decode cX0_both 38 = .ok (.ireturn, 1) := by decide +kernel
theorem dX0_both_39 : decode cX0_both 39 = .ok (.aload_n 0, 1) := by decide +kernel
theorem dX0_both_40 : decode cX0_both 40 = .ok (.getfield 15, 3) := by decide +kernel
theorem dX0_both_43 : decode cX0_both 43 = .ok (.sipush 150, 3) := by decide +kernel
theorem dX0_both_46 : decode cX0_both 46 = .ok (.aload_n 0, 1) := by decide +kernel
theorem dX0_both_47 : decode cX0_both 47 = .ok (.getfield 24, 3) := by decide +kernel
theorem dX0_both_50 : decode cX0_both 50 = .ok (.invokevirtual 51, 3) := by decide +kernel
theorem dX0_both_53 : decode cX0_both 53 = .ok (.iinc 2 1, 3) := by decide +kernel
theorem dX0_both_56 : decode cX0_both 56 = .ok (.goto (-44), 3) := by decide +kernel
theorem dX0_both_59 : decode cX0_both 59 = .ok (.iconst 1, 1) := by decide +kernel
theorem dX0_both_60 : decode cX0_both 60 = .ok (.ireturn, 1) := by decide +kernel
theorem dX0_single_0 : decode cX0_single 0 = .ok (.aload_n 0, 1) := by decide +kernel
theorem dX0_single_1 : decode cX0_single 1 = .ok (.getfield 9, 3) := by decide +kernel
theorem dX0_single_4 : decode cX0_single 4 = .ok (.aload_n 0, 1) := by decide +kernel
theorem dX0_single_5 : decode cX0_single 5 = .ok (.getfield 24, 3) := by decide +kernel
theorem dX0_single_8 : decode cX0_single 8 = .ok (.invokevirtual 39, 3) := by decide +kernel
theorem dX0_single_11 : decode cX0_single 11 = .ok (.istore_n 2, 1) := by decide +kernel
theorem dX0_single_12 : decode cX0_single 12 = .ok (.iload_n 2, 1) := by decide +kernel
theorem dX0_single_13 : decode cX0_single 13 = .ok (.lookupswitch 189 #[(91, 87), (147, 127), (148, 149), (149, 43)], 43) := by decide +kernel
theorem dX0_single_56 : decode cX0_single 56 = .ok (.iload_n 1, 1) := by decide +kernel
theorem dX0_single_57 : decode cX0_single 57 = .ok (.bipush 8, 2) := by decide +kernel
theorem dX0_single_59 : decode cX0_single 59 = .ok (.if_icmp .ge 23, 3) := by decide +kernel
theorem dX0_single_62 : decode cX0_single 62 = .ok (.aload_n 0, 1) := by decide +kernel
theorem dX0_single_63 : decode cX0_single 63 = .ok (.sipush 149, 3) := by decide +kernel
theorem dX0_single_66 : decode cX0_single 66 = .ok (.invokevirtual 36, 3) := by decide +kernel
theorem dX0_single_69 : decode cX0_single 69 = .ok (.ifCond .eq 13, 3) := by decide +kernel
theorem dX0_single_72 : decode cX0_single 72 = .ok (.aload_n 0, 1) := by decide +kernel
theorem dX0_single_73 : decode cX0_single 73 = .ok (.iload_n 1, 1) := by decide +kernel
theorem dX0_single_74 : decode cX0_single 74 = .ok (.iconst 1, 1) := by decide +kernel
theorem dX0_single_75 : decode cX0_single 75 = .ok (.iadd, 1) := by decide +kernel
theorem dX0_single_76 : decode cX0_single 76 = .ok (.invokevirtual 70, 3) := by decide +kernel
theorem dX0_single_79 : decode cX0_single 79 = .ok (.ifCond .ne 5, 3) := by decide +kernel
theorem dX0_single_82 : decode cX0_single 82 = .ok (.iconst 0, 1) := by decide +kernel
theorem dX0_single_83 : decode cX0_single 83 = .ok (.ireturn, 1) := by decide +kernel
theorem dX0_single_84 : decode cX0_single 84 = .ok (.aload_n 0, 1) := by decide +kernel
theorem dX0_single_85 : decode cX0_single 85 = .ok (.getfield 15, 3) := by decide +kernel
theorem dX0_single_88 : decode cX0_single 88 = .ok (.sipush 149, 3) := by decide +kernel
theorem dX0_single_91 : decode cX0_single 91 = .ok (.aload_n 0, 1) := by decide +kernel
theorem dX0_single_92 : decode cX0_single 92 = .ok (.getfield 24, 3) := by decide +kernel
theorem dX0_single_95 : decode cX0_single 95 = .ok (.invokevirtual 51, 3) := by decide +kernel
theorem dX0_single_98 : decode cX0_single 98 = .ok (.iconst 1, 1) := by decide +kernel
theorem dX0_single_99 : decode cX0_single 99 = .ok (.ireturn, 1) := by decide +kernel
theorem dX0_single_100 : decode cX0_single 100 = .ok (.iload_n 1, 1) := by decide +kernel
theorem dX0_single_101 : decode cX0_single 101 = .ok (.bipush 8, 2) := by decide +kernel
theorem dX0_single_103 : decode cX0_single 103 = .ok (.if_icmp .ge 35, 3) := by decide +kernel
theorem dX0_single_106 : decode cX0_single 106 = .ok (.aload_n 0, 1) := by decide +kernel
theorem dX0_single_107 : decode cX0_single 107 = .ok (.bipush 91, 2) := by decide +kernel
theorem dX0_single_109 : decode cX0_single 109 = .ok (.invokevirtual 36, 3) := by decide +kernel
theorem dX0_single_112 : decode cX0_single 112 = .ok (.ifCond .eq 26, 3) := by decide +kernel
theorem dX0_single_115 : decode cX0_single 115 = .ok (.aload_n 0, 1) := by decide +kernel
theorem dX0_single_116 : decode cX0_single 116 = .ok (.iload_n 1, 1) := by decide +kernel
theorem dX0_single_117 : decode cX0_single 117 = .ok (.iconst 1, 1) := by decide +kernel
theorem dX0_single_118 : decode cX0_single 118 = .ok (.iadd, 1) := by decide +kernel
theorem dX0_single_119 : decode cX0_single 119 = .ok (.invokevirtual 55, 3) := by decide +kernel
theorem dX0_single_122 : decode cX0_single 122 = .ok (.ifCond .eq 16, 3) := by decide +kernel
theorem dX0_single_125 : decode cX0_single 125 = .ok (.aload_n 0, 1) := by decide +kernel
theorem dX0_single_126 : decode cX0_single 126 = .ok (.bipush 93, 2) := by decide +kernel
theorem dX0_single_128 : decode cX0_single 128 = .ok (.invokevirtual 36, 3) := by decide +kernel
theorem dX0_single_131 : decode cX0_single 131 = .ok (.ifCond .eq 7, 3) := by decide +kernel
theorem dX0_single_134 : decode cX0_single 134 = .ok (.iconst 1, 1) := by decide +kernel
theorem dX0_single_135 : decode cX0_single 135 = .ok (.goto 4, 3) := by decide +kernel
theorem dX0_single_138 : decode cX0_single 138 = .ok (.iconst 0, 1) := by decide +kernel
theorem dX0_single_139 : decode cX0_single 139 = .ok (.ireturn, 1) := by decide +kernel
theorem dX0_single_140 : decode cX0_single 140 = .ok (.aload_n 0, 1) := by decide +kernel
theorem dX0_single_141 : decode cX0_single 141 = .ok (.getfield 15, 3) := by decide +kernel
theorem dX0_single_144 : decode cX0_single 144 = .ok (.sipush 147, 3) := by decide +kernel
theorem dX0_single_147 : decode cX0_single 147 = .ok (.aload_n 0, 1) := by decide +kernel
theorem dX0_single_148 : decode cX0_single 148 = .ok (.getfield 24, 3) := by decide +kernel
theorem dX0_single_151 : decode cX0_single 151 = .ok (.invokevirtual 51, 3) := by decide +kernel
theorem dX0_single_154 : decode cX0_single 154 = .ok (.aload_n 0, 1) := by decide +kernel
theorem dX0_single_155 : decode cX0_single 155 = .ok (.sipush 147, 3) := by decide +kernel
theorem dX0_single_158 : decode cX0_single 158 = .ok (.invokevirtual 36, 3) := by decide +kernel
theorem dX0_single_161 : decode cX0_single 161 = .ok (.ireturn, 1) := by decide +kernel
theorem dX0_single_162 : decode cX0_single 162 = .ok (.aload_n 0, 1) := by decide +kernel
theorem dX0_single_163 : decode cX0_single 163 = .ok (.getfield 15, 3) := by decide +kernel
theorem dX0_single_166 : decode cX0_single 166 = .ok (.sipush 148, 3) := by decide +kernel
theorem dX0_single_169 : decode cX0_single 169 = .ok (.aload_n 0, 1) := by decide +kernel
theorem dX0_single_170 : decode cX0_single 170 = .ok (.getfield 24, 3) := by decide +kernel
theorem dX0_single_173 : decode cX0_single 173 = .ok (.iconst 1, 1) := by decide +kernel
theorem dX0_single_174 : decode cX0_single 174 = .ok (.iadd, 1) := by decide +kernel
theorem dX0_single_175 : decode cX0_single 175 = .ok (.invokevirtual 51, 3) := by decide +kernel
theorem dX0_single_178 : decode cX0_single 178 = .ok (.aload_n 0, 1) := by decide +kernel
theorem dX0_single_179 : decode cX0_single 179 = .ok (.sipush 148, 3) := by decide +kernel
theorem dX0_single_182 : decode cX0_single 182 = .ok (.invokevirtual 36, 3) := by decide +kernel
theorem dX0_single_185 : decode cX0_single 185 = .ok (.ifCond .eq 15, 3) := by decide +kernel
theorem dX0_single_188 : decode cX0_single 188 = .ok (.aload_n 0, 1) := by decide +kernel
theorem dX0_single_189 : decode cX0_single 189 = .ok (.iconst 2, 1) := by decide +kernel
theorem dX0_single_190 : decode cX0_single 190 = .ok (.invokevirtual 36, 3) := by decide +kernel
theorem dX0_single_193 : decode cX0_single 193 = .ok (.ifCond .eq 7, 3) := by decide +kernel
theorem dX0_single_196 : decode cX0_single 196 = .ok (.iconst 1, 1) := by decide +kernel
theorem dX0_single_197 : decode cX0_single 197 = .ok (.goto 4, 3) := by decide +kernel
theorem dX0_single_200 : decode cX0_single 200 = .ok (.iconst 0, 1) := by decide +kernel
theorem dX0_single_201 : decode cX0_single 201 = .ok (.ireturn, 1) := by decide +kernel
theorem dX0_single_202 : decode cX0_single 202 = .ok (.aload_n 0, 1) := by decide +kernel
theorem dX0_single_203 : decode cX0_single 203 = .ok (.iload_n 1, 1) := by decide +kernel
theorem dX0_single_204 : decode cX0_single 204 = .ok (.invokevirtual 64, 3) := by decide +kernel
theorem dX0_single_207 : decode cX0_single 207 = .ok (.ifCond .ne 5, 3) := by decide +kernel
theorem dX0_single_210 : decode cX0_single 210 = .ok (.iconst 0, 1) := by decide +kernel
theorem dX0_single_211 : decode cX0_single 211 = .ok (.ireturn, 1) := by decide +kernel
theorem dX0_single_212 : decode cX0_single 212 = .ok (.aload_n 0, 1) := by decide +kernel
theorem dX0_single_213 : decode cX0_single 213 = .ok (.getfield 9, 3) := by decide +kernel
theorem dX0_single_216 : decode cX0_single 216 = .ok (.aload_n 0, 1) := by decide +kernel
theorem dX0_single_217 : decode cX0_single 217 = .ok (.getfield 24, 3) := by decide +kernel
theorem dX0_single_220 : decode cX0_single 220 = .ok (.invokevirtual 39, 3) := by decide +kernel
theorem dX0_single_223 : decode cX0_single 223 = .ok (.istore_n 3, 1) := by decide +kernel
theorem dX0_single_224 : decode cX0_single 224 = .ok (.aload_n 0, 1) := by decide +kernel
theorem dX0_single_225 : decode cX0_single 225 = .ok (.bipush 60, 2) := by decide +kernel
theorem dX0_single_227 : decode cX0_single 227 = .ok (.invokevirtual 36, 3) := by decide +kernel
theorem dX0_single_230 : decode cX0_single 230 = .ok (.ifCond .ne 37, 3) := by decide +kernel
theorem dX0_single_233 : decode cX0_single 233 = .ok (.aload_n 0, 1) := by decide +kernel
theorem dX0_single_234 : decode cX0_single 234 = .ok (.bipush 62, 2) := by decide +kernel
theorem dX0_single_236 : decode cX0_single 236 = .ok (.invokevirtual 36, 3) := by decide +kernel
theorem dX0_single_239 : decode cX0_single 239 = .ok (.ifCond .ne 28, 3) := by decide +kernel
theorem dX0_single_242 : decode cX0_single 242 = .ok (.aload_n 0, 1) := by decide +kernel
theorem dX0_single_243 : decode cX0_single 243 = .ok (.bipush 61, 2) := by decide +kernel
theorem dX0_single_245 : decode cX0_single 245 = .ok (.invokevirtual 36, 3) := by decide +kernel
theorem dX0_single_248 : decode cX0_single 248 = .ok (.ifCond .ne 19, 3) := by decide +kernel
theorem dX0_single_251 : decode cX0_single 251 = .ok (.aload_n 0, 1) := by decide +kernel
theorem dX0_single_252 : decode cX0_single 252 = .ok (.iconst 4, 1) := by decide +kernel
theorem dX0_single_253 : decode cX0_single 253 = .ok (.invokevirtual 36, 3) := by decide +kernel
theorem dX0_single_256 : decode cX0_single 256 = .ok (.ifCond .ne 11, 3) := by decide +kernel
theorem dX0_single_259 : decode cX0_single 259 = .ok (.aload_n 0, 1) := by decide +kernel
theorem dX0_single_260 : decode cX0_single 260 = .ok (.iconst 5, 1) := by decide +kernel
theorem dX0_single_261 : decode cX0_single 261 = .ok (.invokevirtual 36, 3) := by decide +kernel
theorem dX0_single_264 : decode cX0_single 264 = .ok (.ifCond .eq 7, 3) := by decide +kernel
theorem dX0_single_267 : decode cX0_single 267 = .ok (.iconst 1, 1) := by decide +kernel
theorem dX0_single_268 : decode cX0_single 268 = .ok (.goto 4, 3) := by decide +kernel
theorem dX0_single_271 : decode cX0_single 271 = .ok (.iconst 0, 1) := by decide +kernel
theorem dX0_single_272 : decode cX0_single 272 = .ok (.istore 4, 2) := by decide +kernel
theorem dX0_single_274 : decode cX0_single 274 = .ok (.iload 4, 2) := by decide +kernel
theorem dX0_single_276 : decode cX0_single 276 = .ok (.ifCond .eq 11, 3) := by decide +kernel
theorem dX0_single_279 : decode cX0_single 279 = .ok (.aload_n 0, 1) := by decide +kernel
theorem dX0_single_280 : decode cX0_single 280 = .ok (.iload_n 1, 1) := by decide +kernel
theorem dX0_single_281 : decode cX0_single 281 = .ok (.invokevirtual 64, 3) := by decide +kernel
theorem dX0_single_284 : decode cX0_single 284 = .ok (.ifCond .ne 5, 3) := by decide +kernel
theorem dX0_single_287 : decode cX0_single 287 = .ok (.iconst 0, 1) := by decide +kernel
theorem dX0_single_288 : decode cX0_single 288 = .ok (.ireturn, 1) := by decide +kernel
theorem dX0_single_289 : decode cX0_single 289 = .ok (.aload_n 0, 1) := by decide +kernel
theorem dX0_single_290 : decode cX0_single 290 = .ok (.getfield 15, 3) := by decide +kernel
theorem dX0_single_293 : decode cX0_single 293 = .ok (.iload_n 3, 1) := by decide +kernel
theorem dX0_single_294 : decode cX0_single 294 = .ok (.aload_n 0, 1) := by decide +kernel
theorem dX0_single_295 : decode cX0_single 295 = .ok (.getfield 24, 3) := by decide +kernel
theorem dX0_single_298 : decode cX0_single 298 = .ok (.invokevirtual 51, 3) := by decide +kernel
theorem dX0_single_301 : decode cX0_single 301 = .ok (.iconst 1, 1) := by decide +kernel
theorem dX0_single_302 : decode cX0_single 302 = .ok (.ireturn, 1) := by decide +kernel
theorem dX0_sum_0 : decode cX0_sum 0 = .ok (.aload_n 0, 1) := by decide +kernel
theorem dX0_sum_1 : decode cX0_sum 1 = .ok (.iload_n 1, 1) := by decide +kernel
theorem dX0_sum_2 : decode cX0_sum 2 = .ok (.invokevirtual 73, 3) := by decide +kernel
theorem dX0_sum_5 : decode cX0_sum 5 = .ok (.ifCond .ne 5, 3) := by decide +kernel
theorem dX0_sum_8 : decode cX0_sum 8 = .ok (.iconst 0, 1) := by decide +kernel
theorem dX0_sum_9 : decode cX0_sum 9 = .ok (.ireturn, 1) := by decide +kernel
theorem dX0_sum_10 : decode cX0_sum 10 = .ok (.iconst 0, 1) := by decide +kernel
theorem dX0_sum_11 : decode cX0_sum 11 = .ok (.istore_n 2, 1) := by decide +kernel
theorem dX0_sum_12 : decode cX0_sum 12 = .ok (.iload_n 2, 1) := by decide +kernel
theorem dX0_sum_13 : decode cX0_sum 13 = .ok (.sipush 400, 3) := by decide +kernel
theorem dX0_sum_16 : decode cX0_sum 16 = .ok (.if_icmp .ge 71, 3) := by decide +kernel
theorem dX0_sum_19 : decode cX0_sum 19 = .ok (.aload_n 0, 1) := by decide +kernel
theorem dX0_sum_20 : decode cX0_sum 20 = .ok (.bipush 43, 2) := by decide +kernel
theorem dX0_sum_22 : decode cX0_sum 22 = .ok (.invokevirtual 28, 3) := by decide +kernel
theorem dX0_sum_25 : decode cX0_sum 25 = .ok (.ifCond .ne 12, 3) := by decide +kernel
theorem dX0_sum_28 : decode cX0_sum 28 = .ok (.aload_n 0, 1) := by decide +kernel
theorem dX0_sum_29 : decode cX0_sum 29 = .ok (.bipush 45, 2) := by decide +kernel
theorem dX0_sum_31 : decode cX0_sum 31 = .ok (.invokevirtual 28, 3) := by decide +kernel
theorem dX0_sum_34 : decode cX0_sum 34 = .ok (.ifCond .eq 53, 3) := by decide +kernel
theorem dX0_sum_37 : decode cX0_sum 37 = .ok (.aload_n 0, 1) := by decide +kernel
theorem dX0_sum_38 : decode cX0_sum 38 = .ok (.getfield 9, 3) := by decide +kernel
theorem dX0_sum_41 : decode cX0_sum 41 = .ok (.aload_n 0, 1) := by decide +kernel
theorem dX0_sum_42 : decode cX0_sum 42 = .ok (.getfield 24, 3) := by decide +kernel
theorem dX0_sum_45 : decode cX0_sum 45 = .ok (.invokevirtual 39, 3) := by decide +kernel
theorem dX0_sum_48 : decode cX0_sum 48 = .ok (.istore_n 3, 1) := by decide +kernel
theorem dX0_sum_49 : decode cX0_sum 49 = .ok (.aload_n 0, 1) := by decide +kernel
theorem dX0_sum_50 : decode cX0_sum 50 = .ok (.dup, 1) := by decide +kernel
theorem dX0_sum_51 : decode cX0_sum 51 = .ok (.getfield 24, 3) := by decide +kernel
theorem dX0_sum_54 : decode cX0_sum 54 = .ok (.iconst 1, 1) := by decide +kernel
theorem dX0_sum_55 : decode cX0_sum 55 = .ok (.iadd, 1) := by decide +kernel
theorem dX0_sum_56 : decode cX0_sum 56 = .ok (.putfield 24, 3) := by decide +kernel
theorem dX0_sum_59 : decode cX0_sum 59 = .ok (.aload_n 0, 1) := by decide +kernel
theorem dX0_sum_60 : decode cX0_sum 60 = .ok (.iload_n 1, 1) := by decide +kernel
theorem dX0_sum_61 : decode cX0_sum 61 = .ok (.invokevirtual 73, 3) := by decide +kernel
theorem dX0_sum_64 : decode cX0_sum 64 = .ok (.ifCond .ne 5, 3) := by decide +kernel
theorem dX0_sum_67 : decode cX0_sum 67 = .ok (.iconst 0, 1) := by decide +kernel
theorem dX0_sum_68 : decode cX0_sum 68 = .ok (.ireturn, 1) := by decide +kernel
theorem dX0_sum_69 : decode cX0_sum 69 = .ok (.aload_n 0, 1) := by decide +kernel
theorem dX0_sum_70 : decode cX0_sum 70 = .ok (.getfield 15, 3) := by decide +kernel
theorem dX0_sum_73 : decode cX0_sum 73 = .ok (.iload_n 3, 1) := by decide +kernel
theorem dX0_sum_74 : decode cX0_sum 74 = .ok (.aload_n 0, 1) := by decide +kernel
theorem dX0_sum_75 : decode cX0_sum 75 = .ok (.getfield 24, 3) := by decide +kernel
theorem dX0_sum_78 : decode cX0_sum 78 = .ok (.invokevirtual 51, 3) := by decide +kernel
theorem dX0_sum_81 : decode cX0_sum 81 = .ok (.iinc 2 1, 3) := by decide +kernel
theorem dX0_sum_84 : decode cX0_sum 84 = .ok (.goto (-72), 3) := by decide +kernel
theorem dX0_sum_87 : decode cX0_sum 87 = .ok (.iconst 1, 1) := by decide +kernel
theorem dX0_sum_88 : decode cX0_sum 88 = .ok (.ireturn, 1) := by decide +kernel
theorem dX0_product_0 : decode cX0_product 0 = .ok (.aload_n 0, 1) := by decide +kernel
theorem dX0_product_1 : decode cX0_product 1 = .ok (.iload_n 1, 1) := by decide +kernel
theorem dX0_product_2 : decode cX0_product 2 = .ok (.invokevirtual 76, 3) := by decide +kernel
theorem dX0_product_5 : decode cX0_product 5 = .ok (.ifCond .ne 5, 3) := by decide +kernel
theorem dX0_product_8 : decode cX0_product 8 = .ok (.iconst 0, 1) := by decide +kernel
theorem dX0_product_9 : decode cX0_product 9 = .ok (.ireturn, 1) := by decide +kernel
theorem dX0_product_10 : decode cX0_product 10 = .ok (.iconst 0, 1) := by decide +kernel
theorem dX0_product_11 : decode cX0_product 11 = .ok (.istore_n 2, 1) := by decide +kernel
theorem dX0_product_12 : decode cX0_product 12 = .ok (.iload_n 2, 1) := by decide +kernel
theorem dX0_product_13 : decode cX0_product 13 = .ok (.sipush 400, 3) := by decide +kernel
theorem dX0_product_16 : decode cX0_product 16 = .ok (.if_icmp .ge 71, 3) := by decide +kernel
theorem dX0_product_19 : decode cX0_product 19 = .ok (.aload_n 0, 1) := by decide +kernel
theorem dX0_product_20 : decode cX0_product 20 = .ok (.bipush 42, 2) := by decide +kernel
theorem dX0_product_22 : decode cX0_product 22 = .ok (.invokevirtual 28, 3) := by decide +kernel
theorem dX0_product_25 : decode cX0_product 25 = .ok (.ifCond .ne 12, 3) := by decide +kernel
theorem dX0_product_28 : decode cX0_product 28 = .ok (.aload_n 0, 1) := by decide +kernel
theorem dX0_product_29 : decode cX0_product 29 = .ok (.bipush 47, 2) := by decide +kernel
theorem dX0_product_31 : decode cX0_product 31 = .ok (.invokevirtual 28, 3) := by decide +kernel
theorem dX0_product_34 : decode cX0_product 34 = .ok (.ifCond .eq 53, 3) := by decide +kernel
theorem dX0_product_37 : decode cX0_product 37 = .ok (.aload_n 0, 1) := by decide +kernel
theorem dX0_product_38 : decode cX0_product 38 = .ok (.getfield 9, 3) := by decide +kernel
theorem dX0_product_41 : decode cX0_product 41 = .ok (.aload_n 0, 1) := by decide +kernel
theorem dX0_product_42 : decode cX0_product 42 = .ok (.getfield 24, 3) := by decide +kernel
theorem dX0_product_45 : decode cX0_product 45 = .ok (.invokevirtual 39, 3) := by decide +kernel
theorem dX0_product_48 : decode cX0_product 48 = .ok (.istore_n 3, 1) := by decide +kernel
theorem dX0_product_49 : decode cX0_product 49 = .ok (.aload_n 0, 1) := by decide +kernel
theorem dX0_product_50 : decode cX0_product 50 = .ok (.dup, 1) := by decide +kernel
theorem dX0_product_51 : decode cX0_product 51 = .ok (.getfield 24, 3) := by decide +kernel
theorem dX0_product_54 : decode cX0_product 54 = .ok (.iconst 1, 1) := by decide +kernel
theorem dX0_product_55 : decode cX0_product 55 = .ok (.iadd, 1) := by decide +kernel
theorem dX0_product_56 : decode cX0_product 56 = .ok (.putfield 24, 3) := by decide +kernel
theorem dX0_product_59 : decode cX0_product 59 = .ok (.aload_n 0, 1) := by decide +kernel
theorem dX0_product_60 : decode cX0_product 60 = .ok (.iload_n 1, 1) := by decide +kernel
theorem dX0_product_61 : decode cX0_product 61 = .ok (.invokevirtual 76, 3) := by decide +kernel
theorem dX0_product_64 : decode cX0_product 64 = .ok (.ifCond .ne 5, 3) := by decide +kernel
theorem dX0_product_67 : decode cX0_product 67 = .ok (.iconst 0, 1) := by decide +kernel
theorem dX0_product_68 : decode cX0_product 68 = .ok (.ireturn, 1) := by decide +kernel
theorem dX0_product_69 : decode cX0_product 69 = .ok (.aload_n 0, 1) := by decide +kernel
theorem dX0_product_70 : decode cX0_product 70 = .ok (.getfield 15, 3) := by decide +kernel
theorem dX0_product_73 : decode cX0_product 73 = .ok (.iload_n 3, 1) := by decide +kernel
theorem dX0_product_74 : decode cX0_product 74 = .ok (.aload_n 0, 1) := by decide +kernel
theorem dX0_product_75 : decode cX0_product 75 = .ok (.getfield 24, 3) := by decide +kernel
theorem dX0_product_78 : decode cX0_product 78 = .ok (.invokevirtual 51, 3) := by decide +kernel
theorem dX0_product_81 : decode cX0_product 81 = .ok (.iinc 2 1, 3) := by decide +kernel
theorem dX0_product_84 : decode cX0_product 84 = .ok (.goto (-72), 3) := by decide +kernel
theorem dX0_product_87 : decode cX0_product 87 = .ok (.iconst 1, 1) := by decide +kernel
theorem dX0_product_88 : decode cX0_product 88 = .ok (.ireturn, 1) := by decide +kernel
theorem dX0_value_0 : decode cX0_value 0 = .ok (.aload_n 0, 1) := by decide +kernel
theorem dX0_value_1 : decode cX0_value 1 = .ok (.getfield 9, 3) := by decide +kernel
theorem dX0_value_4 : decode cX0_value 4 = .ok (.aload_n 0, 1) := by decide +kernel
theorem dX0_value_5 : decode cX0_value 5 = .ok (.getfield 24, 3) := by decide +kernel
theorem dX0_value_8 : decode cX0_value 8 = .ok (.invokevirtual 39, 3) := by decide +kernel
theorem dX0_value_11 : decode cX0_value 11 = .ok (.istore_n 2, 1) := by decide +kernel
theorem dX0_value_12 : decode cX0_value 12 = .ok (.iload_n 2, 1) := by decide +kernel
theorem dX0_value_13 : decode cX0_value 13 = .ok (.lookupswitch 284 #[(3, 115), (40, 221), (45, 179), (129, 133), (130, 133), (140, 115), (141, 115), (142, 115), (143, 133), (144, 133), (145, 133), (152, 261), (153, 261)], 115) := by decide +kernel
theorem dX0_value_128 : decode cX0_value 128 = .ok (.aload_n 0, 1) := by decide +kernel
theorem dX0_value_129 : decode cX0_value 129 = .ok (.getfield 15, 3) := by decide +kernel
theorem dX0_value_132 : decode cX0_value 132 = .ok (.iload_n 2, 1) := by decide +kernel
theorem dX0_value_133 : decode cX0_value 133 = .ok (.aload_n 0, 1) := by decide +kernel
theorem dX0_value_134 : decode cX0_value 134 = .ok (.getfield 24, 3) := by decide +kernel
theorem dX0_value_137 : decode cX0_value 137 = .ok (.invokevirtual 51, 3) := by decide +kernel
theorem dX0_value_140 : decode cX0_value 140 = .ok (.aload_n 0, 1) := by decide +kernel
theorem dX0_value_141 : decode cX0_value 141 = .ok (.iload_n 2, 1) := by decide +kernel
theorem dX0_value_142 : decode cX0_value 142 = .ok (.invokevirtual 36, 3) := by decide +kernel
theorem dX0_value_145 : decode cX0_value 145 = .ok (.ireturn, 1) := by decide +kernel
theorem dX0_value_146 : decode cX0_value 146 = .ok (.aload_n 0, 1) := by decide +kernel
theorem dX0_value_147 : decode cX0_value 147 = .ok (.getfield 15, 3) := by decide +kernel
theorem dX0_value_150 : decode cX0_value 150 = .ok (.iload_n 2, 1) := by decide +kernel
theorem dX0_value_151 : decode cX0_value 151 = .ok (.aload_n 0, 1) := by decide +kernel
theorem dX0_value_152 : decode cX0_value 152 = .ok (.getfield 24, 3) := by decide +kernel
theorem dX0_value_155 : decode cX0_value 155 = .ok (.iconst 2, 1) := by decide +kernel
theorem dX0_value_156 : decode cX0_value 156 = .ok (.iadd, 1) := by decide +kernel
theorem dX0_value_157 : decode cX0_value 157 = .ok (.invokevirtual 51, 3) := by decide +kernel
theorem dX0_value_160 : decode cX0_value 160 = .ok (.aload_n 0, 1) := by decide +kernel
theorem dX0_value_161 : decode cX0_value 161 = .ok (.iload_n 2, 1) := by decide +kernel
theorem dX0_value_162 : decode cX0_value 162 = .ok (.invokevirtual 36, 3) := by decide +kernel
theorem dX0_value_165 : decode cX0_value 165 = .ok (.ifCond .eq 25, 3) := by decide +kernel
theorem dX0_value_168 : decode cX0_value 168 = .ok (.aload_n 0, 1) := by decide +kernel
theorem dX0_value_169 : decode cX0_value 169 = .ok (.sipush 146, 3) := by decide +kernel
theorem dX0_value_172 : decode cX0_value 172 = .ok (.invokevirtual 36, 3) := by decide +kernel
theorem dX0_value_175 : decode cX0_value 175 = .ok (.ifCond .eq 15, 3) := by decide +kernel
theorem dX0_value_178 : decode cX0_value 178 = .ok (.aload_n 0, 1) := by decide +kernel
theorem dX0_value_179 : decode cX0_value 179 = .ok (.iconst 2, 1) := by decide +kernel
theorem dX0_value_180 : decode cX0_value 180 = .ok (.invokevirtual 36, 3) := by decide +kernel
theorem dX0_value_183 : decode cX0_value 183 = .ok (.ifCond .eq 7, 3) := by decide +kernel
theorem dX0_value_186 : decode cX0_value 186 = .ok (.iconst 1, 1) := by decide +kernel
theorem dX0_value_187 : decode cX0_value 187 = .ok (.goto 4, 3) := by decide +kernel
theorem dX0_value_190 : decode cX0_value 190 = .ok (.iconst 0, 1) := by decide +kernel
theorem dX0_value_191 : decode cX0_value 191 = .ok (.ireturn, 1) := by decide +kernel
theorem dX0_value_192 : decode cX0_value 192 = .ok (.iload_n 1, 1) := by decide +kernel
theorem dX0_value_193 : decode cX0_value 193 = .ok (.bipush 8, 2) := by decide +kernel
theorem dX0_value_195 : decode cX0_value 195 = .ok (.if_icmp .ge 22, 3) := by decide +kernel
theorem dX0_value_198 : decode cX0_value 198 = .ok (.aload_n 0, 1) := by decide +kernel
theorem dX0_value_199 : decode cX0_value 199 = .ok (.bipush 45, 2) := by decide +kernel
theorem dX0_value_201 : decode cX0_value 201 = .ok (.invokevirtual 36, 3) := by decide +kernel
theorem dX0_value_204 : decode cX0_value 204 = .ok (.ifCond .eq 13, 3) := by decide +kernel
theorem dX0_value_207 : decode cX0_value 207 = .ok (.aload_n 0, 1) := by decide +kernel
theorem dX0_value_208 : decode cX0_value 208 = .ok (.iload_n 1, 1) := by decide +kernel
theorem dX0_value_209 : decode cX0_value 209 = .ok (.iconst 1, 1) := by decide +kernel
theorem dX0_value_210 : decode cX0_value 210 = .ok (.iadd, 1) := by decide +kernel
theorem dX0_value_211 : decode cX0_value 211 = .ok (.invokevirtual 76, 3) := by decide +kernel
theorem dX0_value_214 : decode cX0_value 214 = .ok (.ifCond .ne 5, 3) := by decide +kernel
theorem dX0_value_217 : decode cX0_value 217 = .ok (.iconst 0, 1) := by decide +kernel
theorem dX0_value_218 : decode cX0_value 218 = .ok (.ireturn, 1) := by decide +kernel
theorem dX0_value_219 : decode cX0_value 219 = .ok (.aload_n 0, 1) := by decide +kernel
theorem dX0_value_220 : decode cX0_value 220 = .ok (.getfield 15, 3) := by decide +kernel
theorem dX0_value_223 : decode cX0_value 223 = .ok (.bipush 6, 2) := by decide +kernel
theorem dX0_value_225 : decode cX0_value 225 = .ok (.aload_n 0, 1) := by decide +kernel
theorem dX0_value_226 : decode cX0_value 226 = .ok (.getfield 24, 3) := by decide +kernel
theorem dX0_value_229 : decode cX0_value 229 = .ok (.invokevirtual 51, 3) := by decide +kernel
theorem dX0_value_232 : decode cX0_value 232 = .ok (.iconst 1, 1) := by decide +kernel
theorem dX0_value_233 : decode cX0_value 233 = .ok (.ireturn, 1) := by decide +kernel
theorem dX0_value_234 : decode cX0_value 234 = .ok (.iload_n 1, 1) := by decide +kernel
theorem dX0_value_235 : decode cX0_value 235 = .ok (.bipush 8, 2) := by decide +kernel
theorem dX0_value_237 : decode cX0_value 237 = .ok (.if_icmp .ge 35, 3) := by decide +kernel
theorem dX0_value_240 : decode cX0_value 240 = .ok (.aload_n 0, 1) := by decide +kernel
theorem dX0_value_241 : decode cX0_value 241 = .ok (.bipush 40, 2) := by decide +kernel
theorem dX0_value_243 : decode cX0_value 243 = .ok (.invokevirtual 36, 3) := by decide +kernel
theorem dX0_value_246 : decode cX0_value 246 = .ok (.ifCond .eq 26, 3) := by decide +kernel
theorem dX0_value_249 : decode cX0_value 249 = .ok (.aload_n 0, 1) := by decide +kernel
theorem dX0_value_250 : decode cX0_value 250 = .ok (.iload_n 1, 1) := by decide +kernel
theorem dX0_value_251 : decode cX0_value 251 = .ok (.iconst 1, 1) := by decide +kernel
theorem dX0_value_252 : decode cX0_value 252 = .ok (.iadd, 1) := by decide +kernel
theorem dX0_value_253 : decode cX0_value 253 = .ok (.invokevirtual 64, 3) := by decide +kernel
theorem dX0_value_256 : decode cX0_value 256 = .ok (.ifCond .eq 16, 3) := by decide +kernel
theorem dX0_value_259 : decode cX0_value 259 = .ok (.aload_n 0, 1) := by decide +kernel
theorem dX0_value_260 : decode cX0_value 260 = .ok (.bipush 41, 2) := by decide +kernel
theorem dX0_value_262 : decode cX0_value 262 = .ok (.invokevirtual 36, 3) := by decide +kernel
theorem dX0_value_265 : decode cX0_value 265 = .ok (.ifCond .eq 7, 3) := by decide +kernel
theorem dX0_value_268 : decode cX0_value 268 = .ok (.iconst 1, 1) := by decide +kernel
theorem dX0_value_269 : decode cX0_value 269 = .ok (.goto 4, 3) := by decide +kernel
theorem dX0_value_272 : decode cX0_value 272 = .ok (.iconst 0, 1) := by decide +kernel
theorem dX0_value_273 : decode cX0_value 273 = .ok (.ireturn, 1) := by decide +kernel
theorem dX0_value_274 : decode cX0_value 274 = .ok (.aload_n 0, 1) := by decide +kernel
theorem dX0_value_275 : decode cX0_value 275 = .ok (.iload_n 2, 1) := by decide +kernel
theorem dX0_value_276 : decode cX0_value 276 = .ok (.invokevirtual 36, 3) := by decide +kernel
theorem dX0_value_279 : decode cX0_value 279 = .ok (.ifCond .eq 16, 3) := by decide +kernel
theorem dX0_value_282 : decode cX0_value 282 = .ok (.aload_n 0, 1) := by decide +kernel
theorem dX0_value_283 : decode cX0_value 283 = .ok (.iload_n 2, 1) := by decide +kernel
theorem dX0_value_284 : decode cX0_value 284 = .ok (.iload_n 1, 1) := by decide +kernel
theorem dX0_value_285 : decode cX0_value 285 = .ok (.invokevirtual 79, 3) := by decide +kernel
theorem dX0_value_288 : decode cX0_value 288 = .ok (.ifCond .eq 7, 3) := by decide +kernel
theorem dX0_value_291 : decode cX0_value 291 = .ok (.iconst 1, 1) := by decide +kernel
theorem dX0_value_292 : decode cX0_value 292 = .ok (.goto 4, 3) := by decide +kernel
theorem dX0_value_295 : decode cX0_value 295 = .ok (.iconst 0, 1) := by decide +kernel
theorem dX0_value_296 : decode cX0_value 296 = .ok (.ireturn, 1) := by decide +kernel
theorem dX0_value_297 : decode cX0_value 297 = .ok (.iconst 0, 1) := by decide +kernel
theorem dX0_value_298 : decode cX0_value 298 = .ok (.ireturn, 1) := by decide +kernel
theorem dX0_pair_0 : decode cX0_pair 0 = .ok (.iload_n 2, 1) := by decide +kernel
theorem dX0_pair_1 : decode cX0_pair 1 = .ok (.bipush 8, 2) := by decide +kernel
theorem dX0_pair_3 : decode cX0_pair 3 = .ok (.if_icmp .ge 22, 3) := by decide +kernel
theorem dX0_pair_6 : decode cX0_pair 6 = .ok (.aload_n 0, 1) := by decide +kernel
theorem dX0_pair_7 : decode cX0_pair 7 = .ok (.bipush 40, 2) := by decide +kernel
theorem dX0_pair_9 : decode cX0_pair 9 = .ok (.invokevirtual 36, 3) := by decide +kernel
theorem dX0_pair_12 : decode cX0_pair 12 = .ok (.ifCond .eq 13, 3) := by decide +kernel
theorem dX0_pair_15 : decode cX0_pair 15 = .ok (.aload_n 0, 1) := by decide +kernel
theorem dX0_pair_16 : decode cX0_pair 16 = .ok (.iload_n 2, 1) := by decide +kernel
theorem dX0_pair_17 : decode cX0_pair 17 = .ok (.iconst 1, 1) := by decide +kernel
theorem dX0_pair_18 : decode cX0_pair 18 = .ok (.iadd, 1) := by decide +kernel
theorem dX0_pair_19 : decode cX0_pair 19 = .ok (.invokevirtual 64, 3) := by decide +kernel
theorem dX0_pair_22 : decode cX0_pair 22 = .ok (.ifCond .ne 5, 3) := by decide +kernel
theorem dX0_pair_25 : decode cX0_pair 25 = .ok (.iconst 0, 1) := by decide +kernel
theorem dX0_pair_26 : decode cX0_pair 26 = .ok (.ireturn, 1) := by decide +kernel
theorem dX0_pair_27 : decode cX0_pair 27 = .ok (.aload_n 0, 1) := by decide +kernel
theorem dX0_pair_28 : decode cX0_pair 28 = .ok (.bipush 44, 2) := by decide +kernel
theorem dX0_pair_30 : decode cX0_pair 30 = .ok (.invokevirtual 36, 3) := by decide +kernel
theorem dX0_pair_33 : decode cX0_pair 33 = .ok (.ifCond .eq 22, 3) := by decide +kernel
theorem dX0_pair_36 : decode cX0_pair 36 = .ok (.aload_n 0, 1) := by decide +kernel
theorem dX0_pair_37 : decode cX0_pair 37 = .ok (.iload_n 2, 1) := by decide +kernel
theorem dX0_pair_38 : decode cX0_pair 38 = .ok (.iconst 1, 1) := by decide +kernel
theorem dX0_pair_39 : decode cX0_pair 39 = .ok (.iadd, 1) := by decide +kernel
theorem dX0_pair_40 : decode cX0_pair 40 = .ok (.invokevirtual 64, 3) := by decide +kernel
theorem dX0_pair_43 : decode cX0_pair 43 = .ok (.ifCond .eq 12, 3) := by decide +kernel
theorem dX0_pair_46 : decode cX0_pair 46 = .ok (.aload_n 0, 1) := by decide +kernel
theorem dX0_pair_47 : decode cX0_pair 47 = .ok (.bipush 41, 2) := by decide +kernel
theorem dX0_pair_49 : decode cX0_pair 49 = .ok (.invokevirtual 36, 3) := by decide +kernel
theorem dX0_pair_52 : decode cX0_pair 52 = .ok (.ifCond .ne 5, 3) := by decide +kernel
theorem dX0_pair_55 : decode cX0_pair 55 = .ok (.iconst 0, 1) := by decide +kernel
theorem dX0_pair_56 : decode cX0_pair 56 = .ok (.ireturn, 1) := by decide +kernel
theorem dX0_pair_57 : decode cX0_pair 57 = .ok (.aload_n 0, 1) := by decide +kernel
theorem dX0_pair_58 : decode cX0_pair 58 = .ok (.getfield 15, 3) := by decide +kernel
theorem dX0_pair_61 : decode cX0_pair 61 = .ok (.iload_n 1, 1) := by decide +kernel
theorem dX0_pair_62 : decode cX0_pair 62 = .ok (.aload_n 0, 1) := by decide +kernel
theorem dX0_pair_63 : decode cX0_pair 63 = .ok (.getfield 24, 3) := by decide +kernel
theorem dX0_pair_66 : decode cX0_pair 66 = .ok (.invokevirtual 51, 3) := by decide +kernel
theorem dX0_pair_69 : decode cX0_pair 69 = .ok (.iconst 1, 1) := by decide +kernel
theorem dX0_pair_70 : decode cX0_pair 70 = .ok (.ireturn, 1) := by decide +kernel
theorem dX1_init_0 : decode cX1_init 0 = .ok (.aload_n 0, 1) := by decide +kernel
theorem dX1_init_1 : decode cX1_init 1 = .ok (.invokespecial 3, 3) := by decide +kernel
theorem dX1_init_4 : decode cX1_init 4 = .ok (.aload_n 0, 1) := by decide +kernel
theorem dX1_init_5 : decode cX1_init 5 = .ok (.bipush 10, 2) := by decide +kernel
theorem dX1_init_7 : decode cX1_init 7 = .ok (.newarray .int, 2) := by decide +kernel
theorem dX1_init_9 : decode cX1_init 9 = .ok (.putfield 9, 3) := by decide +kernel
theorem dX1_init_12 : decode cX1_init 12 = .ok (.aload_n 0, 1) := by decide +kernel
theorem dX1_init_13 : decode cX1_init 13 = .ok (.aload_n 1, 1) := by decide +kernel
theorem dX1_init_14 : decode cX1_init 14 = .ok (.putfield 15, 3) := by decide +kernel
theorem dX1_init_17 : decode cX1_init 17 = .ok (.aload_n 0, 1) := by decide +kernel
theorem dX1_init_18 : decode cX1_init 18 = .ok (.aload_n 2, 1) := by decide +kernel
theorem dX1_init_19 : decode cX1_init 19 = .ok (.putfield 19, 3) := by decide +kernel
theorem dX1_init_22 : decode cX1_init 22 = .ok (.aload_n 0, 1) := by decide +kernel
theorem dX1_init_23 : decode cX1_init 23 = .ok (.aload_n 3, 1) := by decide +kernel
theorem dX1_init_24 : decode cX1_init 24 = .ok (.putfield 23, 3) := by decide +kernel
theorem dX1_init_27 : decode cX1_init 27 = .ok (.return_, 1) := by decide +kernel
theorem dX1_firstMistake_0 : decode cX1_firstMistake 0 = .ok (.iconst 0, 1) := by decide +kernel
theorem dX1_firstMistake_1 : decode cX1_firstMistake 1 = .ok (.istore_n 1, 1) := by decide +kernel
theorem dX1_firstMistake_2 : decode cX1_firstMistake 2 = .ok (.iload_n 1, 1) := by decide +kernel
theorem dX1_firstMistake_3 : decode cX1_firstMistake 3 = .ok (.aload_n 0, 1) := by decide +kernel
theorem dX1_firstMistake_4 : decode cX1_firstMistake 4 = .ok (.getfield 19, 3) := by decide +kernel
theorem dX1_firstMistake_7 : decode cX1_firstMistake 7 = .ok (.getfield 27, 3) := by decide +kernel
theorem dX1_firstMistake_10 : decode cX1_firstMistake 10 = .ok (.if_icmp .ge 27, 3) := by decide +kernel
theorem dX1_firstMistake_13 : decode cX1_firstMistake 13 = .ok (.aload_n 0, 1) := by decide +kernel
theorem dX1_firstMistake_14 : decode cX1_firstMistake 14 = .ok (.aload_n 0, 1) := by decide +kernel
theorem dX1_firstMistake_15 : decode cX1_firstMistake 15 = .ok (.iload_n 1, 1) := by decide +kernel
theorem dX1_firstMistake_16 : decode cX1_firstMistake 16 = .ok (.invokevirtual 33, 3) := by decide +kernel
theorem dX1_firstMistake_19 : decode cX1_firstMistake 19 = .ok (.putfield 37, 3) := by decide +kernel
theorem dX1_firstMistake_22 : decode cX1_firstMistake 22 = .ok (.aload_n 0, 1) := by decide +kernel
theorem dX1_firstMistake_23 : decode cX1_firstMistake 23 = .ok (.getfield 37, 3) := by decide +kernel
theorem dX1_firstMistake_26 : decode cX1_firstMistake 26 = .ok (.ifCond .eq 5, 3) := by decide +kernel
theorem dX1_firstMistake_29 : decode cX1_firstMistake 29 = .ok (.iload_n 1, 1) := by decide +kernel
theorem dX1_firstMistake_30 : decode cX1_firstMistake 30 = .ok (.ireturn, 1) := by decide +kernel
theorem dX1_firstMistake_31 : decode cX1_firstMistake 31 = .ok (.iinc 1 1, 3) := by decide +kernel
theorem dX1_firstMistake_34 : decode cX1_firstMistake 34 = .ok (.goto (-32), 3) := by decide +kernel
theorem dX1_firstMistake_37 : decode cX1_firstMistake 37 = .ok (.iconst (-1), 1) := by decide +kernel
theorem dX1_firstMistake_38 : decode cX1_firstMistake 38 = .ok (.ireturn, 1) := by decide +kernel
theorem dX1_errorOf_0 : decode cX1_errorOf 0 = .ok (.aload_n 0, 1) := by decide +kernel
theorem dX1_errorOf_1 : decode cX1_errorOf 1 = .ok (.getfield 19, 3) := by decide +kernel
theorem dX1_errorOf_4 : decode cX1_errorOf 4 = .ok (.iload_n 1, 1) := by decide +kernel
theorem dX1_errorOf_5 : decode cX1_errorOf 5 = .ok (.invokevirtual 40, 3) := by decide +kernel
theorem dX1_errorOf_8 : decode cX1_errorOf 8 = .ok (.istore_n 2, 1) := by decide +kernel
theorem dX1_errorOf_9 : decode cX1_errorOf 9 = .ok (.iload_n 2, 1) := by decide +kernel
theorem dX1_errorOf_10 : decode cX1_errorOf 10 = .ok (.iconst 2, 1) := by decide +kernel
theorem dX1_errorOf_11 : decode cX1_errorOf 11 = .ok (.if_icmp .ne 43, 3) := by decide +kernel
theorem dX1_errorOf_14 : decode cX1_errorOf 14 = .ok (.aload_n 0, 1) := by decide +kernel
theorem dX1_errorOf_15 : decode cX1_errorOf 15 = .ok (.getfield 19, 3) := by decide +kernel
theorem dX1_errorOf_18 : decode cX1_errorOf 18 = .ok (.iload_n 1, 1) := by decide +kernel
theorem dX1_errorOf_19 : decode cX1_errorOf 19 = .ok (.iconst 1, 1) := by decide +kernel
theorem dX1_errorOf_20 : decode cX1_errorOf 20 = .ok (.isub, 1) := by decide +kernel
theorem dX1_errorOf_21 : decode cX1_errorOf 21 = .ok (.invokevirtual 40, 3) := by decide +kernel
theorem dX1_errorOf_24 : decode cX1_errorOf 24 = .ok (.sipush 128, 3) := by decide +kernel
theorem dX1_errorOf_27 : decode cX1_errorOf 27 = .ok (.if_icmp .ne 7, 3) := by decide +kernel
theorem dX1_errorOf_30 : decode cX1_errorOf 30 = .ok (.iconst 1, 1) := by decide +kernel
theorem dX1_errorOf_31 : decode cX1_errorOf 31 = .ok (.goto 4, 3) := by decide +kernel
theorem dX1_errorOf_34 : decode cX1_errorOf 34 = .ok (.iconst 0, 1) := by decide +kernel
theorem dX1_errorOf_35 : decode cX1_errorOf 35 = .ok (.istore_n 3, 1) := by decide +kernel
theorem dX1_errorOf_36 : decode cX1_errorOf 36 = .ok (.iload_n 3, 1) := by decide +kernel
theorem dX1_errorOf_37 : decode cX1_errorOf 37 = .ok (.ifCond .eq 11, 3) := by decide +kernel
theorem dX1_errorOf_40 : decode cX1_errorOf 40 = .ok (.aload_n 0, 1) := by decide +kernel
theorem dX1_errorOf_41 : decode cX1_errorOf 41 = .ok (.iload_n 1, 1) := by decide +kernel
theorem dX1_errorOf_42 : decode cX1_errorOf 42 = .ok (.invokevirtual 43, 3) := by decide +kernel
theorem dX1_errorOf_45 : decode cX1_errorOf 45 = .ok (.goto 8, 3) := by decide +kernel
theorem dX1_errorOf_48 : decode cX1_errorOf 48 = .ok (.aload_n 0, 1) := by decide +kernel
theorem dX1_errorOf_49 : decode cX1_errorOf 49 = .ok (.iload_n 1, 1) := by decide +kernel
theorem dX1_errorOf_50 : decode cX1_errorOf 50 = .ok (.invokevirtual 46, 3) := by decide +kernel
theorem dX1_errorOf_53 : decode cX1_errorOf 53 = .ok (.ireturn, 1) := by decide +kernel
theorem dX1_errorOf_54 : decode cX1_errorOf 54 = .ok (.iload_n 2, 1) := by decide +kernel
theorem dX1_errorOf_55 : decode cX1_errorOf 55 = .ok (.iconst 3, 1) := by decide +kernel
theorem dX1_errorOf_56 : decode cX1_errorOf 56 = .ok (.if_icmp .ne 9, 3) := by decide +kernel
theorem dX1_errorOf_59 : decode cX1_errorOf 59 = .ok (.aload_n 0, 1) := by decide +kernel
theorem dX1_errorOf_60 : decode cX1_errorOf 60 = .ok (.iload_n 1, 1) := by decide +kernel
theorem dX1_errorOf_61 : decode cX1_errorOf 61 = .ok (.invokevirtual 49, 3) := by decide +kernel
theorem dX1_errorOf_64 : decode cX1_errorOf 64 = .ok (.ireturn, 1) := by decide +kernel
theorem dX1_errorOf_65 : decode cX1_errorOf 65 = .ok (.iload_n 2, 1) := by decide +kernel
theorem dX1_errorOf_66 : decode cX1_errorOf 66 = .ok (.invokestatic 52, 3) := by decide +kernel
theorem dX1_errorOf_69 : decode cX1_errorOf 69 = .ok (.ifCond .eq 10, 3) := by decide +kernel
theorem dX1_errorOf_72 : decode cX1_errorOf 72 = .ok (.aload_n 0, 1) := by decide +kernel
theorem dX1_errorOf_73 : decode cX1_errorOf 73 = .ok (.invokevirtual 56, 3) := by decide +kernel
theorem dX1_errorOf_76 : decode cX1_errorOf 76 = .ok (.goto 4, 3) := by decide +kernel
theorem dX1_errorOf_79 : decode cX1_errorOf 79 = .ok (.iconst 0, 1) := by decide +kernel
theorem dX1_errorOf_80 : decode cX1_errorOf 80 = .ok (.ireturn, 1) := by decide +kernel
theorem dX1_errorOfNewName_0 : decode cX1_errorOfNewName 0 = .ok (.aload_n 0, 1) := by decide +kernel
theorem dX1_errorOfNewName_1 : decode cX1_errorOfNewName 1 = .ok (.iload_n 1, 1) := by decide +kernel
theorem dX1_errorOfNewName_2 : decode cX1_errorOfNewName 2 = .ok (.invokevirtual 60, 3) := by decide +kernel
theorem dX1_errorOfNewName_5 : decode cX1_errorOfNewName 5 = .ok (.iconst (-1), 1) := by decide +kernel
theorem dX1_errorOfNewName_6 : decode cX1_errorOfNewName 6 = .ok (.if_icmp .eq 5, 3) := by decide +kernel
theorem dX1_errorOfNewName_9 : decode cX1_errorOfNewName 9 = .ok (.iconst 2, 1) := by decide +kernel
theorem dX1_errorOfNewName_10 : decode cX1_errorOfNewName 10 = .ok (.ireturn, 1) := by decide +kernel
theorem dX1_errorOfNewName_11 : decode cX1_errorOfNewName 11 = .ok (.aload_n 0, 1) := by decide +kernel
theorem dX1_errorOfNewName_12 : decode cX1_errorOfNewName 12 = .ok (.getfield 23, 3) := by decide +kernel
theorem dX1_errorOfNewName_15 : decode cX1_errorOfNewName 15 = .ok (.getfield 63, 3) := by decide +kernel
theorem dX1_errorOfNewName_18 : decode cX1_errorOfNewName 18 = .ok (.bipush 10, 2) := by decide +kernel
theorem dX1_errorOfNewName_20 : decode cX1_errorOfNewName 20 = .ok (.if_icmp .lt 5, 3) := by decide +kernel
theorem dX1_errorOfNewName_23 : decode cX1_errorOfNewName 23 = .ok (.iconst 4, 1) := by decide +kernel
theorem dX1_errorOfNewName_24 : decode cX1_errorOfNewName 24 = .ok (.ireturn, 1) := by decide +kernel
theorem dX1_errorOfNewName_25 : decode cX1_errorOfNewName 25 = .ok (.aload_n 0, 1) := by decide +kernel
theorem dX1_errorOfNewName_26 : decode cX1_errorOfNewName 26 = .ok (.getfield 9, 3) := by decide +kernel
theorem dX1_errorOfNewName_29 : decode cX1_errorOfNewName 29 = .ok (.aload_n 0, 1) := by decide +kernel
theorem dX1_errorOfNewName_30 : decode cX1_errorOfNewName 30 = .ok (.getfield 23, 3) := by decide +kernel
theorem dX1_errorOfNewName_33 : decode cX1_errorOfNewName 33 = .ok (.getfield 63, 3) := by decide +kernel
theorem dX1_errorOfNewName_36 : decode cX1_errorOfNewName 36 = .ok (.iload_n 1, 1) := by decide +kernel
theorem dX1_errorOfNewName_37 : decode cX1_errorOfNewName 37 = .ok (.iastore, 1) := by decide +kernel
theorem dX1_errorOfNewName_38 : decode cX1_errorOfNewName 38 = .ok (.aload_n 0, 1) := by decide +kernel
theorem dX1_errorOfNewName_39 : decode cX1_errorOfNewName 39 = .ok (.getfield 23, 3) := by decide +kernel
theorem dX1_errorOfNewName_42 : decode cX1_errorOfNewName 42 = .ok (.dup, 1) := by decide +kernel
theorem dX1_errorOfNewName_43 : decode cX1_errorOfNewName 43 = .ok (.getfield 63, 3) := by decide +kernel
theorem dX1_errorOfNewName_46 : decode cX1_errorOfNewName 46 = .ok (.iconst 1, 1) := by decide +kernel
theorem dX1_errorOfNewName_47 : decode cX1_errorOfNewName 47 = .ok (.iadd, 1) := by decide +kernel
theorem dX1_errorOfNewName_48 : decode cX1_errorOfNewName 48 = .ok (.putfield 63, 3) := by decide +kernel
theorem dX1_errorOfNewName_51 : decode cX1_errorOfNewName 51 = .ok (.iconst 0, 1) := by decide +kernel
theorem dX1_errorOfNewName_52 : decode cX1_errorOfNewName 52 = .ok (.ireturn, 1) := by decide +kernel
theorem dX1_errorOfName_0 : decode cX1_errorOfName 0 = .ok (.aload_n 0, 1) := by decide +kernel
theorem dX1_errorOfName_1 : decode cX1_errorOfName 1 = .ok (.iload_n 1, 1) := by decide +kernel
theorem dX1_errorOfName_2 : decode cX1_errorOfName 2 = .ok (.invokevirtual 60, 3) := by decide +kernel
theorem dX1_errorOfName_5 : decode cX1_errorOfName 5 = .ok (.istore_n 2, 1) := by decide +kernel
theorem dX1_errorOfName_6 : decode cX1_errorOfName 6 = .ok (.aload_n 0, 1) := by decide +kernel
theorem dX1_errorOfName_7 : decode cX1_errorOfName 7 = .ok (.getfield 19, 3) := by decide +kernel
theorem dX1_errorOfName_10 : decode cX1_errorOfName 10 = .ok (.iload_n 1, 1) := by decide +kernel
theorem dX1_errorOfName_11 : decode cX1_errorOfName 11 = .ok (.iload_n 2, 1) := by decide +kernel
theorem dX1_errorOfName_12 : decode cX1_errorOfName 12 = .ok (.invokevirtual 68, 3) := by decide +kernel
theorem dX1_errorOfName_15 : decode cX1_errorOfName 15 = .ok (.iload_n 2, 1) := by decide +kernel
theorem dX1_errorOfName_16 : decode cX1_errorOfName 16 = .ok (.iconst (-1), 1) := by decide +kernel
theorem dX1_errorOfName_17 : decode cX1_errorOfName 17 = .ok (.if_icmp .ne 7, 3) := by decide +kernel
theorem dX1_errorOfName_20 : decode cX1_errorOfName 20 = .ok (.iconst 3, 1) := by decide +kernel
theorem dX1_errorOfName_21 : decode cX1_errorOfName 21 = .ok (.goto 4, 3) := by decide +kernel
theorem dX1_errorOfName_24 : decode cX1_errorOfName 24 = .ok (.iconst 0, 1) := by decide +kernel
theorem dX1_errorOfName_25 : decode cX1_errorOfName 25 = .ok (.ireturn, 1) := by decide +kernel
theorem dX1_mirrorNamed_0 : decode cX1_mirrorNamed 0 = .ok (.iconst 0, 1) := by decide +kernel
theorem dX1_mirrorNamed_1 : decode cX1_mirrorNamed 1 = .ok (.istore_n 2, 1) := by decide +kernel
theorem dX1_mirrorNamed_2 : decode cX1_mirrorNamed 2 = .ok (.iload_n 2, 1) := by decide +kernel
theorem dX1_mirrorNamed_3 : decode cX1_mirrorNamed 3 = .ok (.aload_n 0, 1) := by decide +kernel
theorem dX1_mirrorNamed_4 : decode cX1_mirrorNamed 4 = .ok (.getfield 23, 3) := by decide +kernel
theorem dX1_mirrorNamed_7 : decode cX1_mirrorNamed 7 = .ok (.getfield 63, 3) := by decide +kernel
theorem dX1_mirrorNamed_10 : decode cX1_mirrorNamed 10 = .ok (.if_icmp .ge 34, 3) := by decide +kernel
theorem dX1_mirrorNamed_13 : decode cX1_mirrorNamed 13 = .ok (.iload_n 2, 1) := by decide +kernel
theorem dX1_mirrorNamed_14 : decode cX1_mirrorNamed 14 = .ok (.bipush 10, 2) := by decide +kernel
theorem dX1_mirrorNamed_16 : decode cX1_mirrorNamed 16 = .ok (.if_icmp .ge 28, 3) := by decide +kernel
theorem dX1_mirrorNamed_19 : decode cX1_mirrorNamed 19 = .ok (.aload_n 0, 1) := by decide +kernel
theorem dX1_mirrorNamed_20 : decode cX1_mirrorNamed 20 = .ok (.getfield 19, 3) := by decide +kernel
theorem dX1_mirrorNamed_23 : decode cX1_mirrorNamed 23 = .ok (.aload_n 0, 1) := by decide +kernel
theorem dX1_mirrorNamed_24 : decode cX1_mirrorNamed 24 = .ok (.getfield 9, 3) := by decide +kernel
theorem dX1_mirrorNamed_27 : decode cX1_mirrorNamed 27 = .ok (.iload_n 2, 1) := by decide +kernel
theorem dX1_mirrorNamed_28 : decode cX1_mirrorNamed 28 = .ok (.iaload, 1) := by decide +kernel
theorem dX1_mirrorNamed_29 : decode cX1_mirrorNamed 29 = .ok (.iload_n 1, 1) := by decide +kernel
theorem dX1_mirrorNamed_30 : decode cX1_mirrorNamed 30 = .ok (.invokevirtual 72, 3) := by decide +kernel
theorem dX1_mirrorNamed_33 : decode cX1_mirrorNamed 33 = .ok (.ifCond .eq 5, 3) := by decide +kernel
theorem dX1_mirrorNamed_36 : decode cX1_mirrorNamed 36 = .ok (.iload_n 2, 1) := by decide +kernel
theorem dX1_mirrorNamed_37 : decode cX1_mirrorNamed 37 = .ok (.ireturn, 1) := by decide +kernel
theorem dX1_mirrorNamed_38 : decode cX1_mirrorNamed 38 = .ok (.iinc 2 1, 3) := by decide +kernel
theorem dX1_mirrorNamed_41 : decode cX1_mirrorNamed 41 = .ok (.goto (-39), 3) := by decide +kernel
theorem dX1_mirrorNamed_44 : decode cX1_mirrorNamed 44 = .ok (.iconst (-1), 1) := by decide +kernel
theorem dX1_mirrorNamed_45 : decode cX1_mirrorNamed 45 = .ok (.ireturn, 1) := by decide +kernel
theorem dX1_errorOfOrder_0 : decode cX1_errorOfOrder 0 = .ok (.aload_n 0, 1) := by decide +kernel
theorem dX1_errorOfOrder_1 : decode cX1_errorOfOrder 1 = .ok (.getfield 23, 3) := by decide +kernel
theorem dX1_errorOfOrder_4 : decode cX1_errorOfOrder 4 = .ok (.dup, 1) := by decide +kernel
theorem dX1_errorOfOrder_5 : decode cX1_errorOfOrder 5 = .ok (.getfield 76, 3) := by decide +kernel
theorem dX1_errorOfOrder_8 : decode cX1_errorOfOrder 8 = .ok (.iconst 1, 1) := by decide +kernel
theorem dX1_errorOfOrder_9 : decode cX1_errorOfOrder 9 = .ok (.iadd, 1) := by decide +kernel
theorem dX1_errorOfOrder_10 : decode cX1_errorOfOrder 10 = .ok (.putfield 76, 3) := by decide +kernel
theorem dX1_errorOfOrder_13 : decode cX1_errorOfOrder 13 = .ok (.aload_n 0, 1) := by decide +kernel
theorem dX1_errorOfOrder_14 : decode cX1_errorOfOrder 14 = .ok (.getfield 23, 3) := by decide +kernel
theorem dX1_errorOfOrder_17 : decode cX1_errorOfOrder 17 = .ok (.getfield 76, 3) := by decide +kernel
theorem dX1_errorOfOrder_20 : decode cX1_errorOfOrder 20 = .ok (.bipush 16, 2) := by decide +kernel
theorem dX1_errorOfOrder_22 : decode cX1_errorOfOrder 22 = .ok (.if_icmp .le 7, 3) := by decide +kernel
theorem dX1_errorOfOrder_25 : decode cX1_errorOfOrder 25 = .ok (.iconst 4, 1) := by decide +kernel
theorem dX1_errorOfOrder_26 : decode cX1_errorOfOrder 26 = .ok (.goto 4, 3) := by decide +kernel
theorem dX1_errorOfOrder_29 : decode cX1_errorOfOrder 29 = .ok (.iconst 0, 1) := by decide +kernel
theorem dX1_errorOfOrder_30 : decode cX1_errorOfOrder 30 = .ok (.ireturn, 1) := by decide +kernel
theorem dX1_errorOfNumber_0 : decode cX1_errorOfNumber 0 = .ok (.aload_n 0, 1) := by decide +kernel
theorem dX1_errorOfNumber_1 : decode cX1_errorOfNumber 1 = .ok (.getfield 19, 3) := by decide +kernel
theorem dX1_errorOfNumber_4 : decode cX1_errorOfNumber 4 = .ok (.iload_n 1, 1) := by decide +kernel
theorem dX1_errorOfNumber_5 : decode cX1_errorOfNumber 5 = .ok (.invokevirtual 79, 3) := by decide +kernel
theorem dX1_errorOfNumber_8 : decode cX1_errorOfNumber 8 = .ok (.istore_n 2, 1) := by decide +kernel
theorem dX1_errorOfNumber_9 : decode cX1_errorOfNumber 9 = .ok (.aload_n 0, 1) := by decide +kernel
theorem dX1_errorOfNumber_10 : decode cX1_errorOfNumber 10 = .ok (.getfield 19, 3) := by decide +kernel
theorem dX1_errorOfNumber_13 : decode cX1_errorOfNumber 13 = .ok (.iload_n 1, 1) := by decide +kernel
theorem dX1_errorOfNumber_14 : decode cX1_errorOfNumber 14 = .ok (.iconst 1, 1) := by decide +kernel
theorem dX1_errorOfNumber_15 : decode cX1_errorOfNumber 15 = .ok (.isub, 1) := by decide +kernel
theorem dX1_errorOfNumber_16 : decode cX1_errorOfNumber 16 = .ok (.invokevirtual 40, 3) := by decide +kernel
theorem dX1_errorOfNumber_19 : decode cX1_errorOfNumber 19 = .ok (.istore_n 3, 1) := by decide +kernel
theorem dX1_errorOfNumber_20 : decode cX1_errorOfNumber 20 = .ok (.iload_n 3, 1) := by decide +kernel
theorem dX1_errorOfNumber_21 : decode cX1_errorOfNumber 21 = .ok (.bipush 45, 2) := by decide +kernel
theorem dX1_errorOfNumber_23 : decode cX1_errorOfNumber 23 = .ok (.if_icmp .ne 23, 3) := by decide +kernel
theorem dX1_errorOfNumber_26 : decode cX1_errorOfNumber 26 = .ok (.aload_n 0, 1) := by decide +kernel
theorem dX1_errorOfNumber_27 : decode cX1_errorOfNumber 27 = .ok (.getfield 19, 3) := by decide +kernel
theorem dX1_errorOfNumber_30 : decode cX1_errorOfNumber 30 = .ok (.iload_n 1, 1) := by decide +kernel
theorem dX1_errorOfNumber_31 : decode cX1_errorOfNumber 31 = .ok (.iconst 2, 1) := by decide +kernel
theorem dX1_errorOfNumber_32 : decode cX1_errorOfNumber 32 = .ok (.isub, 1) := by decide +kernel
theorem dX1_errorOfNumber_33 : decode cX1_errorOfNumber 33 = .ok (.invokevirtual 40, 3) := by decide +kernel
theorem dX1_errorOfNumber_36 : decode cX1_errorOfNumber 36 = .ok (.sipush 130, 3) := by decide +kernel
theorem dX1_errorOfNumber_39 : decode cX1_errorOfNumber 39 = .ok (.if_icmp .ne 7, 3) := by decide +kernel
theorem dX1_errorOfNumber_42 : decode cX1_errorOfNumber 42 = .ok (.iconst 1, 1) := by decide +kernel
theorem dX1_errorOfNumber_43 : decode cX1_errorOfNumber 43 = .ok (.goto 4, 3) := by decide +kernel
theorem dX1_errorOfNumber_46 : decode cX1_errorOfNumber 46 = .ok (.iconst 0, 1) := by decide +kernel
theorem dX1_errorOfNumber_47 : decode cX1_errorOfNumber 47 = .ok (.istore 4, 2) := by decide +kernel
theorem dX1_errorOfNumber_49 : decode cX1_errorOfNumber 49 = .ok (.iload 4, 2) := by decide +kernel
theorem dX1_errorOfNumber_51 : decode cX1_errorOfNumber 51 = .ok (.ifCond .eq 9, 3) := by decide +kernel
theorem dX1_errorOfNumber_54 : decode cX1_errorOfNumber 54 = .ok (.sipush 130, 3) := by decide +kernel
theorem dX1_errorOfNumber_57 : decode cX1_errorOfNumber 57 = .ok (.goto 4, 3) := by decide +kernel
theorem dX1_errorOfNumber_60 : decode cX1_errorOfNumber 60 = .ok (.iload_n 3, 1) := by decide +kernel
theorem dX1_errorOfNumber_61 : decode cX1_errorOfNumber 61 = .ok (.tableswitch 123 129 132 #[31, 51, 81, 102], 31) := by decide +kernel
theorem dX1_errorOfNumber_92 : decode cX1_errorOfNumber 92 = .ok (.aload_n 0, 1) := by decide +kernel
theorem dX1_errorOfNumber_93 : decode cX1_errorOfNumber 93 = .ok (.getfield 23, 3) := by decide +kernel
theorem dX1_errorOfNumber_96 : decode cX1_errorOfNumber 96 = .ok (.iload_n 2, 1) := by decide +kernel
theorem dX1_errorOfNumber_97 : decode cX1_errorOfNumber 97 = .ok (.invokevirtual 82, 3) := by decide +kernel
theorem dX1_errorOfNumber_100 : decode cX1_errorOfNumber 100 = .ok (.iload_n 2, 1) := by decide +kernel
theorem dX1_errorOfNumber_101 : decode cX1_errorOfNumber 101 = .ok (.bipush 100, 2) := by decide +kernel
theorem dX1_errorOfNumber_103 : decode cX1_errorOfNumber 103 = .ok (.if_icmp .le 7, 3) := by decide +kernel
theorem dX1_errorOfNumber_106 : decode cX1_errorOfNumber 106 = .ok (.iconst 5, 1) := by decide +kernel
theorem dX1_errorOfNumber_107 : decode cX1_errorOfNumber 107 = .ok (.goto 4, 3) := by decide +kernel
theorem dX1_errorOfNumber_110 : decode cX1_errorOfNumber 110 = .ok (.iconst 0, 1) := by decide +kernel
theorem dX1_errorOfNumber_111 : decode cX1_errorOfNumber 111 = .ok (.ireturn, 1) := by decide +kernel
theorem dX1_errorOfNumber_112 : decode cX1_errorOfNumber 112 = .ok (.aload_n 0, 1) := by decide +kernel
theorem dX1_errorOfNumber_113 : decode cX1_errorOfNumber 113 = .ok (.getfield 23, 3) := by decide +kernel
theorem dX1_errorOfNumber_116 : decode cX1_errorOfNumber 116 = .ok (.iload 4, 2) := by decide +kernel
theorem dX1_errorOfNumber_118 : decode cX1_errorOfNumber 118 = .ok (.ifCond .eq 8, 3) := by decide +kernel
theorem dX1_errorOfNumber_121 : decode cX1_errorOfNumber 121 = .ok (.iload_n 2, 1) := by decide +kernel
theorem dX1_errorOfNumber_122 : decode cX1_errorOfNumber 122 = .ok (.ineg, 1) := by decide +kernel
theorem dX1_errorOfNumber_123 : decode cX1_errorOfNumber 123 = .ok (.goto 4, 3) := by decide +kernel
theorem dX1_errorOfNumber_126 : decode cX1_errorOfNumber 126 = .ok (.iload_n 2, 1) := by decide +kernel
theorem dX1_errorOfNumber_127 : decode cX1_errorOfNumber 127 = .ok (.invokevirtual 86, 3) := by decide +kernel
theorem dX1_errorOfNumber_130 : decode cX1_errorOfNumber 130 = .ok (.iload_n 2, 1) := by decide +kernel
theorem dX1_errorOfNumber_131 : decode cX1_errorOfNumber 131 = .ok (.bipush 90, 2) := by decide +kernel
theorem dX1_errorOfNumber_133 : decode cX1_errorOfNumber 133 = .ok (.if_icmp .le 7, 3) := by decide +kernel
theorem dX1_errorOfNumber_136 : decode cX1_errorOfNumber 136 = .ok (.iconst 5, 1) := by decide +kernel
theorem dX1_errorOfNumber_137 : decode cX1_errorOfNumber 137 = .ok (.goto 4, 3) := by decide +kernel
theorem dX1_errorOfNumber_140 : decode cX1_errorOfNumber 140 = .ok (.iconst 0, 1) := by decide +kernel
theorem dX1_errorOfNumber_141 : decode cX1_errorOfNumber 141 = .ok (.ireturn, 1) := by decide +kernel
theorem dX1_errorOfNumber_142 : decode cX1_errorOfNumber 142 = .ok (.aload_n 0, 1) := by decide +kernel
theorem dX1_errorOfNumber_143 : decode cX1_errorOfNumber 143 = .ok (.getfield 23, 3) := by decide +kernel
theorem dX1_errorOfNumber_146 : decode cX1_errorOfNumber 146 = .ok (.iload_n 2, 1) := by decide +kernel
theorem dX1_errorOfNumber_147 : decode cX1_errorOfNumber 147 = .ok (.putfield 89, 3) := by decide +kernel
theorem dX1_errorOfNumber_150 : decode cX1_errorOfNumber 150 = .ok (.iload_n 2, 1) := by decide +kernel
theorem dX1_errorOfNumber_151 : decode cX1_errorOfNumber 151 = .ok (.sipush 180, 3) := by decide +kernel
theorem dX1_errorOfNumber_154 : decode cX1_errorOfNumber 154 = .ok (.if_icmp .le 7, 3) := by decide +kernel
theorem dX1_errorOfNumber_157 : decode cX1_errorOfNumber 157 = .ok (.iconst 5, 1) := by decide +kernel
theorem dX1_errorOfNumber_158 : decode cX1_errorOfNumber 158 = .ok (.goto 4, 3) := by decide +kernel
theorem dX1_errorOfNumber_161 : decode cX1_errorOfNumber 161 = .ok (.iconst 0, 1) := by decide +kernel
theorem dX1_errorOfNumber_162 : decode cX1_errorOfNumber 162 = .ok (.ireturn, 1) := by decide +kernel
theorem dX1_errorOfNumber_163 : decode cX1_errorOfNumber 163 = .ok (.aload_n 0, 1) := by decide +kernel
theorem dX1_errorOfNumber_164 : decode cX1_errorOfNumber 164 = .ok (.getfield 23, 3) := by decide +kernel
theorem dX1_errorOfNumber_167 : decode cX1_errorOfNumber 167 = .ok (.iload_n 2, 1) := by decide +kernel
theorem dX1_errorOfNumber_168 : decode cX1_errorOfNumber 168 = .ok (.putfield 92, 3) := by decide +kernel
theorem dX1_errorOfNumber_171 : decode cX1_errorOfNumber 171 = .ok (.iload_n 2, 1) := by decide +kernel
theorem dX1_errorOfNumber_172 : decode cX1_errorOfNumber 172 = .ok (.sipush 10000, 3) := by decide +kernel
theorem dX1_errorOfNumber_175 : decode cX1_errorOfNumber 175 = .ok (.if_icmp .le 7, 3) := by decide +kernel
theorem dX1_errorOfNumber_178 : decode cX1_errorOfNumber 178 = .ok (.iconst 5, 1) := by decide +kernel
theorem dX1_errorOfNumber_179 : decode cX1_errorOfNumber 179 = .ok (.goto 4, 3) := by decide +kernel
theorem dX1_errorOfNumber_182 : decode cX1_errorOfNumber 182 = .ok (.iconst 0, 1) := by decide +kernel
theorem dX1_errorOfNumber_183 : decode cX1_errorOfNumber 183 = .ok (.ireturn, 1) := by decide +kernel
theorem dX1_errorOfNumber_184 : decode cX1_errorOfNumber 184 = .ok (.iconst 0, 1) := by decide +kernel
theorem dX1_errorOfNumber_185 : decode cX1_errorOfNumber 185 = .ok (.ireturn, 1) := by decide +kernel
theorem dX2_init_0 : decode cX2_init 0 = .ok (.aload_n 0, 1) := by decide +kernel
theorem dX2_init_1 : decode cX2_init 1 = .ok (.invokespecial 3, 3) := by decide +kernel
theorem dX2_init_4 : decode cX2_init 4 = .ok (.aload_n 0, 1) := by decide +kernel
theorem dX2_init_5 : decode cX2_init 5 = .ok (.bipush 10, 2) := by decide +kernel
theorem dX2_init_7 : decode cX2_init 7 = .ok (.newarray .int, 2) := by decide +kernel
theorem dX2_init_9 : decode cX2_init 9 = .ok (.putfield 9, 3) := by decide +kernel
theorem dX2_init_12 : decode cX2_init 12 = .ok (.aload_n 0, 1) := by decide +kernel
theorem dX2_init_13 : decode cX2_init 13 = .ok (.bipush 10, 2) := by decide +kernel
theorem dX2_init_15 : decode cX2_init 15 = .ok (.newarray .int, 2) := by decide +kernel
theorem dX2_init_17 : decode cX2_init 17 = .ok (.putfield 15, 3) := by decide +kernel
theorem dX2_init_20 : decode cX2_init 20 = .ok (.aload_n 0, 1) := by decide +kernel
theorem dX2_init_21 : decode cX2_init 21 = .ok (.sipush 400, 3) := by decide +kernel
theorem dX2_init_24 : decode cX2_init 24 = .ok (.newarray .int, 2) := by decide +kernel
theorem dX2_init_26 : decode cX2_init 26 = .ok (.putfield 18, 3) := by decide +kernel
theorem dX2_init_29 : decode cX2_init 29 = .ok (.aload_n 0, 1) := by decide +kernel
theorem dX2_init_30 : decode cX2_init 30 = .ok (.sipush 400, 3) := by decide +kernel
theorem dX2_init_33 : decode cX2_init 33 = .ok (.newarray .int, 2) := by decide +kernel
theorem dX2_init_35 : decode cX2_init 35 = .ok (.putfield 21, 3) := by decide +kernel
theorem dX2_init_38 : decode cX2_init 38 = .ok (.aload_n 0, 1) := by decide +kernel
theorem dX2_init_39 : decode cX2_init 39 = .ok (.bipush 60, 2) := by decide +kernel
theorem dX2_init_41 : decode cX2_init 41 = .ok (.putfield 24, 3) := by decide +kernel
theorem dX2_init_44 : decode cX2_init 44 = .ok (.aload_n 0, 1) := by decide +kernel
theorem dX2_init_45 : decode cX2_init 45 = .ok (.sipush 1000, 3) := by decide +kernel
theorem dX2_init_48 : decode cX2_init 48 = .ok (.putfield 28, 3) := by decide +kernel
theorem dX2_init_51 : decode cX2_init 51 = .ok (.return_, 1) := by decide +kernel
theorem dX2_clear_0 : decode cX2_clear 0 = .ok (.aload_n 0, 1) := by decide +kernel
theorem dX2_clear_1 : decode cX2_clear 1 = .ok (.iconst 0, 1) := by decide +kernel
theorem dX2_clear_2 : decode cX2_clear 2 = .ok (.putfield 31, 3) := by decide +kernel
theorem dX2_clear_5 : decode cX2_clear 5 = .ok (.aload_n 0, 1) := by decide +kernel
theorem dX2_clear_6 : decode cX2_clear 6 = .ok (.iconst 0, 1) := by decide +kernel
theorem dX2_clear_7 : decode cX2_clear 7 = .ok (.putfield 34, 3) := by decide +kernel
theorem dX2_clear_10 : decode cX2_clear 10 = .ok (.aload_n 0, 1) := by decide +kernel
theorem dX2_clear_11 : decode cX2_clear 11 = .ok (.bipush 60, 2) := by decide +kernel
theorem dX2_clear_13 : decode cX2_clear 13 = .ok (.putfield 24, 3) := by decide +kernel
theorem dX2_clear_16 : decode cX2_clear 16 = .ok (.aload_n 0, 1) := by decide +kernel
theorem dX2_clear_17 : decode cX2_clear 17 = .ok (.sipush 1000, 3) := by decide +kernel
theorem dX2_clear_20 : decode cX2_clear 20 = .ok (.putfield 28, 3) := by decide +kernel
theorem dX2_clear_23 : decode cX2_clear 23 = .ok (.aload_n 0, 1) := by decide +kernel
theorem dX2_clear_24 : decode cX2_clear 24 = .ok (.iconst 0, 1) := by decide +kernel
theorem dX2_clear_25 : decode cX2_clear 25 = .ok (.putfield 37, 3) := by decide +kernel
theorem dX2_clear_28 : decode cX2_clear 28 = .ok (.return_, 1) := by decide +kernel
theorem dX2_write_0 : decode cX2_write 0 = .ok (.aload_n 0, 1) := by decide +kernel
theorem dX2_write_1 : decode cX2_write 1 = .ok (.getfield 37, 3) := by decide +kernel
theorem dX2_write_4 : decode cX2_write 4 = .ok (.sipush 400, 3) := by decide +kernel
theorem dX2_write_7 : decode cX2_write 7 = .ok (.if_icmp .ge 33, 3) := by decide +kernel
theorem dX2_write_10 : decode cX2_write 10 = .ok (.aload_n 0, 1) := by decide +kernel
theorem dX2_write_11 : decode cX2_write 11 = .ok (.getfield 18, 3) := by decide +kernel
theorem dX2_write_14 : decode cX2_write 14 = .ok (.aload_n 0, 1) := by decide +kernel
theorem dX2_write_15 : decode cX2_write 15 = .ok (.getfield 37, 3) := by decide +kernel
theorem dX2_write_18 : decode cX2_write 18 = .ok (.iload_n 1, 1) := by decide +kernel
theorem dX2_write_19 : decode cX2_write 19 = .ok (.iastore, 1) := by decide +kernel
theorem dX2_write_20 : decode cX2_write 20 = .ok (.aload_n 0, 1) := by decide +kernel
theorem dX2_write_21 : decode cX2_write 21 = .ok (.getfield 21, 3) := by decide +kernel
theorem dX2_write_24 : decode cX2_write 24 = .ok (.aload_n 0, 1) := by decide +kernel
theorem dX2_write_25 : decode cX2_write 25 = .ok (.getfield 37, 3) := by decide +kernel
theorem dX2_write_28 : decode cX2_write 28 = .ok (.iload_n 2, 1) := by decide +kernel
theorem dX2_write_29 : decode cX2_write 29 = .ok (.iastore, 1) := by decide +kernel
theorem dX2_write_30 : decode cX2_write 30 = .ok (.aload_n 0, 1) := by decide +kernel
theorem dX2_write_31 : decode cX2_write 31 = .ok (.dup, 1) := by decide +kernel
theorem dX2_write_32 : decode cX2_write 32 = .ok (.getfield 37, 3) := by decide +kernel
theorem dX2_write_35 : decode cX2_write 35 = .ok (.iconst 1, 1) := by decide +kernel
theorem dX2_write_36 : decode cX2_write 36 = .ok (.iadd, 1) := by decide +kernel
theorem dX2_write_37 : decode cX2_write 37 = .ok (.putfield 37, 3) := by decide +kernel
theorem dX2_write_40 : decode cX2_write 40 = .ok (.return_, 1) := by decide +kernel
theorem dX2_tellClarity_0 : decode cX2_tellClarity 0 = .ok (.aload_n 0, 1) := by decide +kernel
theorem dX2_tellClarity_1 : decode cX2_tellClarity 1 = .ok (.getfield 31, 3) := by decide +kernel
theorem dX2_tellClarity_4 : decode cX2_tellClarity 4 = .ok (.ifCond .le 24, 3) := by decide +kernel
theorem dX2_tellClarity_7 : decode cX2_tellClarity 7 = .ok (.aload_n 0, 1) := by decide +kernel
theorem dX2_tellClarity_8 : decode cX2_tellClarity 8 = .ok (.getfield 31, 3) := by decide +kernel
theorem dX2_tellClarity_11 : decode cX2_tellClarity 11 = .ok (.bipush 10, 2) := by decide +kernel
theorem dX2_tellClarity_13 : decode cX2_tellClarity 13 = .ok (.if_icmp .gt 15, 3) := by decide +kernel
theorem dX2_tellClarity_16 : decode cX2_tellClarity 16 = .ok (.aload_n 0, 1) := by decide +kernel
theorem dX2_tellClarity_17 : decode cX2_tellClarity 17 = .ok (.getfield 9, 3) := by decide +kernel
theorem dX2_tellClarity_20 : decode cX2_tellClarity 20 = .ok (.aload_n 0, 1) := by decide +kernel
theorem dX2_tellClarity_21 : decode cX2_tellClarity 21 = .ok (.getfield 31, 3) := by decide +kernel
theorem dX2_tellClarity_24 : decode cX2_tellClarity 24 = .ok (.iconst 1, 1) := by decide +kernel
theorem dX2_tellClarity_25 : decode cX2_tellClarity 25 = .ok (.isub, 1) := by decide +kernel
theorem dX2_tellClarity_26 : decode cX2_tellClarity 26 = .ok (.iload_n 1, 1) := by decide +kernel
theorem dX2_tellClarity_27 : decode cX2_tellClarity 27 = .ok (.iastore, 1) := by decide +kernel
theorem dX2_tellClarity_28 : decode cX2_tellClarity 28 = .ok (.return_, 1) := by decide +kernel
theorem dX2_tellOffset_0 : decode cX2_tellOffset 0 = .ok (.aload_n 0, 1) := by decide +kernel
theorem dX2_tellOffset_1 : decode cX2_tellOffset 1 = .ok (.getfield 31, 3) := by decide +kernel
theorem dX2_tellOffset_4 : decode cX2_tellOffset 4 = .ok (.ifCond .le 24, 3) := by decide +kernel
theorem dX2_tellOffset_7 : decode cX2_tellOffset 7 = .ok (.aload_n 0, 1) := by decide +kernel
theorem dX2_tellOffset_8 : decode cX2_tellOffset 8 = .ok (.getfield 31, 3) := by decide +kernel
theorem dX2_tellOffset_11 : decode cX2_tellOffset 11 = .ok (.bipush 10, 2) := by decide +kernel
theorem dX2_tellOffset_13 : decode cX2_tellOffset 13 = .ok (.if_icmp .gt 15, 3) := by decide +kernel
theorem dX2_tellOffset_16 : decode cX2_tellOffset 16 = .ok (.aload_n 0, 1) := by decide +kernel
theorem dX2_tellOffset_17 : decode cX2_tellOffset 17 = .ok (.getfield 15, 3) := by decide +kernel
theorem dX2_tellOffset_20 : decode cX2_tellOffset 20 = .ok (.aload_n 0, 1) := by decide +kernel
theorem dX2_tellOffset_21 : decode cX2_tellOffset 21 = .ok (.getfield 31, 3) := by decide +kernel
theorem dX2_tellOffset_24 : decode cX2_tellOffset 24 = .ok (.iconst 1, 1) := by decide +kernel
theorem dX2_tellOffset_25 : decode cX2_tellOffset 25 = .ok (.isub, 1) := by decide +kernel
theorem dX2_tellOffset_26 : decode cX2_tellOffset 26 = .ok (.iload_n 1, 1) := by decide +kernel
theorem dX2_tellOffset_27 : decode cX2_tellOffset 27 = .ok (.iastore, 1) := by decide +kernel
theorem dX2_tellOffset_28 : decode cX2_tellOffset 28 = .ok (.return_, 1) := by decide +kernel
theorem dX2_takeOver_0 : decode cX2_takeOver 0 = .ok (.aload_n 1, 1) := by decide +kernel
theorem dX2_takeOver_1 : decode cX2_takeOver 1 = .ok (.getfield 9, 3) := by decide +kernel
theorem dX2_takeOver_4 : decode cX2_takeOver 4 = .ok (.iconst 0, 1) := by decide +kernel
theorem dX2_takeOver_5 : decode cX2_takeOver 5 = .ok (.aload_n 0, 1) := by decide +kernel
theorem dX2_takeOver_6 : decode cX2_takeOver 6 = .ok (.getfield 9, 3) := by decide +kernel
theorem dX2_takeOver_9 : decode cX2_takeOver 9 = .ok (.iconst 0, 1) := by decide +kernel
theorem dX2_takeOver_10 : decode cX2_takeOver 10 = .ok (.bipush 10, 2) := by decide +kernel
theorem dX2_takeOver_12 : decode cX2_takeOver 12 = .ok (.invokestatic 40, 3) := by decide +kernel
theorem dX2_takeOver_15 : decode cX2_takeOver 15 = .ok (.aload_n 1, 1) := by decide +kernel
theorem dX2_takeOver_16 : decode cX2_takeOver 16 = .ok (.getfield 15, 3) := by decide +kernel
theorem dX2_takeOver_19 : decode cX2_takeOver 19 = .ok (.iconst 0, 1) := by decide +kernel
theorem dX2_takeOver_20 : decode cX2_takeOver 20 = .ok (.aload_n 0, 1) := by decide +kernel
theorem dX2_takeOver_21 : decode cX2_takeOver 21 = .ok (.getfield 15, 3) := by decide +kernel
theorem dX2_takeOver_24 : decode cX2_takeOver 24 = .ok (.iconst 0, 1) := by decide +kernel
theorem dX2_takeOver_25 : decode cX2_takeOver 25 = .ok (.bipush 10, 2) := by decide +kernel
theorem dX2_takeOver_27 : decode cX2_takeOver 27 = .ok (.invokestatic 40, 3) := by decide +kernel
theorem dX2_takeOver_30 : decode cX2_takeOver 30 = .ok (.aload_n 0, 1) := by decide +kernel
theorem dX2_takeOver_31 : decode cX2_takeOver 31 = .ok (.aload_n 1, 1) := by decide +kernel
theorem dX2_takeOver_32 : decode cX2_takeOver 32 = .ok (.getfield 31, 3) := by decide +kernel
theorem dX2_takeOver_35 : decode cX2_takeOver 35 = .ok (.putfield 31, 3) := by decide +kernel
theorem dX2_takeOver_38 : decode cX2_takeOver 38 = .ok (.aload_n 0, 1) := by decide +kernel
theorem dX2_takeOver_39 : decode cX2_takeOver 39 = .ok (.aload_n 1, 1) := by decide +kernel
theorem dX2_takeOver_40 : decode cX2_takeOver 40 = .ok (.getfield 34, 3) := by decide +kernel
theorem dX2_takeOver_43 : decode cX2_takeOver 43 = .ok (.putfield 34, 3) := by decide +kernel
theorem dX2_takeOver_46 : decode cX2_takeOver 46 = .ok (.aload_n 0, 1) := by decide +kernel
theorem dX2_takeOver_47 : decode cX2_takeOver 47 = .ok (.aload_n 1, 1) := by decide +kernel
theorem dX2_takeOver_48 : decode cX2_takeOver 48 = .ok (.getfield 24, 3) := by decide +kernel
theorem dX2_takeOver_51 : decode cX2_takeOver 51 = .ok (.putfield 24, 3) := by decide +kernel
theorem dX2_takeOver_54 : decode cX2_takeOver 54 = .ok (.aload_n 0, 1) := by decide +kernel
theorem dX2_takeOver_55 : decode cX2_takeOver 55 = .ok (.aload_n 1, 1) := by decide +kernel
theorem dX2_takeOver_56 : decode cX2_takeOver 56 = .ok (.getfield 28, 3) := by decide +kernel
theorem dX2_takeOver_59 : decode cX2_takeOver 59 = .ok (.putfield 28, 3) := by decide +kernel
theorem dX2_takeOver_62 : decode cX2_takeOver 62 = .ok (.aload_n 0, 1) := by decide +kernel
theorem dX2_takeOver_63 : decode cX2_takeOver 63 = .ok (.aload_n 1, 1) := by decide +kernel
theorem dX2_takeOver_64 : decode cX2_takeOver 64 = .ok (.getfield 37, 3) := by decide +kernel
theorem dX2_takeOver_67 : decode cX2_takeOver 67 = .ok (.putfield 37, 3) := by decide +kernel
theorem dX2_takeOver_70 : decode cX2_takeOver 70 = .ok (.iconst 0, 1) := by decide +kernel
theorem dX2_takeOver_71 : decode cX2_takeOver 71 = .ok (.istore_n 3, 1) := by decide +kernel
theorem dX2_takeOver_72 : decode cX2_takeOver 72 = .ok (.iload_n 3, 1) := by decide +kernel
theorem dX2_takeOver_73 : decode cX2_takeOver 73 = .ok (.aload_n 0, 1) := by decide +kernel
theorem dX2_takeOver_74 : decode cX2_takeOver 74 = .ok (.getfield 37, 3) := by decide +kernel
theorem dX2_takeOver_77 : decode cX2_takeOver 77 = .ok (.if_icmp .ge 44, 3) := by decide +kernel
theorem dX2_takeOver_80 : decode cX2_takeOver 80 = .ok (.iload_n 3, 1) := by decide +kernel
theorem dX2_takeOver_81 : decode cX2_takeOver 81 = .ok (.sipush 400, 3) := by decide +kernel
theorem dX2_takeOver_84 : decode cX2_takeOver 84 = .ok (.if_icmp .ge 37, 3) := by decide +kernel
theorem dX2_takeOver_87 : decode cX2_takeOver 87 = .ok (.aload_n 0, 1) := by decide +kernel
theorem dX2_takeOver_88 : decode cX2_takeOver 88 = .ok (.getfield 18, 3) := by decide +kernel
theorem dX2_takeOver_91 : decode cX2_takeOver 91 = .ok (.iload_n 3, 1) := by decide +kernel
theorem dX2_takeOver_92 : decode cX2_takeOver 92 = .ok (.aload_n 1, 1) := by decide +kernel
theorem dX2_takeOver_93 : decode cX2_takeOver 93 = .ok (.getfield 18, 3) := by decide +kernel
theorem dX2_takeOver_96 : decode cX2_takeOver 96 = .ok (.iload_n 3, 1) := by decide +kernel
theorem dX2_takeOver_97 : decode cX2_takeOver 97 = .ok (.iaload, 1) := by decide +kernel
theorem dX2_takeOver_98 : decode cX2_takeOver 98 = .ok (.iastore, 1) := by decide +kernel
theorem dX2_takeOver_99 : decode cX2_takeOver 99 = .ok (.aload_n 0, 1) := by decide +kernel
theorem dX2_takeOver_100 : decode cX2_takeOver 100 = .ok (.getfield 21, 3) := by decide +kernel
theorem dX2_takeOver_103 : decode cX2_takeOver 103 = .ok (.iload_n 3, 1) := by decide +kernel
theorem dX2_takeOver_104 : decode cX2_takeOver 104 = .ok (.aload_n 2, 1) := by decide +kernel
theorem dX2_takeOver_105 : decode cX2_takeOver 105 = .ok (.aload_n 1, 1) := by decide +kernel
theorem dX2_takeOver_106 : decode cX2_takeOver 106 = .ok (.getfield 21, 3) := by decide +kernel
theorem dX2_takeOver_109 : decode cX2_takeOver 109 = .ok (.iload_n 3, 1) := by decide +kernel
theorem dX2_takeOver_110 : decode cX2_takeOver 110 = .ok (.iaload, 1) := by decide +kernel
theorem dX2_takeOver_111 : decode cX2_takeOver 111 = .ok (.invokevirtual 46, 3) := by decide +kernel
theorem dX2_takeOver_114 : decode cX2_takeOver 114 = .ok (.iastore, 1) := by decide +kernel
theorem dX2_takeOver_115 : decode cX2_takeOver 115 = .ok (.iinc 3 1, 3) := by decide +kernel
theorem dX2_takeOver_118 : decode cX2_takeOver 118 = .ok (.goto (-46), 3) := by decide +kernel
theorem dX2_takeOver_121 : decode cX2_takeOver 121 = .ok (.return_, 1) := by decide +kernel
theorem dX3_init_0 : decode cX3_init 0 = .ok (.aload_n 0, 1) := by decide +kernel
theorem dX3_init_1 : decode cX3_init 1 = .ok (.invokespecial 3, 3) := by decide +kernel
theorem dX3_init_4 : decode cX3_init 4 = .ok (.aload_n 0, 1) := by decide +kernel
theorem dX3_init_5 : decode cX3_init 5 = .ok (.bipush 12, 2) := by decide +kernel
theorem dX3_init_7 : decode cX3_init 7 = .ok (.newarray .int, 2) := by decide +kernel
theorem dX3_init_9 : decode cX3_init 9 = .ok (.putfield 9, 3) := by decide +kernel
theorem dX3_init_12 : decode cX3_init 12 = .ok (.aload_n 0, 1) := by decide +kernel
theorem dX3_init_13 : decode cX3_init 13 = .ok (.bipush 12, 2) := by decide +kernel
theorem dX3_init_15 : decode cX3_init 15 = .ok (.newarray .int, 2) := by decide +kernel
theorem dX3_init_17 : decode cX3_init 17 = .ok (.putfield 15, 3) := by decide +kernel
theorem dX3_init_20 : decode cX3_init 20 = .ok (.return_, 1) := by decide +kernel
theorem dX3_begin_0 : decode cX3_begin 0 = .ok (.aload_n 0, 1) := by decide +kernel
theorem dX3_begin_1 : decode cX3_begin 1 = .ok (.iconst 0, 1) := by decide +kernel
theorem dX3_begin_2 : decode cX3_begin 2 = .ok (.putfield 18, 3) := by decide +kernel
theorem dX3_begin_5 : decode cX3_begin 5 = .ok (.aload_n 0, 1) := by decide +kernel
theorem dX3_begin_6 : decode cX3_begin 6 = .ok (.iconst 0, 1) := by decide +kernel
theorem dX3_begin_7 : decode cX3_begin 7 = .ok (.putfield 22, 3) := by decide +kernel
theorem dX3_begin_10 : decode cX3_begin 10 = .ok (.aload_n 0, 1) := by decide +kernel
theorem dX3_begin_11 : decode cX3_begin 11 = .ok (.iconst 0, 1) := by decide +kernel
theorem dX3_begin_12 : decode cX3_begin 12 = .ok (.putfield 25, 3) := by decide +kernel
theorem dX3_begin_15 : decode cX3_begin 15 = .ok (.return_, 1) := by decide +kernel
theorem dX3_copy_0 : decode cX3_copy 0 = .ok (.aload_n 1, 1) := by decide +kernel
theorem dX3_copy_1 : decode cX3_copy 1 = .ok (.getfield 9, 3) := by decide +kernel
theorem dX3_copy_4 : decode cX3_copy 4 = .ok (.iconst 0, 1) := by decide +kernel
theorem dX3_copy_5 : decode cX3_copy 5 = .ok (.aload_n 0, 1) := by decide +kernel
theorem dX3_copy_6 : decode cX3_copy 6 = .ok (.getfield 9, 3) := by decide +kernel
theorem dX3_copy_9 : decode cX3_copy 9 = .ok (.iconst 0, 1) := by decide +kernel
theorem dX3_copy_10 : decode cX3_copy 10 = .ok (.bipush 12, 2) := by decide +kernel
theorem dX3_copy_12 : decode cX3_copy 12 = .ok (.invokestatic 28, 3) := by decide +kernel
theorem dX3_copy_15 : decode cX3_copy 15 = .ok (.aload_n 1, 1) := by decide +kernel
theorem dX3_copy_16 : decode cX3_copy 16 = .ok (.getfield 15, 3) := by decide +kernel
theorem dX3_copy_19 : decode cX3_copy 19 = .ok (.iconst 0, 1) := by decide +kernel
theorem dX3_copy_20 : decode cX3_copy 20 = .ok (.aload_n 0, 1) := by decide +kernel
theorem dX3_copy_21 : decode cX3_copy 21 = .ok (.getfield 15, 3) := by decide +kernel
theorem dX3_copy_24 : decode cX3_copy 24 = .ok (.iconst 0, 1) := by decide +kernel
theorem dX3_copy_25 : decode cX3_copy 25 = .ok (.bipush 12, 2) := by decide +kernel
theorem dX3_copy_27 : decode cX3_copy 27 = .ok (.invokestatic 28, 3) := by decide +kernel
theorem dX3_copy_30 : decode cX3_copy 30 = .ok (.aload_n 0, 1) := by decide +kernel
theorem dX3_copy_31 : decode cX3_copy 31 = .ok (.aload_n 1, 1) := by decide +kernel
theorem dX3_copy_32 : decode cX3_copy 32 = .ok (.getfield 18, 3) := by decide +kernel
theorem dX3_copy_35 : decode cX3_copy 35 = .ok (.putfield 18, 3) := by decide +kernel
theorem dX3_copy_38 : decode cX3_copy 38 = .ok (.aload_n 0, 1) := by decide +kernel
theorem dX3_copy_39 : decode cX3_copy 39 = .ok (.aload_n 1, 1) := by decide +kernel
theorem dX3_copy_40 : decode cX3_copy 40 = .ok (.getfield 22, 3) := by decide +kernel
theorem dX3_copy_43 : decode cX3_copy 43 = .ok (.putfield 22, 3) := by decide +kernel
theorem dX3_copy_46 : decode cX3_copy 46 = .ok (.aload_n 0, 1) := by decide +kernel
theorem dX3_copy_47 : decode cX3_copy 47 = .ok (.aload_n 1, 1) := by decide +kernel
theorem dX3_copy_48 : decode cX3_copy 48 = .ok (.getfield 25, 3) := by decide +kernel
theorem dX3_copy_51 : decode cX3_copy 51 = .ok (.putfield 25, 3) := by decide +kernel
theorem dX3_copy_54 : decode cX3_copy 54 = .ok (.return_, 1) := by decide +kernel
theorem dX3_kindIn_0 : decode cX3_kindIn 0 = .ok (.iload_n 1, 1) := by decide +kernel
theorem dX3_kindIn_1 : decode cX3_kindIn 1 = .ok (.ifCond .lt 20, 3) := by decide +kernel
theorem dX3_kindIn_4 : decode cX3_kindIn 4 = .ok (.iload_n 1, 1) := by decide +kernel
theorem dX3_kindIn_5 : decode cX3_kindIn 5 = .ok (.aload_n 0, 1) := by decide +kernel
theorem dX3_kindIn_6 : decode cX3_kindIn 6 = .ok (.getfield 18, 3) := by decide +kernel
theorem dX3_kindIn_9 : decode cX3_kindIn 9 = .ok (.if_icmp .ge 12, 3) := by decide +kernel
theorem dX3_kindIn_12 : decode cX3_kindIn 12 = .ok (.aload_n 0, 1) := by decide +kernel
theorem dX3_kindIn_13 : decode cX3_kindIn 13 = .ok (.getfield 9, 3) := by decide +kernel
theorem dX3_kindIn_16 : decode cX3_kindIn 16 = .ok (.iload_n 1, 1) := by decide +kernel
theorem dX3_kindIn_17 : decode cX3_kindIn 17 = .ok (.iaload, 1) := by decide +kernel
theorem dX3_kindIn_18 : decode cX3_kindIn 18 = .ok (.goto 4, 3) := by decide +kernel
theorem dX3_kindIn_21 : decode cX3_kindIn 21 = .ok (.iconst (-1), 1) := by decide +kernel
theorem dX3_kindIn_22 : decode cX3_kindIn 22 = .ok (.ireturn, 1) := by decide +kernel
theorem dX3_mirrorIn_0 : decode cX3_mirrorIn 0 = .ok (.iload_n 1, 1) := by decide +kernel
theorem dX3_mirrorIn_1 : decode cX3_mirrorIn 1 = .ok (.ifCond .lt 20, 3) := by decide +kernel
theorem dX3_mirrorIn_4 : decode cX3_mirrorIn 4 = .ok (.iload_n 1, 1) := by decide +kernel
theorem dX3_mirrorIn_5 : decode cX3_mirrorIn 5 = .ok (.aload_n 0, 1) := by decide +kernel
theorem dX3_mirrorIn_6 : decode cX3_mirrorIn 6 = .ok (.getfield 18, 3) := by decide +kernel
theorem dX3_mirrorIn_9 : decode cX3_mirrorIn 9 = .ok (.if_icmp .ge 12, 3) := by decide +kernel
theorem dX3_mirrorIn_12 : decode cX3_mirrorIn 12 = .ok (.aload_n 0, 1) := by decide +kernel
theorem dX3_mirrorIn_13 : decode cX3_mirrorIn 13 = .ok (.getfield 15, 3) := by decide +kernel
theorem dX3_mirrorIn_16 : decode cX3_mirrorIn 16 = .ok (.iload_n 1, 1) := by decide +kernel
theorem dX3_mirrorIn_17 : decode cX3_mirrorIn 17 = .ok (.iaload, 1) := by decide +kernel
theorem dX3_mirrorIn_18 : decode cX3_mirrorIn 18 = .ok (.goto 4, 3) := by decide +kernel
theorem dX3_mirrorIn_21 : decode cX3_mirrorIn 21 = .ok (.iconst (-1), 1) := by decide +kernel
theorem dX3_mirrorIn_22 : decode cX3_mirrorIn 22 = .ok (.ireturn, 1) := by decide +kernel
theorem dX3_hasJobFor_0 : decode cX3_hasJobFor 0 = .ok (.iconst 0, 1) := by decide +kernel
theorem dX3_hasJobFor_1 : decode cX3_hasJobFor 1 = .ok (.istore_n 2, 1) := by decide +kernel
theorem dX3_hasJobFor_2 : decode cX3_hasJobFor 2 = .ok (.iload_n 2, 1) := by decide +kernel
theorem dX3_hasJobFor_3 : decode cX3_hasJobFor 3 = .ok (.aload_n 0, 1) := by decide +kernel
theorem dX3_hasJobFor_4 : decode cX3_hasJobFor 4 = .ok (.getfield 18, 3) := by decide +kernel
theorem dX3_hasJobFor_7 : decode cX3_hasJobFor 7 = .ok (.if_icmp .ge 21, 3) := by decide +kernel
theorem dX3_hasJobFor_10 : decode cX3_hasJobFor 10 = .ok (.aload_n 0, 1) := by decide +kernel
theorem dX3_hasJobFor_11 : decode cX3_hasJobFor 11 = .ok (.getfield 15, 3) := by decide +kernel
theorem dX3_hasJobFor_14 : decode cX3_hasJobFor 14 = .ok (.iload_n 2, 1) := by decide +kernel
theorem dX3_hasJobFor_15 : decode cX3_hasJobFor 15 = .ok (.iaload, 1) := by decide +kernel
theorem dX3_hasJobFor_16 : decode cX3_hasJobFor 16 = .ok (.iload_n 1, 1) := by decide +kernel
theorem dX3_hasJobFor_17 : decode cX3_hasJobFor 17 = .ok (.if_icmp .ne 5, 3) := by decide +kernel
theorem dX3_hasJobFor_20 : decode cX3_hasJobFor 20 = .ok (.iconst 1, 1) := by decide +kernel
theorem dX3_hasJobFor_21 : decode cX3_hasJobFor 21 = .ok (.ireturn, 1) := by decide +kernel
theorem dX3_hasJobFor_22 : decode cX3_hasJobFor 22 = .ok (.iinc 2 1, 3) := by decide +kernel
theorem dX3_hasJobFor_25 : decode cX3_hasJobFor 25 = .ok (.goto (-23), 3) := by decide +kernel
theorem dX3_hasJobFor_28 : decode cX3_hasJobFor 28 = .ok (.iconst 0, 1) := by decide +kernel
theorem dX3_hasJobFor_29 : decode cX3_hasJobFor 29 = .ok (.ireturn, 1) := by decide +kernel
theorem dX3_takesIn_0 : decode cX3_takesIn 0 = .ok (.iconst 0, 1) := by decide +kernel
theorem dX3_takesIn_1 : decode cX3_takesIn 1 = .ok (.istore_n 3, 1) := by decide +kernel
theorem dX3_takesIn_2 : decode cX3_takesIn 2 = .ok (.iload_n 3, 1) := by decide +kernel
theorem dX3_takesIn_3 : decode cX3_takesIn 3 = .ok (.aload_n 0, 1) := by decide +kernel
theorem dX3_takesIn_4 : decode cX3_takesIn 4 = .ok (.getfield 18, 3) := by decide +kernel
theorem dX3_takesIn_7 : decode cX3_takesIn 7 = .ok (.if_icmp .ge 31, 3) := by decide +kernel
theorem dX3_takesIn_10 : decode cX3_takesIn 10 = .ok (.aload_n 0, 1) := by decide +kernel
theorem dX3_takesIn_11 : decode cX3_takesIn 11 = .ok (.getfield 9, 3) := by decide +kernel
theorem dX3_takesIn_14 : decode cX3_takesIn 14 = .ok (.iload_n 3, 1) := by decide +kernel
theorem dX3_takesIn_15 : decode cX3_takesIn 15 = .ok (.iaload, 1) := by decide +kernel
theorem dX3_takesIn_16 : decode cX3_takesIn 16 = .ok (.iload_n 1, 1) := by decide +kernel
theorem dX3_takesIn_17 : decode cX3_takesIn 17 = .ok (.if_icmp .ne 15, 3) := by decide +kernel
theorem dX3_takesIn_20 : decode cX3_takesIn 20 = .ok (.aload_n 0, 1) := by decide +kernel
theorem dX3_takesIn_21 : decode cX3_takesIn 21 = .ok (.getfield 15, 3) := by decide +kernel
theorem dX3_takesIn_24 : decode cX3_takesIn 24 = .ok (.iload_n 3, 1) := by decide +kernel
theorem dX3_takesIn_25 : decode cX3_takesIn 25 = .ok (.iaload, 1) := by decide +kernel
theorem dX3_takesIn_26 : decode cX3_takesIn 26 = .ok (.iload_n 2, 1) := by decide +kernel
theorem dX3_takesIn_27 : decode cX3_takesIn 27 = .ok (.if_icmp .ne 5, 3) := by decide +kernel
theorem dX3_takesIn_30 : decode cX3_takesIn 30 = .ok (.iconst 0, 1) := by decide +kernel
theorem dX3_takesIn_31 : decode cX3_takesIn 31 = .ok (.ireturn, 1) := by decide +kernel
theorem dX3_takesIn_32 : decode cX3_takesIn 32 = .ok (.iinc 3 1, 3) := by decide +kernel
theorem dX3_takesIn_35 : decode cX3_takesIn 35 = .ok (.goto (-33), 3) := by decide +kernel
theorem dX3_takesIn_38 : decode cX3_takesIn 38 = .ok (.aload_n 0, 1) := by decide +kernel
theorem dX3_takesIn_39 : decode cX3_takesIn 39 = .ok (.getfield 18, 3) := by decide +kernel
theorem dX3_takesIn_42 : decode cX3_takesIn 42 = .ok (.bipush 12, 2) := by decide +kernel
theorem dX3_takesIn_44 : decode cX3_takesIn 44 = .ok (.if_icmp .ge 7, 3) := by decide +kernel
theorem dX3_takesIn_47 : decode cX3_takesIn 47 = .ok (.iconst 1, 1) := by decide +kernel
theorem dX3_takesIn_48 : decode cX3_takesIn 48 = .ok (.goto 4, 3) := by decide +kernel
theorem dX3_takesIn_51 : decode cX3_takesIn 51 = .ok (.iconst 0, 1) := by decide +kernel
theorem dX3_takesIn_52 : decode cX3_takesIn 52 = .ok (.ireturn, 1) := by decide +kernel
theorem dX3_add_0 : decode cX3_add 0 = .ok (.aload_n 0, 1) := by decide +kernel
theorem dX3_add_1 : decode cX3_add 1 = .ok (.iload_n 1, 1) := by decide +kernel
theorem dX3_add_2 : decode cX3_add 2 = .ok (.iload_n 2, 1) := by decide +kernel
theorem dX3_add_3 : decode cX3_add 3 = .ok (.invokevirtual 34, 3) := by decide +kernel
theorem dX3_add_6 : decode cX3_add 6 = .ok (.ifCond .eq 33, 3) := by decide +kernel
theorem dX3_add_9 : decode cX3_add 9 = .ok (.aload_n 0, 1) := by decide +kernel
theorem dX3_add_10 : decode cX3_add 10 = .ok (.getfield 9, 3) := by decide +kernel
theorem dX3_add_13 : decode cX3_add 13 = .ok (.aload_n 0, 1) := by decide +kernel
theorem dX3_add_14 : decode cX3_add 14 = .ok (.getfield 18, 3) := by decide +kernel
theorem dX3_add_17 : decode cX3_add 17 = .ok (.iload_n 1, 1) := by decide +kernel
theorem dX3_add_18 : decode cX3_add 18 = .ok (.iastore, 1) := by decide +kernel
theorem dX3_add_19 : decode cX3_add 19 = .ok (.aload_n 0, 1) := by decide +kernel
theorem dX3_add_20 : decode cX3_add 20 = .ok (.getfield 15, 3) := by decide +kernel
theorem dX3_add_23 : decode cX3_add 23 = .ok (.aload_n 0, 1) := by decide +kernel
theorem dX3_add_24 : decode cX3_add 24 = .ok (.getfield 18, 3) := by decide +kernel
theorem dX3_add_27 : decode cX3_add 27 = .ok (.iload_n 2, 1) := by decide +kernel
theorem dX3_add_28 : decode cX3_add 28 = .ok (.iastore, 1) := by decide +kernel
theorem dX3_add_29 : decode cX3_add 29 = .ok (.aload_n 0, 1) := by decide +kernel
theorem dX3_add_30 : decode cX3_add 30 = .ok (.dup, 1) := by decide +kernel
theorem dX3_add_31 : decode cX3_add 31 = .ok (.getfield 18, 3) := by decide +kernel
theorem dX3_add_34 : decode cX3_add 34 = .ok (.iconst 1, 1) := by decide +kernel
theorem dX3_add_35 : decode cX3_add 35 = .ok (.iadd, 1) := by decide +kernel
theorem dX3_add_36 : decode cX3_add 36 = .ok (.putfield 18, 3) := by decide +kernel
theorem dX3_add_39 : decode cX3_add 39 = .ok (.return_, 1) := by decide +kernel
theorem dX3_remove_0 : decode cX3_remove 0 = .ok (.iload_n 1, 1) := by decide +kernel
theorem dX3_remove_1 : decode cX3_remove 1 = .ok (.ifCond .lt 11, 3) := by decide +kernel
theorem dX3_remove_4 : decode cX3_remove 4 = .ok (.iload_n 1, 1) := by decide +kernel
theorem dX3_remove_5 : decode cX3_remove 5 = .ok (.aload_n 0, 1) := by decide +kernel
theorem dX3_remove_6 : decode cX3_remove 6 = .ok (.getfield 18, 3) := by decide +kernel
theorem dX3_remove_9 : decode cX3_remove 9 = .ok (.if_icmp .lt 4, 3) := by decide +kernel
theorem dX3_remove_12 : decode cX3_remove 12 = .ok (.return_, 1) := by decide +kernel
theorem dX3_remove_13 : decode cX3_remove 13 = .ok (.aload_n 0, 1) := by decide +kernel
theorem dX3_remove_14 : decode cX3_remove 14 = .ok (.dup, 1) := by decide +kernel
theorem dX3_remove_15 : decode cX3_remove 15 = .ok (.getfield 18, 3) := by decide +kernel
theorem dX3_remove_18 : decode cX3_remove 18 = .ok (.iconst 1, 1) := by decide +kernel
theorem dX3_remove_19 : decode cX3_remove 19 = .ok (.isub, 1) := by decide +kernel
theorem dX3_remove_20 : decode cX3_remove 20 = .ok (.putfield 18, 3) := by decide +kernel
theorem dX3_remove_23 : decode cX3_remove 23 = .ok (.iload_n 1, 1) := by decide +kernel
theorem dX3_remove_24 : decode cX3_remove 24 = .ok (.istore_n 2, 1) := by decide +kernel
theorem dX3_remove_25 : decode cX3_remove 25 = .ok (.iload_n 2, 1) := by decide +kernel
theorem dX3_remove_26 : decode cX3_remove 26 = .ok (.aload_n 0, 1) := by decide +kernel
theorem dX3_remove_27 : decode cX3_remove 27 = .ok (.getfield 18, 3) := by decide +kernel
theorem dX3_remove_30 : decode cX3_remove 30 = .ok (.if_icmp .ge 37, 3) := by decide +kernel
theorem dX3_remove_33 : decode cX3_remove 33 = .ok (.aload_n 0, 1) := by decide +kernel
theorem dX3_remove_34 : decode cX3_remove 34 = .ok (.getfield 9, 3) := by decide +kernel
theorem dX3_remove_37 : decode cX3_remove 37 = .ok (.iload_n 2, 1) := by decide +kernel
theorem dX3_remove_38 : decode cX3_remove 38 = .ok (.aload_n 0, 1) := by decide +kernel
theorem dX3_remove_39 : decode cX3_remove 39 = .ok (.getfield 9, 3) := by decide +kernel
theorem dX3_remove_42 : decode cX3_remove 42 = .ok (.iload_n 2, 1) := by decide +kernel
theorem dX3_remove_43 : decode cX3_remove 43 = .ok (.iconst 1, 1) := by decide +kernel
theorem dX3_remove_44 : decode cX3_remove 44 = .ok (.iadd, 1) := by decide +kernel
theorem dX3_remove_45 : decode cX3_remove 45 = .ok (.iaload, 1) := by decide +kernel
theorem dX3_remove_46 : decode cX3_remove 46 = .ok (.iastore, 1) := by decide +kernel
theorem dX3_remove_47 : decode cX3_remove 47 = .ok (.aload_n 0, 1) := by decide +kernel
theorem dX3_remove_48 : decode cX3_remove 48 = .ok (.getfield 15, 3) := by decide +kernel
theorem dX3_remove_51 : decode cX3_remove 51 = .ok (.iload_n 2, 1) := by decide +kernel
theorem dX3_remove_52 : decode cX3_remove 52 = .ok (.aload_n 0, 1) := by decide +kernel
theorem dX3_remove_53 : decode cX3_remove 53 = .ok (.getfield 15, 3) := by decide +kernel
theorem dX3_remove_56 : decode cX3_remove 56 = .ok (.iload_n 2, 1) := by decide +kernel
theorem dX3_remove_57 : decode cX3_remove 57 = .ok (.iconst 1, 1) := by decide +kernel
theorem dX3_remove_58 : decode cX3_remove 58 = .ok (.iadd, 1) := by decide +kernel
theorem dX3_remove_59 : decode cX3_remove 59 = .ok (.iaload, 1) := by decide +kernel
theorem dX3_remove_60 : decode cX3_remove 60 = .ok (.iastore, 1) := by decide +kernel
theorem dX3_remove_61 : decode cX3_remove 61 = .ok (.iinc 2 1, 3) := by decide +kernel
theorem dX3_remove_64 : decode cX3_remove 64 = .ok (.goto (-39), 3) := by decide +kernel
theorem dX3_remove_67 : decode cX3_remove 67 = .ok (.iload_n 1, 1) := by decide +kernel
theorem dX3_remove_68 : decode cX3_remove 68 = .ok (.ifCond .ne 8, 3) := by decide +kernel
theorem dX3_remove_71 : decode cX3_remove 71 = .ok (.aload_n 0, 1) := by decide +kernel
theorem dX3_remove_72 : decode cX3_remove 72 = .ok (.iconst 0, 1) := by decide +kernel
theorem dX3_remove_73 : decode cX3_remove 73 = .ok (.putfield 22, 3) := by decide +kernel
theorem dX3_remove_76 : decode cX3_remove 76 = .ok (.return_, 1) := by decide +kernel
theorem dX4_init_0 : decode cX4_init 0 = .ok (.aload_n 0, 1) := by decide +kernel
theorem dX4_init_1 : decode cX4_init 1 = .ok (.invokespecial 3, 3) := by decide +kernel
theorem dX4_init_4 : decode cX4_init 4 = .ok (.aload_n 0, 1) := by decide +kernel
theorem dX4_init_5 : decode cX4_init 5 = .ok (.bipush 10, 2) := by decide +kernel
theorem dX4_init_7 : decode cX4_init 7 = .ok (.newarray .int, 2) := by decide +kernel
theorem dX4_init_9 : decode cX4_init 9 = .ok (.putfield 9, 3) := by decide +kernel
theorem dX4_init_12 : decode cX4_init 12 = .ok (.aload_n 0, 1) := by decide +kernel
theorem dX4_init_13 : decode cX4_init 13 = .ok (.bipush 10, 2) := by decide +kernel
theorem dX4_init_15 : decode cX4_init 15 = .ok (.newarray .int, 2) := by decide +kernel
theorem dX4_init_17 : decode cX4_init 17 = .ok (.putfield 15, 3) := by decide +kernel
theorem dX4_init_20 : decode cX4_init 20 = .ok (.aload_n 0, 1) := by decide +kernel
theorem dX4_init_21 : decode cX4_init 21 = .ok (.bipush 10, 2) := by decide +kernel
theorem dX4_init_23 : decode cX4_init 23 = .ok (.newarray .int, 2) := by decide +kernel
theorem dX4_init_25 : decode cX4_init 25 = .ok (.putfield 18, 3) := by decide +kernel
theorem dX4_init_28 : decode cX4_init 28 = .ok (.aload_n 0, 1) := by decide +kernel
theorem dX4_init_29 : decode cX4_init 29 = .ok (.bipush 10, 2) := by decide +kernel
theorem dX4_init_31 : decode cX4_init 31 = .ok (.newarray .int, 2) := by decide +kernel
theorem dX4_init_33 : decode cX4_init 33 = .ok (.putfield 21, 3) := by decide +kernel
theorem dX4_init_36 : decode cX4_init 36 = .ok (.aload_n 0, 1) := by decide +kernel
theorem dX4_init_37 : decode cX4_init 37 = .ok (.bipush 10, 2) := by decide +kernel
theorem dX4_init_39 : decode cX4_init 39 = .ok (.newarray .int, 2) := by decide +kernel
theorem dX4_init_41 : decode cX4_init 41 = .ok (.putfield 24, 3) := by decide +kernel
theorem dX4_init_44 : decode cX4_init 44 = .ok (.aload_n 0, 1) := by decide +kernel
theorem dX4_init_45 : decode cX4_init 45 = .ok (.bipush 10, 2) := by decide +kernel
theorem dX4_init_47 : decode cX4_init 47 = .ok (.newarray .int, 2) := by decide +kernel
theorem dX4_init_49 : decode cX4_init 49 = .ok (.putfield 27, 3) := by decide +kernel
theorem dX4_init_52 : decode cX4_init 52 = .ok (.aload_n 0, 1) := by decide +kernel
theorem dX4_init_53 : decode cX4_init 53 = .ok (.bipush 10, 2) := by decide +kernel
theorem dX4_init_55 : decode cX4_init 55 = .ok (.newarray .int, 2) := by decide +kernel
theorem dX4_init_57 : decode cX4_init 57 = .ok (.putfield 30, 3) := by decide +kernel
theorem dX4_init_60 : decode cX4_init 60 = .ok (.aload_n 0, 1) := by decide +kernel
theorem dX4_init_61 : decode cX4_init 61 = .ok (.bipush 60, 2) := by decide +kernel
theorem dX4_init_63 : decode cX4_init 63 = .ok (.putfield 33, 3) := by decide +kernel
theorem dX4_init_66 : decode cX4_init 66 = .ok (.aload_n 0, 1) := by decide +kernel
theorem dX4_init_67 : decode cX4_init 67 = .ok (.sipush 1000, 3) := by decide +kernel
theorem dX4_init_70 : decode cX4_init 70 = .ok (.putfield 37, 3) := by decide +kernel
theorem dX4_init_73 : decode cX4_init 73 = .ok (.aload_n 0, 1) := by decide +kernel
theorem dX4_init_74 : decode cX4_init 74 = .ok (.iconst (-1), 1) := by decide +kernel
theorem dX4_init_75 : decode cX4_init 75 = .ok (.putfield 40, 3) := by decide +kernel
theorem dX4_init_78 : decode cX4_init 78 = .ok (.return_, 1) := by decide +kernel
theorem dX4_begin_0 : decode cX4_begin 0 = .ok (.aload_n 0, 1) := by decide +kernel
theorem dX4_begin_1 : decode cX4_begin 1 = .ok (.aload_n 1, 1) := by decide +kernel
theorem dX4_begin_2 : decode cX4_begin 2 = .ok (.getfield 43, 3) := by decide +kernel
theorem dX4_begin_5 : decode cX4_begin 5 = .ok (.bipush 10, 2) := by decide +kernel
theorem dX4_begin_7 : decode cX4_begin 7 = .ok (.invokestatic 48, 3) := by decide +kernel
theorem dX4_begin_10 : decode cX4_begin 10 = .ok (.putfield 54, 3) := by decide +kernel
theorem dX4_begin_13 : decode cX4_begin 13 = .ok (.aload_n 0, 1) := by decide +kernel
theorem dX4_begin_14 : decode cX4_begin 14 = .ok (.aload_n 1, 1) := by decide +kernel
theorem dX4_begin_15 : decode cX4_begin 15 = .ok (.getfield 57, 3) := by decide +kernel
theorem dX4_begin_18 : decode cX4_begin 18 = .ok (.putfield 33, 3) := by decide +kernel
theorem dX4_begin_21 : decode cX4_begin 21 = .ok (.aload_n 0, 1) := by decide +kernel
theorem dX4_begin_22 : decode cX4_begin 22 = .ok (.aload_n 1, 1) := by decide +kernel
theorem dX4_begin_23 : decode cX4_begin 23 = .ok (.getfield 58, 3) := by decide +kernel
theorem dX4_begin_26 : decode cX4_begin 26 = .ok (.putfield 37, 3) := by decide +kernel
theorem dX4_begin_29 : decode cX4_begin 29 = .ok (.aload_n 0, 1) := by decide +kernel
theorem dX4_begin_30 : decode cX4_begin 30 = .ok (.iconst (-1), 1) := by decide +kernel
theorem dX4_begin_31 : decode cX4_begin 31 = .ok (.putfield 40, 3) := by decide +kernel
theorem dX4_begin_34 : decode cX4_begin 34 = .ok (.aload_n 0, 1) := by decide +kernel
theorem dX4_begin_35 : decode cX4_begin 35 = .ok (.iconst 0, 1) := by decide +kernel
theorem dX4_begin_36 : decode cX4_begin 36 = .ok (.putfield 59, 3) := by decide +kernel
theorem dX4_begin_39 : decode cX4_begin 39 = .ok (.iconst 0, 1) := by decide +kernel
theorem dX4_begin_40 : decode cX4_begin 40 = .ok (.istore_n 2, 1) := by decide +kernel
theorem dX4_begin_41 : decode cX4_begin 41 = .ok (.iload_n 2, 1) := by decide +kernel
theorem dX4_begin_42 : decode cX4_begin 42 = .ok (.aload_n 0, 1) := by decide +kernel
theorem dX4_begin_43 : decode cX4_begin 43 = .ok (.getfield 54, 3) := by decide +kernel
theorem dX4_begin_46 : decode cX4_begin 46 = .ok (.if_icmp .ge 48, 3) := by decide +kernel
theorem dX4_begin_49 : decode cX4_begin 49 = .ok (.aload_n 0, 1) := by decide +kernel
theorem dX4_begin_50 : decode cX4_begin 50 = .ok (.getfield 9, 3) := by decide +kernel
theorem dX4_begin_53 : decode cX4_begin 53 = .ok (.iload_n 2, 1) := by decide +kernel
theorem dX4_begin_54 : decode cX4_begin 54 = .ok (.aload_n 1, 1) := by decide +kernel
theorem dX4_begin_55 : decode cX4_begin 55 = .ok (.getfield 63, 3) := by decide +kernel
theorem dX4_begin_58 : decode cX4_begin 58 = .ok (.iload_n 2, 1) := by decide +kernel
theorem dX4_begin_59 : decode cX4_begin 59 = .ok (.iaload, 1) := by decide +kernel
theorem dX4_begin_60 : decode cX4_begin 60 = .ok (.iastore, 1) := by decide +kernel
theorem dX4_begin_61 : decode cX4_begin 61 = .ok (.aload_n 0, 1) := by decide +kernel
theorem dX4_begin_62 : decode cX4_begin 62 = .ok (.getfield 15, 3) := by decide +kernel
theorem dX4_begin_65 : decode cX4_begin 65 = .ok (.iload_n 2, 1) := by decide +kernel
theorem dX4_begin_66 : decode cX4_begin 66 = .ok (.bipush 100, 2) := by decide +kernel
theorem dX4_begin_68 : decode cX4_begin 68 = .ok (.iastore, 1) := by decide +kernel
theorem dX4_begin_69 : decode cX4_begin 69 = .ok (.aload_n 0, 1) := by decide +kernel
theorem dX4_begin_70 : decode cX4_begin 70 = .ok (.getfield 18, 3) := by decide +kernel
theorem dX4_begin_73 : decode cX4_begin 73 = .ok (.iload_n 2, 1) := by decide +kernel
theorem dX4_begin_74 : decode cX4_begin 74 = .ok (.aload_n 1, 1) := by decide +kernel
theorem dX4_begin_75 : decode cX4_begin 75 = .ok (.getfield 64, 3) := by decide +kernel
theorem dX4_begin_78 : decode cX4_begin 78 = .ok (.iload_n 2, 1) := by decide +kernel
theorem dX4_begin_79 : decode cX4_begin 79 = .ok (.iaload, 1) := by decide +kernel
theorem dX4_begin_80 : decode cX4_begin 80 = .ok (.iastore, 1) := by decide +kernel
theorem dX4_begin_81 : decode cX4_begin 81 = .ok (.aload_n 0, 1) := by decide +kernel
theorem dX4_begin_82 : decode cX4_begin 82 = .ok (.getfield 21, 3) := by decide +kernel
theorem dX4_begin_85 : decode cX4_begin 85 = .ok (.iload_n 2, 1) := by decide +kernel
theorem dX4_begin_86 : decode cX4_begin 86 = .ok (.iload_n 2, 1) := by decide +kernel
theorem dX4_begin_87 : decode cX4_begin 87 = .ok (.iastore, 1) := by decide +kernel
theorem dX4_begin_88 : decode cX4_begin 88 = .ok (.iinc 2 1, 3) := by decide +kernel
theorem dX4_begin_91 : decode cX4_begin 91 = .ok (.goto (-50), 3) := by decide +kernel
theorem dX4_begin_94 : decode cX4_begin 94 = .ok (.return_, 1) := by decide +kernel
theorem dX4_copy_0 : decode cX4_copy 0 = .ok (.aload_n 1, 1) := by decide +kernel
theorem dX4_copy_1 : decode cX4_copy 1 = .ok (.getfield 9, 3) := by decide +kernel
theorem dX4_copy_4 : decode cX4_copy 4 = .ok (.iconst 0, 1) := by decide +kernel
theorem dX4_copy_5 : decode cX4_copy 5 = .ok (.aload_n 0, 1) := by decide +kernel
theorem dX4_copy_6 : decode cX4_copy 6 = .ok (.getfield 9, 3) := by decide +kernel
theorem dX4_copy_9 : decode cX4_copy 9 = .ok (.iconst 0, 1) := by decide +kernel
theorem dX4_copy_10 : decode cX4_copy 10 = .ok (.bipush 10, 2) := by decide +kernel
theorem dX4_copy_12 : decode cX4_copy 12 = .ok (.invokestatic 65, 3) := by decide +kernel
theorem dX4_copy_15 : decode cX4_copy 15 = .ok (.aload_n 1, 1) := by decide +kernel
theorem dX4_copy_16 : decode cX4_copy 16 = .ok (.getfield 15, 3) := by decide +kernel
theorem dX4_copy_19 : decode cX4_copy 19 = .ok (.iconst 0, 1) := by decide +kernel
theorem dX4_copy_20 : decode cX4_copy 20 = .ok (.aload_n 0, 1) := by decide +kernel
theorem dX4_copy_21 : decode cX4_copy 21 = .ok (.getfield 15, 3) := by decide +kernel
theorem dX4_copy_24 : decode cX4_copy 24 = .ok (.iconst 0, 1) := by decide +kernel
theorem dX4_copy_25 : decode cX4_copy 25 = .ok (.bipush 10, 2) := by decide +kernel
theorem dX4_copy_27 : decode cX4_copy 27 = .ok (.invokestatic 65, 3) := by decide +kernel
theorem dX4_copy_30 : decode cX4_copy 30 = .ok (.aload_n 1, 1) := by decide +kernel
theorem dX4_copy_31 : decode cX4_copy 31 = .ok (.getfield 18, 3) := by decide +kernel
theorem dX4_copy_34 : decode cX4_copy 34 = .ok (.iconst 0, 1) := by decide +kernel
theorem dX4_copy_35 : decode cX4_copy 35 = .ok (.aload_n 0, 1) := by decide +kernel
theorem dX4_copy_36 : decode cX4_copy 36 = .ok (.getfield 18, 3) := by decide +kernel
theorem dX4_copy_39 : decode cX4_copy 39 = .ok (.iconst 0, 1) := by decide +kernel
theorem dX4_copy_40 : decode cX4_copy 40 = .ok (.bipush 10, 2) := by decide +kernel
theorem dX4_copy_42 : decode cX4_copy 42 = .ok (.invokestatic 65, 3) := by decide +kernel
theorem dX4_copy_45 : decode cX4_copy 45 = .ok (.aload_n 1, 1) := by decide +kernel
theorem dX4_copy_46 : decode cX4_copy 46 = .ok (.getfield 21, 3) := by decide +kernel
theorem dX4_copy_49 : decode cX4_copy 49 = .ok (.iconst 0, 1) := by decide +kernel
theorem dX4_copy_50 : decode cX4_copy 50 = .ok (.aload_n 0, 1) := by decide +kernel
theorem dX4_copy_51 : decode cX4_copy 51 = .ok (.getfield 21, 3) := by decide +kernel
theorem dX4_copy_54 : decode cX4_copy 54 = .ok (.iconst 0, 1) := by decide +kernel
theorem dX4_copy_55 : decode cX4_copy 55 = .ok (.bipush 10, 2) := by decide +kernel
theorem dX4_copy_57 : decode cX4_copy 57 = .ok (.invokestatic 65, 3) := by decide +kernel
theorem dX4_copy_60 : decode cX4_copy 60 = .ok (.aload_n 0, 1) := by decide +kernel
theorem dX4_copy_61 : decode cX4_copy 61 = .ok (.aload_n 1, 1) := by decide +kernel
theorem dX4_copy_62 : decode cX4_copy 62 = .ok (.getfield 54, 3) := by decide +kernel
theorem dX4_copy_65 : decode cX4_copy 65 = .ok (.putfield 54, 3) := by decide +kernel
theorem dX4_copy_68 : decode cX4_copy 68 = .ok (.aload_n 0, 1) := by decide +kernel
theorem dX4_copy_69 : decode cX4_copy 69 = .ok (.aload_n 1, 1) := by decide +kernel
theorem dX4_copy_70 : decode cX4_copy 70 = .ok (.getfield 33, 3) := by decide +kernel
theorem dX4_copy_73 : decode cX4_copy 73 = .ok (.putfield 33, 3) := by decide +kernel
theorem dX4_copy_76 : decode cX4_copy 76 = .ok (.aload_n 0, 1) := by decide +kernel
theorem dX4_copy_77 : decode cX4_copy 77 = .ok (.aload_n 1, 1) := by decide +kernel
theorem dX4_copy_78 : decode cX4_copy 78 = .ok (.getfield 37, 3) := by decide +kernel
theorem dX4_copy_81 : decode cX4_copy 81 = .ok (.putfield 37, 3) := by decide +kernel
theorem dX4_copy_84 : decode cX4_copy 84 = .ok (.aload_n 0, 1) := by decide +kernel
theorem dX4_copy_85 : decode cX4_copy 85 = .ok (.aload_n 1, 1) := by decide +kernel
theorem dX4_copy_86 : decode cX4_copy 86 = .ok (.getfield 40, 3) := by decide +kernel
theorem dX4_copy_89 : decode cX4_copy 89 = .ok (.putfield 40, 3) := by decide +kernel
theorem dX4_copy_92 : decode cX4_copy 92 = .ok (.aload_n 0, 1) := by decide +kernel
theorem dX4_copy_93 : decode cX4_copy 93 = .ok (.iconst 0, 1) := by decide +kernel
theorem dX4_copy_94 : decode cX4_copy 94 = .ok (.putfield 59, 3) := by decide +kernel
theorem dX4_copy_97 : decode cX4_copy 97 = .ok (.return_, 1) := by decide +kernel
theorem dX4_has_0 : decode cX4_has 0 = .ok (.iload_n 1, 1) := by decide +kernel
theorem dX4_has_1 : decode cX4_has 1 = .ok (.ifCond .lt 15, 3) := by decide +kernel
theorem dX4_has_4 : decode cX4_has 4 = .ok (.iload_n 1, 1) := by decide +kernel
theorem dX4_has_5 : decode cX4_has 5 = .ok (.aload_n 0, 1) := by decide +kernel
theorem dX4_has_6 : decode cX4_has 6 = .ok (.getfield 54, 3) := by decide +kernel
theorem dX4_has_9 : decode cX4_has 9 = .ok (.if_icmp .ge 7, 3) := by decide +kernel
theorem dX4_has_12 : decode cX4_has 12 = .ok (.iconst 1, 1) := by decide +kernel
theorem dX4_has_13 : decode cX4_has 13 = .ok (.goto 4, 3) := by decide +kernel
theorem dX4_has_16 : decode cX4_has 16 = .ok (.iconst 0, 1) := by decide +kernel
theorem dX4_has_17 : decode cX4_has 17 = .ok (.ireturn, 1) := by decide +kernel
theorem dX4_mirrorIn_0 : decode cX4_mirrorIn 0 = .ok (.iload_n 1, 1) := by decide +kernel
theorem dX4_mirrorIn_1 : decode cX4_mirrorIn 1 = .ok (.ifCond .lt 20, 3) := by decide +kernel
theorem dX4_mirrorIn_4 : decode cX4_mirrorIn 4 = .ok (.iload_n 1, 1) := by decide +kernel
theorem dX4_mirrorIn_5 : decode cX4_mirrorIn 5 = .ok (.aload_n 0, 1) := by decide +kernel
theorem dX4_mirrorIn_6 : decode cX4_mirrorIn 6 = .ok (.getfield 54, 3) := by decide +kernel
theorem dX4_mirrorIn_9 : decode cX4_mirrorIn 9 = .ok (.if_icmp .ge 12, 3) := by decide +kernel
theorem dX4_mirrorIn_12 : decode cX4_mirrorIn 12 = .ok (.aload_n 0, 1) := by decide +kernel
theorem dX4_mirrorIn_13 : decode cX4_mirrorIn 13 = .ok (.getfield 21, 3) := by decide +kernel
theorem dX4_mirrorIn_16 : decode cX4_mirrorIn 16 = .ok (.iload_n 1, 1) := by decide +kernel
theorem dX4_mirrorIn_17 : decode cX4_mirrorIn 17 = .ok (.iaload, 1) := by decide +kernel
theorem dX4_mirrorIn_18 : decode cX4_mirrorIn 18 = .ok (.goto 4, 3) := by decide +kernel
theorem dX4_mirrorIn_21 : decode cX4_mirrorIn 21 = .ok (.iconst (-1), 1) := by decide +kernel
theorem dX4_mirrorIn_22 : decode cX4_mirrorIn 22 = .ok (.ireturn, 1) := by decide +kernel
theorem dX4_findPlace_0 : decode cX4_findPlace 0 = .ok (.iconst 0, 1) := by decide +kernel
theorem dX4_findPlace_1 : decode cX4_findPlace 1 = .ok (.istore_n 2, 1) := by decide +kernel
theorem dX4_findPlace_2 : decode cX4_findPlace 2 = .ok (.iload_n 2, 1) := by decide +kernel
theorem dX4_findPlace_3 : decode cX4_findPlace 3 = .ok (.aload_n 0, 1) := by decide +kernel
theorem dX4_findPlace_4 : decode cX4_findPlace 4 = .ok (.getfield 54, 3) := by decide +kernel
theorem dX4_findPlace_7 : decode cX4_findPlace 7 = .ok (.if_icmp .ge 21, 3) := by decide +kernel
theorem dX4_findPlace_10 : decode cX4_findPlace 10 = .ok (.aload_n 0, 1) := by decide +kernel
theorem dX4_findPlace_11 : decode cX4_findPlace 11 = .ok (.getfield 21, 3) := by decide +kernel
theorem dX4_findPlace_14 : decode cX4_findPlace 14 = .ok (.iload_n 2, 1) := by decide +kernel
theorem dX4_findPlace_15 : decode cX4_findPlace 15 = .ok (.iaload, 1) := by decide +kernel
theorem dX4_findPlace_16 : decode cX4_findPlace 16 = .ok (.iload_n 1, 1) := by decide +kernel
theorem dX4_findPlace_17 : decode cX4_findPlace 17 = .ok (.if_icmp .ne 5, 3) := by decide +kernel
theorem dX4_findPlace_20 : decode cX4_findPlace 20 = .ok (.iload_n 2, 1) := by decide +kernel
theorem dX4_findPlace_21 : decode cX4_findPlace 21 = .ok (.ireturn, 1) := by decide +kernel
theorem dX4_findPlace_22 : decode cX4_findPlace 22 = .ok (.iinc 2 1, 3) := by decide +kernel
theorem dX4_findPlace_25 : decode cX4_findPlace 25 = .ok (.goto (-23), 3) := by decide +kernel
theorem dX4_findPlace_28 : decode cX4_findPlace 28 = .ok (.iconst (-1), 1) := by decide +kernel
theorem dX4_findPlace_29 : decode cX4_findPlace 29 = .ok (.ireturn, 1) := by decide +kernel
theorem dX4_valueOf_0 : decode cX4_valueOf 0 = .ok (.aload_n 0, 1) := by decide +kernel
theorem dX4_valueOf_1 : decode cX4_valueOf 1 = .ok (.iload_n 2, 1) := by decide +kernel
theorem dX4_valueOf_2 : decode cX4_valueOf 2 = .ok (.invokevirtual 71, 3) := by decide +kernel
theorem dX4_valueOf_5 : decode cX4_valueOf 5 = .ok (.ifCond .ne 5, 3) := by decide +kernel
theorem dX4_valueOf_8 : decode cX4_valueOf 8 = .ok (.iconst 0, 1) := by decide +kernel
theorem dX4_valueOf_9 : decode cX4_valueOf 9 = .ok (.ireturn, 1) := by decide +kernel
theorem dX4_valueOf_10 : decode cX4_valueOf 10 = .ok (.aload_n 0, 1) := by decide +kernel
theorem dX4_valueOf_11 : decode cX4_valueOf 11 = .ok (.invokevirtual 75, 3) := by decide +kernel
theorem dX4_valueOf_14 : decode cX4_valueOf 14 = .ok (.iload_n 1, 1) := by decide +kernel
theorem dX4_valueOf_15 : decode cX4_valueOf 15 = .ok (.tableswitch 123 129 145 #[81, 95, 123, 123, 123, 123, 123, 123, 123, 123, 123, 123, 102, 123, 109, 116, 88], 81) := by decide +kernel
theorem dX4_valueOf_96 : decode cX4_valueOf 96 = .ok (.aload_n 0, 1) := by decide +kernel
theorem dX4_valueOf_97 : decode cX4_valueOf 97 = .ok (.getfield 9, 3) := by decide +kernel
theorem dX4_valueOf_100 : decode cX4_valueOf 100 = .ok (.iload_n 2, 1) := by decide +kernel
theorem dX4_valueOf_101 : decode cX4_valueOf 101 = .ok (.iaload, 1) := by decide +kernel
theorem dX4_valueOf_102 : decode cX4_valueOf 102 = .ok (.ireturn, 1) := by decide +kernel
theorem dX4_valueOf_103 : decode cX4_valueOf 103 = .ok (.aload_n 0, 1) := by decide +kernel
theorem dX4_valueOf_104 : decode cX4_valueOf 104 = .ok (.getfield 15, 3) := by decide +kernel
theorem dX4_valueOf_107 : decode cX4_valueOf 107 = .ok (.iload_n 2, 1) := by decide +kernel
theorem dX4_valueOf_108 : decode cX4_valueOf 108 = .ok (.iaload, 1) := by decide +kernel
theorem dX4_valueOf_109 : decode cX4_valueOf 109 = .ok (.ireturn, 1) := by decide +kernel
theorem dX4_valueOf_110 : decode cX4_valueOf 110 = .ok (.aload_n 0, 1) := by decide +kernel
theorem dX4_valueOf_111 : decode cX4_valueOf 111 = .ok (.getfield 18, 3) := by decide +kernel
theorem dX4_valueOf_114 : decode cX4_valueOf 114 = .ok (.iload_n 2, 1) := by decide +kernel
theorem dX4_valueOf_115 : decode cX4_valueOf 115 = .ok (.iaload, 1) := by decide +kernel
theorem dX4_valueOf_116 : decode cX4_valueOf 116 = .ok (.ireturn, 1) := by decide +kernel
theorem dX4_valueOf_117 : decode cX4_valueOf 117 = .ok (.aload_n 0, 1) := by decide +kernel
theorem dX4_valueOf_118 : decode cX4_valueOf 118 = .ok (.getfield 24, 3) := by decide +kernel
theorem dX4_valueOf_121 : decode cX4_valueOf 121 = .ok (.iload_n 2, 1) := by decide +kernel
theorem dX4_valueOf_122 : decode cX4_valueOf 122 = .ok (.iaload, 1) := by decide +kernel
theorem dX4_valueOf_123 : decode cX4_valueOf 123 = .ok (.ireturn, 1) := by decide +kernel
theorem dX4_valueOf_124 : decode cX4_valueOf 124 = .ok (.aload_n 0, 1) := by decide +kernel
theorem dX4_valueOf_125 : decode cX4_valueOf 125 = .ok (.getfield 27, 3) := by decide +kernel
theorem dX4_valueOf_128 : decode cX4_valueOf 128 = .ok (.iload_n 2, 1) := by decide +kernel
theorem dX4_valueOf_129 : decode cX4_valueOf 129 = .ok (.iaload, 1) := by decide +kernel
theorem dX4_valueOf_130 : decode cX4_valueOf 130 = .ok (.ireturn, 1) := by decide +kernel
theorem dX4_valueOf_131 : decode cX4_valueOf 131 = .ok (.aload_n 0, 1) := by decide +kernel
theorem dX4_valueOf_132 : decode cX4_valueOf 132 = .ok (.getfield 30, 3) := by decide +kernel
theorem dX4_valueOf_135 : decode cX4_valueOf 135 = .ok (.iload_n 2, 1) := by decide +kernel
theorem dX4_valueOf_136 : decode cX4_valueOf 136 = .ok (.iaload, 1) := by decide +kernel
theorem dX4_valueOf_137 : decode cX4_valueOf 137 = .ok (.ireturn, 1) := by decide +kernel
theorem dX4_valueOf_138 : decode cX4_valueOf 138 = .ok (.iconst 0, 1) := by decide +kernel
theorem dX4_valueOf_139 : decode cX4_valueOf 139 = .ok (.ireturn, 1) := by decide +kernel
theorem dX4_lastLight_0 : decode cX4_lastLight 0 = .ok (.aload_n 0, 1) := by decide +kernel
theorem dX4_lastLight_1 : decode cX4_lastLight 1 = .ok (.invokevirtual 75, 3) := by decide +kernel
theorem dX4_lastLight_4 : decode cX4_lastLight 4 = .ok (.aload_n 0, 1) := by decide +kernel
theorem dX4_lastLight_5 : decode cX4_lastLight 5 = .ok (.getfield 78, 3) := by decide +kernel
theorem dX4_lastLight_8 : decode cX4_lastLight 8 = .ok (.ireturn, 1) := by decide +kernel
theorem dX4_lastTilt_0 : decode cX4_lastTilt 0 = .ok (.aload_n 0, 1) := by decide +kernel
theorem dX4_lastTilt_1 : decode cX4_lastTilt 1 = .ok (.invokevirtual 75, 3) := by decide +kernel
theorem dX4_lastTilt_4 : decode cX4_lastTilt 4 = .ok (.aload_n 0, 1) := by decide +kernel
theorem dX4_lastTilt_5 : decode cX4_lastTilt 5 = .ok (.getfield 81, 3) := by decide +kernel
theorem dX4_lastTilt_8 : decode cX4_lastTilt 8 = .ok (.ireturn, 1) := by decide +kernel
theorem dX4_showsLight_0 : decode cX4_showsLight 0 = .ok (.aload_n 0, 1) := by decide +kernel
theorem dX4_showsLight_1 : decode cX4_showsLight 1 = .ok (.invokevirtual 75, 3) := by decide +kernel
theorem dX4_showsLight_4 : decode cX4_showsLight 4 = .ok (.aload_n 0, 1) := by decide +kernel
theorem dX4_showsLight_5 : decode cX4_showsLight 5 = .ok (.getfield 78, 3) := by decide +kernel
theorem dX4_showsLight_8 : decode cX4_showsLight 8 = .ok (.aload_n 0, 1) := by decide +kernel
theorem dX4_showsLight_9 : decode cX4_showsLight 9 = .ok (.getfield 37, 3) := by decide +kernel
theorem dX4_showsLight_12 : decode cX4_showsLight 12 = .ok (.if_icmp .lt 18, 3) := by decide +kernel
theorem dX4_showsLight_15 : decode cX4_showsLight 15 = .ok (.aload_n 0, 1) := by decide +kernel
theorem dX4_showsLight_16 : decode cX4_showsLight 16 = .ok (.aload_n 0, 1) := by decide +kernel
theorem dX4_showsLight_17 : decode cX4_showsLight 17 = .ok (.getfield 81, 3) := by decide +kernel
theorem dX4_showsLight_20 : decode cX4_showsLight 20 = .ok (.invokevirtual 84, 3) := by decide +kernel
theorem dX4_showsLight_23 : decode cX4_showsLight 23 = .ok (.ifCond .eq 7, 3) := by decide +kernel
theorem dX4_showsLight_26 : decode cX4_showsLight 26 = .ok (.iconst 1, 1) := by decide +kernel
theorem dX4_showsLight_27 : decode cX4_showsLight 27 = .ok (.goto 4, 3) := by decide +kernel
theorem dX4_showsLight_30 : decode cX4_showsLight 30 = .ok (.iconst 0, 1) := by decide +kernel
theorem dX4_showsLight_31 : decode cX4_showsLight 31 = .ok (.ireturn, 1) := by decide +kernel
theorem dX4_mostLosing_0 : decode cX4_mostLosing 0 = .ok (.aload_n 0, 1) := by decide +kernel
theorem dX4_mostLosing_1 : decode cX4_mostLosing 1 = .ok (.invokevirtual 75, 3) := by decide +kernel
theorem dX4_mostLosing_4 : decode cX4_mostLosing 4 = .ok (.aload_n 0, 1) := by decide +kernel
theorem dX4_mostLosing_5 : decode cX4_mostLosing 5 = .ok (.iconst 0, 1) := by decide +kernel
theorem dX4_mostLosing_6 : decode cX4_mostLosing 6 = .ok (.invokevirtual 87, 3) := by decide +kernel
theorem dX4_mostLosing_9 : decode cX4_mostLosing 9 = .ok (.istore_n 1, 1) := by decide +kernel
theorem dX4_mostLosing_10 : decode cX4_mostLosing 10 = .ok (.iconst 1, 1) := by decide +kernel
theorem dX4_mostLosing_11 : decode cX4_mostLosing 11 = .ok (.istore_n 2, 1) := by decide +kernel
theorem dX4_mostLosing_12 : decode cX4_mostLosing 12 = .ok (.iload_n 2, 1) := by decide +kernel
theorem dX4_mostLosing_13 : decode cX4_mostLosing 13 = .ok (.aload_n 0, 1) := by decide +kernel
theorem dX4_mostLosing_14 : decode cX4_mostLosing 14 = .ok (.getfield 54, 3) := by decide +kernel
theorem dX4_mostLosing_17 : decode cX4_mostLosing 17 = .ok (.if_icmp .ge 48, 3) := by decide +kernel
theorem dX4_mostLosing_20 : decode cX4_mostLosing 20 = .ok (.aload_n 0, 1) := by decide +kernel
theorem dX4_mostLosing_21 : decode cX4_mostLosing 21 = .ok (.iload_n 2, 1) := by decide +kernel
theorem dX4_mostLosing_22 : decode cX4_mostLosing 22 = .ok (.invokevirtual 87, 3) := by decide +kernel
theorem dX4_mostLosing_25 : decode cX4_mostLosing 25 = .ok (.istore_n 3, 1) := by decide +kernel
theorem dX4_mostLosing_26 : decode cX4_mostLosing 26 = .ok (.aload_n 0, 1) := by decide +kernel
theorem dX4_mostLosing_27 : decode cX4_mostLosing 27 = .ok (.iload_n 3, 1) := by decide +kernel
theorem dX4_mostLosing_28 : decode cX4_mostLosing 28 = .ok (.invokevirtual 71, 3) := by decide +kernel
theorem dX4_mostLosing_31 : decode cX4_mostLosing 31 = .ok (.ifCond .eq 28, 3) := by decide +kernel
theorem dX4_mostLosing_34 : decode cX4_mostLosing 34 = .ok (.aload_n 0, 1) := by decide +kernel
theorem dX4_mostLosing_35 : decode cX4_mostLosing 35 = .ok (.iload_n 1, 1) := by decide +kernel
theorem dX4_mostLosing_36 : decode cX4_mostLosing 36 = .ok (.invokevirtual 71, 3) := by decide +kernel
theorem dX4_mostLosing_39 : decode cX4_mostLosing 39 = .ok (.ifCond .eq 20, 3) := by decide +kernel
theorem dX4_mostLosing_42 : decode cX4_mostLosing 42 = .ok (.aload_n 0, 1) := by decide +kernel
theorem dX4_mostLosing_43 : decode cX4_mostLosing 43 = .ok (.getfield 27, 3) := by decide +kernel
theorem dX4_mostLosing_46 : decode cX4_mostLosing 46 = .ok (.iload_n 3, 1) := by decide +kernel
theorem dX4_mostLosing_47 : decode cX4_mostLosing 47 = .ok (.iaload, 1) := by decide +kernel
theorem dX4_mostLosing_48 : decode cX4_mostLosing 48 = .ok (.aload_n 0, 1) := by decide +kernel
theorem dX4_mostLosing_49 : decode cX4_mostLosing 49 = .ok (.getfield 27, 3) := by decide +kernel
theorem dX4_mostLosing_52 : decode cX4_mostLosing 52 = .ok (.iload_n 1, 1) := by decide +kernel
theorem dX4_mostLosing_53 : decode cX4_mostLosing 53 = .ok (.iaload, 1) := by decide +kernel
theorem dX4_mostLosing_54 : decode cX4_mostLosing 54 = .ok (.if_icmp .le 5, 3) := by decide +kernel
theorem dX4_mostLosing_57 : decode cX4_mostLosing 57 = .ok (.iload_n 3, 1) := by decide +kernel
theorem dX4_mostLosing_58 : decode cX4_mostLosing 58 = .ok (.istore_n 1, 1) := by decide +kernel
theorem dX4_mostLosing_59 : decode cX4_mostLosing 59 = .ok (.iinc 2 1, 3) := by decide +kernel
theorem dX4_mostLosing_62 : decode cX4_mostLosing 62 = .ok (.goto (-50), 3) := by decide +kernel
theorem dX4_mostLosing_65 : decode cX4_mostLosing 65 = .ok (.iload_n 1, 1) := by decide +kernel
theorem dX4_mostLosing_66 : decode cX4_mostLosing 66 = .ok (.ireturn, 1) := by decide +kernel
theorem dX4_isWithinWidth_0 : decode cX4_isWithinWidth 0 = .ok (.iload_n 1, 1) := by decide +kernel
theorem dX4_isWithinWidth_1 : decode cX4_isWithinWidth 1 = .ok (.aload_n 0, 1) := by decide +kernel
theorem dX4_isWithinWidth_2 : decode cX4_isWithinWidth 2 = .ok (.getfield 33, 3) := by decide +kernel
theorem dX4_isWithinWidth_5 : decode cX4_isWithinWidth 5 = .ok (.if_icmp .gt 16, 3) := by decide +kernel
theorem dX4_isWithinWidth_8 : decode cX4_isWithinWidth 8 = .ok (.iload_n 1, 1) := by decide +kernel
theorem dX4_isWithinWidth_9 : decode cX4_isWithinWidth 9 = .ok (.aload_n 0, 1) := by decide +kernel
theorem dX4_isWithinWidth_10 : decode cX4_isWithinWidth 10 = .ok (.getfield 33, 3) := by decide +kernel
theorem dX4_isWithinWidth_13 : decode cX4_isWithinWidth 13 = .ok (.ineg, 1) := by decide +kernel
theorem dX4_isWithinWidth_14 : decode cX4_isWithinWidth 14 = .ok (.if_icmp .lt 7, 3) := by decide +kernel
theorem dX4_isWithinWidth_17 : decode cX4_isWithinWidth 17 = .ok (.iconst 1, 1) := by decide +kernel
theorem dX4_isWithinWidth_18 : decode cX4_isWithinWidth 18 = .ok (.goto 4, 3) := by decide +kernel
theorem dX4_isWithinWidth_21 : decode cX4_isWithinWidth 21 = .ok (.iconst 0, 1) := by decide +kernel
theorem dX4_isWithinWidth_22 : decode cX4_isWithinWidth 22 = .ok (.ireturn, 1) := by decide +kernel
theorem dX4_shine_0 : decode cX4_shine 0 = .ok (.aload_n 0, 1) := by decide +kernel
theorem dX4_shine_1 : decode cX4_shine 1 = .ok (.getfield 59, 3) := by decide +kernel
theorem dX4_shine_4 : decode cX4_shine 4 = .ok (.ifCond .eq 4, 3) := by decide +kernel
theorem dX4_shine_7 : decode cX4_shine 7 = .ok (.return_, 1) := by decide +kernel
theorem dX4_shine_8 : decode cX4_shine 8 = .ok (.sipush 10000, 3) := by decide +kernel
theorem dX4_shine_11 : decode cX4_shine 11 = .ok (.istore_n 1, 1) := by decide +kernel
theorem dX4_shine_12 : decode cX4_shine 12 = .ok (.iconst 0, 1) := by decide +kernel
theorem dX4_shine_13 : decode cX4_shine 13 = .ok (.istore_n 2, 1) := by decide +kernel
theorem dX4_shine_14 : decode cX4_shine 14 = .ok (.iconst 0, 1) := by decide +kernel
theorem dX4_shine_15 : decode cX4_shine 15 = .ok (.istore_n 3, 1) := by decide +kernel
theorem dX4_shine_16 : decode cX4_shine 16 = .ok (.iload_n 3, 1) := by decide +kernel
theorem dX4_shine_17 : decode cX4_shine 17 = .ok (.aload_n 0, 1) := by decide +kernel
theorem dX4_shine_18 : decode cX4_shine 18 = .ok (.getfield 54, 3) := by decide +kernel
theorem dX4_shine_21 : decode cX4_shine 21 = .ok (.if_icmp .ge 127, 3) := by decide +kernel
theorem dX4_shine_24 : decode cX4_shine 24 = .ok (.aload_n 0, 1) := by decide +kernel
theorem dX4_shine_25 : decode cX4_shine 25 = .ok (.iload_n 3, 1) := by decide +kernel
theorem dX4_shine_26 : decode cX4_shine 26 = .ok (.invokevirtual 87, 3) := by decide +kernel
theorem dX4_shine_29 : decode cX4_shine 29 = .ok (.istore 4, 2) := by decide +kernel
theorem dX4_shine_31 : decode cX4_shine 31 = .ok (.aload_n 0, 1) := by decide +kernel
theorem dX4_shine_32 : decode cX4_shine 32 = .ok (.iload 4, 2) := by decide +kernel
theorem dX4_shine_34 : decode cX4_shine 34 = .ok (.invokevirtual 71, 3) := by decide +kernel
theorem dX4_shine_37 : decode cX4_shine 37 = .ok (.ifCond .eq 105, 3) := by decide +kernel
theorem dX4_shine_40 : decode cX4_shine 40 = .ok (.iload 4, 2) := by decide +kernel
theorem dX4_shine_42 : decode cX4_shine 42 = .ok (.aload_n 0, 1) := by decide +kernel
theorem dX4_shine_43 : decode cX4_shine 43 = .ok (.getfield 40, 3) := by decide +kernel
theorem dX4_shine_46 : decode cX4_shine 46 = .ok (.if_icmp .eq 11, 3) := by decide +kernel
theorem dX4_shine_49 : decode cX4_shine 49 = .ok (.aload_n 0, 1) := by decide +kernel
theorem dX4_shine_50 : decode cX4_shine 50 = .ok (.iload_n 2, 1) := by decide +kernel
theorem dX4_shine_51 : decode cX4_shine 51 = .ok (.invokevirtual 84, 3) := by decide +kernel
theorem dX4_shine_54 : decode cX4_shine 54 = .ok (.ifCond .ne 7, 3) := by decide +kernel
theorem dX4_shine_57 : decode cX4_shine 57 = .ok (.iconst 1, 1) := by decide +kernel
theorem dX4_shine_58 : decode cX4_shine 58 = .ok (.goto 4, 3) := by decide +kernel
theorem dX4_shine_61 : decode cX4_shine 61 = .ok (.iconst 0, 1) := by decide +kernel
theorem dX4_shine_62 : decode cX4_shine 62 = .ok (.istore 5, 2) := by decide +kernel
theorem dX4_shine_64 : decode cX4_shine 64 = .ok (.aload_n 0, 1) := by decide +kernel
theorem dX4_shine_65 : decode cX4_shine 65 = .ok (.getfield 24, 3) := by decide +kernel
theorem dX4_shine_68 : decode cX4_shine 68 = .ok (.iload 4, 2) := by decide +kernel
theorem dX4_shine_70 : decode cX4_shine 70 = .ok (.iload 5, 2) := by decide +kernel
theorem dX4_shine_72 : decode cX4_shine 72 = .ok (.ifCond .eq 7, 3) := by decide +kernel
theorem dX4_shine_75 : decode cX4_shine 75 = .ok (.iconst 0, 1) := by decide +kernel
theorem dX4_shine_76 : decode cX4_shine 76 = .ok (.goto 15, 3) := by decide +kernel
theorem dX4_shine_79 : decode cX4_shine 79 = .ok (.iload_n 1, 1) := by decide +kernel
theorem dX4_shine_80 : decode cX4_shine 80 = .ok (.aload_n 0, 1) := by decide +kernel
theorem dX4_shine_81 : decode cX4_shine 81 = .ok (.getfield 9, 3) := by decide +kernel
theorem dX4_shine_84 : decode cX4_shine 84 = .ok (.iload 4, 2) := by decide +kernel
theorem dX4_shine_86 : decode cX4_shine 86 = .ok (.iaload, 1) := by decide +kernel
theorem dX4_shine_87 : decode cX4_shine 87 = .ok (.imul, 1) := by decide +kernel
theorem dX4_shine_88 : decode cX4_shine 88 = .ok (.bipush 100, 2) := by decide +kernel
theorem dX4_shine_90 : decode cX4_shine 90 = .ok (.idiv, 1) := by decide +kernel
theorem dX4_shine_91 : decode cX4_shine 91 = .ok (.iastore, 1) := by decide +kernel
theorem dX4_shine_92 : decode cX4_shine 92 = .ok (.aload_n 0, 1) := by decide +kernel
theorem dX4_shine_93 : decode cX4_shine 93 = .ok (.getfield 27, 3) := by decide +kernel
theorem dX4_shine_96 : decode cX4_shine 96 = .ok (.iload 4, 2) := by decide +kernel
theorem dX4_shine_98 : decode cX4_shine 98 = .ok (.iload_n 1, 1) := by decide +kernel
theorem dX4_shine_99 : decode cX4_shine 99 = .ok (.aload_n 0, 1) := by decide +kernel
theorem dX4_shine_100 : decode cX4_shine 100 = .ok (.getfield 24, 3) := by decide +kernel
theorem dX4_shine_103 : decode cX4_shine 103 = .ok (.iload 4, 2) := by decide +kernel
theorem dX4_shine_105 : decode cX4_shine 105 = .ok (.iaload, 1) := by decide +kernel
theorem dX4_shine_106 : decode cX4_shine 106 = .ok (.isub, 1) := by decide +kernel
theorem dX4_shine_107 : decode cX4_shine 107 = .ok (.iastore, 1) := by decide +kernel
theorem dX4_shine_108 : decode cX4_shine 108 = .ok (.aload_n 0, 1) := by decide +kernel
theorem dX4_shine_109 : decode cX4_shine 109 = .ok (.getfield 30, 3) := by decide +kernel
theorem dX4_shine_112 : decode cX4_shine 112 = .ok (.iload 4, 2) := by decide +kernel
theorem dX4_shine_114 : decode cX4_shine 114 = .ok (.iload_n 2, 1) := by decide +kernel
theorem dX4_shine_115 : decode cX4_shine 115 = .ok (.iconst 2, 1) := by decide +kernel
theorem dX4_shine_116 : decode cX4_shine 116 = .ok (.aload_n 0, 1) := by decide +kernel
theorem dX4_shine_117 : decode cX4_shine 117 = .ok (.getfield 18, 3) := by decide +kernel
theorem dX4_shine_120 : decode cX4_shine 120 = .ok (.iload 4, 2) := by decide +kernel
theorem dX4_shine_122 : decode cX4_shine 122 = .ok (.iaload, 1) := by decide +kernel
theorem dX4_shine_123 : decode cX4_shine 123 = .ok (.imul, 1) := by decide +kernel
theorem dX4_shine_124 : decode cX4_shine 124 = .ok (.iadd, 1) := by decide +kernel
theorem dX4_shine_125 : decode cX4_shine 125 = .ok (.iastore, 1) := by decide +kernel
theorem dX4_shine_126 : decode cX4_shine 126 = .ok (.aload_n 0, 1) := by decide +kernel
theorem dX4_shine_127 : decode cX4_shine 127 = .ok (.getfield 24, 3) := by decide +kernel
theorem dX4_shine_130 : decode cX4_shine 130 = .ok (.iload 4, 2) := by decide +kernel
theorem dX4_shine_132 : decode cX4_shine 132 = .ok (.iaload, 1) := by decide +kernel
theorem dX4_shine_133 : decode cX4_shine 133 = .ok (.istore_n 1, 1) := by decide +kernel
theorem dX4_shine_134 : decode cX4_shine 134 = .ok (.aload_n 0, 1) := by decide +kernel
theorem dX4_shine_135 : decode cX4_shine 135 = .ok (.getfield 30, 3) := by decide +kernel
theorem dX4_shine_138 : decode cX4_shine 138 = .ok (.iload 4, 2) := by decide +kernel
theorem dX4_shine_140 : decode cX4_shine 140 = .ok (.iaload, 1) := by decide +kernel
theorem dX4_shine_141 : decode cX4_shine 141 = .ok (.istore_n 2, 1) := by decide +kernel
theorem dX4_shine_142 : decode cX4_shine 142 = .ok (.iinc 3 1, 3) := by decide +kernel
theorem dX4_shine_145 : decode cX4_shine 145 = .ok (.goto (-129), 3) := by decide +kernel
theorem dX4_shine_148 : decode cX4_shine 148 = .ok (.aload_n 0, 1) := by decide +kernel
theorem dX4_shine_149 : decode cX4_shine 149 = .ok (.iload_n 1, 1) := by decide +kernel
theorem dX4_shine_150 : decode cX4_shine 150 = .ok (.putfield 78, 3) := by decide +kernel
theorem dX4_shine_153 : decode cX4_shine 153 = .ok (.aload_n 0, 1) := by decide +kernel
theorem dX4_shine_154 : decode cX4_shine 154 = .ok (.iload_n 2, 1) := by decide +kernel
theorem dX4_shine_155 : decode cX4_shine 155 = .ok (.putfield 81, 3) := by decide +kernel
theorem dX4_shine_158 : decode cX4_shine 158 = .ok (.aload_n 0, 1) := by decide +kernel
theorem dX4_shine_159 : decode cX4_shine 159 = .ok (.iconst 1, 1) := by decide +kernel
theorem dX4_shine_160 : decode cX4_shine 160 = .ok (.putfield 59, 3) := by decide +kernel
theorem dX4_shine_163 : decode cX4_shine 163 = .ok (.return_, 1) := by decide +kernel
theorem dX4_cover_0 : decode cX4_cover 0 = .ok (.aload_n 0, 1) := by decide +kernel
theorem dX4_cover_1 : decode cX4_cover 1 = .ok (.iload_n 1, 1) := by decide +kernel
theorem dX4_cover_2 : decode cX4_cover 2 = .ok (.putfield 40, 3) := by decide +kernel
theorem dX4_cover_5 : decode cX4_cover 5 = .ok (.aload_n 0, 1) := by decide +kernel
theorem dX4_cover_6 : decode cX4_cover 6 = .ok (.iconst 0, 1) := by decide +kernel
theorem dX4_cover_7 : decode cX4_cover 7 = .ok (.putfield 59, 3) := by decide +kernel
theorem dX4_cover_10 : decode cX4_cover 10 = .ok (.return_, 1) := by decide +kernel
theorem dX4_turn_0 : decode cX4_turn 0 = .ok (.aload_n 0, 1) := by decide +kernel
theorem dX4_turn_1 : decode cX4_turn 1 = .ok (.iload_n 1, 1) := by decide +kernel
theorem dX4_turn_2 : decode cX4_turn 2 = .ok (.invokevirtual 71, 3) := by decide +kernel
theorem dX4_turn_5 : decode cX4_turn 5 = .ok (.ifCond .eq 15, 3) := by decide +kernel
theorem dX4_turn_8 : decode cX4_turn 8 = .ok (.aload_n 0, 1) := by decide +kernel
theorem dX4_turn_9 : decode cX4_turn 9 = .ok (.getfield 18, 3) := by decide +kernel
theorem dX4_turn_12 : decode cX4_turn 12 = .ok (.iload_n 1, 1) := by decide +kernel
theorem dX4_turn_13 : decode cX4_turn 13 = .ok (.iload_n 2, 1) := by decide +kernel
theorem dX4_turn_14 : decode cX4_turn 14 = .ok (.iastore, 1) := by decide +kernel
theorem dX4_turn_15 : decode cX4_turn 15 = .ok (.aload_n 0, 1) := by decide +kernel
theorem dX4_turn_16 : decode cX4_turn 16 = .ok (.iconst 0, 1) := by decide +kernel
theorem dX4_turn_17 : decode cX4_turn 17 = .ok (.putfield 59, 3) := by decide +kernel
theorem dX4_turn_20 : decode cX4_turn 20 = .ok (.return_, 1) := by decide +kernel
theorem dX4_shake_0 : decode cX4_shake 0 = .ok (.aload_n 0, 1) := by decide +kernel
theorem dX4_shake_1 : decode cX4_shake 1 = .ok (.iload_n 1, 1) := by decide +kernel
theorem dX4_shake_2 : decode cX4_shake 2 = .ok (.invokevirtual 71, 3) := by decide +kernel
theorem dX4_shake_5 : decode cX4_shake 5 = .ok (.ifCond .eq 25, 3) := by decide +kernel
theorem dX4_shake_8 : decode cX4_shake 8 = .ok (.aload_n 0, 1) := by decide +kernel
theorem dX4_shake_9 : decode cX4_shake 9 = .ok (.iload_n 1, 1) := by decide +kernel
theorem dX4_shake_10 : decode cX4_shake 10 = .ok (.aload_n 0, 1) := by decide +kernel
theorem dX4_shake_11 : decode cX4_shake 11 = .ok (.getfield 18, 3) := by decide +kernel
theorem dX4_shake_14 : decode cX4_shake 14 = .ok (.iload_n 1, 1) := by decide +kernel
theorem dX4_shake_15 : decode cX4_shake 15 = .ok (.iaload, 1) := by decide +kernel
theorem dX4_shake_16 : decode cX4_shake 16 = .ok (.i2l, 1) := by decide +kernel
theorem dX4_shake_17 : decode cX4_shake 17 = .ok (.iload_n 2, 1) := by decide +kernel
theorem dX4_shake_18 : decode cX4_shake 18 = .ok (.i2l, 1) := by decide +kernel
theorem dX4_shake_19 : decode cX4_shake 19 = .ok (.ladd, 1) := by decide +kernel
theorem dX4_shake_20 : decode cX4_shake 20 = .ok (.bipush (-90), 2) := by decide +kernel
theorem dX4_shake_22 : decode cX4_shake 22 = .ok (.bipush 90, 2) := by decide +kernel
theorem dX4_shake_24 : decode cX4_shake 24 = .ok (.invokestatic 91, 3) := by decide +kernel
theorem dX4_shake_27 : decode cX4_shake 27 = .ok (.invokevirtual 95, 3) := by decide +kernel
theorem dX4_shake_30 : decode cX4_shake 30 = .ok (.return_, 1) := by decide +kernel
theorem dX4_dim_0 : decode cX4_dim 0 = .ok (.aload_n 0, 1) := by decide +kernel
theorem dX4_dim_1 : decode cX4_dim 1 = .ok (.iload_n 1, 1) := by decide +kernel
theorem dX4_dim_2 : decode cX4_dim 2 = .ok (.invokevirtual 71, 3) := by decide +kernel
theorem dX4_dim_5 : decode cX4_dim 5 = .ok (.ifCond .eq 29, 3) := by decide +kernel
theorem dX4_dim_8 : decode cX4_dim 8 = .ok (.aload_n 0, 1) := by decide +kernel
theorem dX4_dim_9 : decode cX4_dim 9 = .ok (.getfield 9, 3) := by decide +kernel
theorem dX4_dim_12 : decode cX4_dim 12 = .ok (.iload_n 1, 1) := by decide +kernel
theorem dX4_dim_13 : decode cX4_dim 13 = .ok (.aload_n 0, 1) := by decide +kernel
theorem dX4_dim_14 : decode cX4_dim 14 = .ok (.getfield 9, 3) := by decide +kernel
theorem dX4_dim_17 : decode cX4_dim 17 = .ok (.iload_n 1, 1) := by decide +kernel
theorem dX4_dim_18 : decode cX4_dim 18 = .ok (.iaload, 1) := by decide +kernel
theorem dX4_dim_19 : decode cX4_dim 19 = .ok (.i2l, 1) := by decide +kernel
theorem dX4_dim_20 : decode cX4_dim 20 = .ok (.iload_n 2, 1) := by decide +kernel
theorem dX4_dim_21 : decode cX4_dim 21 = .ok (.i2l, 1) := by decide +kernel
theorem dX4_dim_22 : decode cX4_dim 22 = .ok (.lsub, 1) := by decide +kernel
theorem dX4_dim_23 : decode cX4_dim 23 = .ok (.iconst 0, 1) := by decide +kernel
theorem dX4_dim_24 : decode cX4_dim 24 = .ok (.iload_n 3, 1) := by decide +kernel
theorem dX4_dim_25 : decode cX4_dim 25 = .ok (.invokestatic 91, 3) := by decide +kernel
theorem dX4_dim_28 : decode cX4_dim 28 = .ok (.iastore, 1) := by decide +kernel
theorem dX4_dim_29 : decode cX4_dim 29 = .ok (.aload_n 0, 1) := by decide +kernel
theorem dX4_dim_30 : decode cX4_dim 30 = .ok (.iconst 0, 1) := by decide +kernel
theorem dX4_dim_31 : decode cX4_dim 31 = .ok (.putfield 59, 3) := by decide +kernel
theorem dX4_dim_34 : decode cX4_dim 34 = .ok (.return_, 1) := by decide +kernel
theorem dX4_dust_0 : decode cX4_dust 0 = .ok (.aload_n 0, 1) := by decide +kernel
theorem dX4_dust_1 : decode cX4_dust 1 = .ok (.iload_n 1, 1) := by decide +kernel
theorem dX4_dust_2 : decode cX4_dust 2 = .ok (.invokevirtual 71, 3) := by decide +kernel
theorem dX4_dust_5 : decode cX4_dust 5 = .ok (.ifCond .eq 15, 3) := by decide +kernel
theorem dX4_dust_8 : decode cX4_dust 8 = .ok (.aload_n 0, 1) := by decide +kernel
theorem dX4_dust_9 : decode cX4_dust 9 = .ok (.iload_n 1, 1) := by decide +kernel
theorem dX4_dust_10 : decode cX4_dust 10 = .ok (.iload_n 2, 1) := by decide +kernel
theorem dX4_dust_11 : decode cX4_dust 11 = .ok (.aload_n 0, 1) := by decide +kernel
theorem dX4_dust_12 : decode cX4_dust 12 = .ok (.getfield 15, 3) := by decide +kernel
theorem dX4_dust_15 : decode cX4_dust 15 = .ok (.iload_n 1, 1) := by decide +kernel
theorem dX4_dust_16 : decode cX4_dust 16 = .ok (.iaload, 1) := by decide +kernel
theorem dX4_dust_17 : decode cX4_dust 17 = .ok (.invokevirtual 99, 3) := by decide +kernel
theorem dX4_dust_20 : decode cX4_dust 20 = .ok (.return_, 1) := by decide +kernel
theorem dX4_clean_0 : decode cX4_clean 0 = .ok (.aload_n 0, 1) := by decide +kernel
theorem dX4_clean_1 : decode cX4_clean 1 = .ok (.iload_n 1, 1) := by decide +kernel
theorem dX4_clean_2 : decode cX4_clean 2 = .ok (.invokevirtual 71, 3) := by decide +kernel
theorem dX4_clean_5 : decode cX4_clean 5 = .ok (.ifCond .eq 47, 3) := by decide +kernel
theorem dX4_clean_8 : decode cX4_clean 8 = .ok (.aload_n 0, 1) := by decide +kernel
theorem dX4_clean_9 : decode cX4_clean 9 = .ok (.getfield 9, 3) := by decide +kernel
theorem dX4_clean_12 : decode cX4_clean 12 = .ok (.iload_n 1, 1) := by decide +kernel
theorem dX4_clean_13 : decode cX4_clean 13 = .ok (.aload_n 0, 1) := by decide +kernel
theorem dX4_clean_14 : decode cX4_clean 14 = .ok (.getfield 9, 3) := by decide +kernel
theorem dX4_clean_17 : decode cX4_clean 17 = .ok (.iload_n 1, 1) := by decide +kernel
theorem dX4_clean_18 : decode cX4_clean 18 = .ok (.iaload, 1) := by decide +kernel
theorem dX4_clean_19 : decode cX4_clean 19 = .ok (.aload_n 0, 1) := by decide +kernel
theorem dX4_clean_20 : decode cX4_clean 20 = .ok (.getfield 15, 3) := by decide +kernel
theorem dX4_clean_23 : decode cX4_clean 23 = .ok (.iload_n 1, 1) := by decide +kernel
theorem dX4_clean_24 : decode cX4_clean 24 = .ok (.iaload, 1) := by decide +kernel
theorem dX4_clean_25 : decode cX4_clean 25 = .ok (.invokestatic 103, 3) := by decide +kernel
theorem dX4_clean_28 : decode cX4_clean 28 = .ok (.iastore, 1) := by decide +kernel
theorem dX4_clean_29 : decode cX4_clean 29 = .ok (.aload_n 0, 1) := by decide +kernel
theorem dX4_clean_30 : decode cX4_clean 30 = .ok (.getfield 15, 3) := by decide +kernel
theorem dX4_clean_33 : decode cX4_clean 33 = .ok (.iload_n 1, 1) := by decide +kernel
theorem dX4_clean_34 : decode cX4_clean 34 = .ok (.iconst 0, 1) := by decide +kernel
theorem dX4_clean_35 : decode cX4_clean 35 = .ok (.aload_n 0, 1) := by decide +kernel
theorem dX4_clean_36 : decode cX4_clean 36 = .ok (.getfield 15, 3) := by decide +kernel
theorem dX4_clean_39 : decode cX4_clean 39 = .ok (.iload_n 1, 1) := by decide +kernel
theorem dX4_clean_40 : decode cX4_clean 40 = .ok (.iaload, 1) := by decide +kernel
theorem dX4_clean_41 : decode cX4_clean 41 = .ok (.iconst 1, 1) := by decide +kernel
theorem dX4_clean_42 : decode cX4_clean 42 = .ok (.isub, 1) := by decide +kernel
theorem dX4_clean_43 : decode cX4_clean 43 = .ok (.invokestatic 103, 3) := by decide +kernel
theorem dX4_clean_46 : decode cX4_clean 46 = .ok (.iastore, 1) := by decide +kernel
theorem dX4_clean_47 : decode cX4_clean 47 = .ok (.aload_n 0, 1) := by decide +kernel
theorem dX4_clean_48 : decode cX4_clean 48 = .ok (.iconst 0, 1) := by decide +kernel
theorem dX4_clean_49 : decode cX4_clean 49 = .ok (.putfield 59, 3) := by decide +kernel
theorem dX4_clean_52 : decode cX4_clean 52 = .ok (.return_, 1) := by decide +kernel
theorem dX4_replace_0 : decode cX4_replace 0 = .ok (.aload_n 0, 1) := by decide +kernel
theorem dX4_replace_1 : decode cX4_replace 1 = .ok (.iload_n 1, 1) := by decide +kernel
theorem dX4_replace_2 : decode cX4_replace 2 = .ok (.invokevirtual 71, 3) := by decide +kernel
theorem dX4_replace_5 : decode cX4_replace 5 = .ok (.ifCond .eq 25, 3) := by decide +kernel
theorem dX4_replace_8 : decode cX4_replace 8 = .ok (.aload_n 0, 1) := by decide +kernel
theorem dX4_replace_9 : decode cX4_replace 9 = .ok (.getfield 9, 3) := by decide +kernel
theorem dX4_replace_12 : decode cX4_replace 12 = .ok (.iload_n 1, 1) := by decide +kernel
theorem dX4_replace_13 : decode cX4_replace 13 = .ok (.bipush 100, 2) := by decide +kernel
theorem dX4_replace_15 : decode cX4_replace 15 = .ok (.iastore, 1) := by decide +kernel
theorem dX4_replace_16 : decode cX4_replace 16 = .ok (.aload_n 0, 1) := by decide +kernel
theorem dX4_replace_17 : decode cX4_replace 17 = .ok (.getfield 15, 3) := by decide +kernel
theorem dX4_replace_20 : decode cX4_replace 20 = .ok (.iload_n 1, 1) := by decide +kernel
theorem dX4_replace_21 : decode cX4_replace 21 = .ok (.bipush 100, 2) := by decide +kernel
theorem dX4_replace_23 : decode cX4_replace 23 = .ok (.iastore, 1) := by decide +kernel
theorem dX4_replace_24 : decode cX4_replace 24 = .ok (.aload_n 0, 1) := by decide +kernel
theorem dX4_replace_25 : decode cX4_replace 25 = .ok (.iload_n 1, 1) := by decide +kernel
theorem dX4_replace_26 : decode cX4_replace 26 = .ok (.iconst 0, 1) := by decide +kernel
theorem dX4_replace_27 : decode cX4_replace 27 = .ok (.invokevirtual 95, 3) := by decide +kernel
theorem dX4_replace_30 : decode cX4_replace 30 = .ok (.return_, 1) := by decide +kernel
theorem dX4_move_0 : decode cX4_move 0 = .ok (.aload_n 0, 1) := by decide +kernel
theorem dX4_move_1 : decode cX4_move 1 = .ok (.iload_n 1, 1) := by decide +kernel
theorem dX4_move_2 : decode cX4_move 2 = .ok (.invokevirtual 106, 3) := by decide +kernel
theorem dX4_move_5 : decode cX4_move 5 = .ok (.istore_n 3, 1) := by decide +kernel
theorem dX4_move_6 : decode cX4_move 6 = .ok (.iload_n 3, 1) := by decide +kernel
theorem dX4_move_7 : decode cX4_move 7 = .ok (.ifCond .lt 15, 3) := by decide +kernel
theorem dX4_move_10 : decode cX4_move 10 = .ok (.iload_n 2, 1) := by decide +kernel
theorem dX4_move_11 : decode cX4_move 11 = .ok (.ifCond .lt 11, 3) := by decide +kernel
theorem dX4_move_14 : decode cX4_move 14 = .ok (.iload_n 2, 1) := by decide +kernel
theorem dX4_move_15 : decode cX4_move 15 = .ok (.aload_n 0, 1) := by decide +kernel
theorem dX4_move_16 : decode cX4_move 16 = .ok (.getfield 54, 3) := by decide +kernel
theorem dX4_move_19 : decode cX4_move 19 = .ok (.if_icmp .lt 4, 3) := by decide +kernel
theorem dX4_move_22 : decode cX4_move 22 = .ok (.return_, 1) := by decide +kernel
theorem dX4_move_23 : decode cX4_move 23 = .ok (.iload_n 3, 1) := by decide +kernel
theorem dX4_move_24 : decode cX4_move 24 = .ok (.istore 4, 2) := by decide +kernel
theorem dX4_move_26 : decode cX4_move 26 = .ok (.iload 4, 2) := by decide +kernel
theorem dX4_move_28 : decode cX4_move 28 = .ok (.iload_n 2, 1) := by decide +kernel
theorem dX4_move_29 : decode cX4_move 29 = .ok (.if_icmp .ge 25, 3) := by decide +kernel
theorem dX4_move_32 : decode cX4_move 32 = .ok (.aload_n 0, 1) := by decide +kernel
theorem dX4_move_33 : decode cX4_move 33 = .ok (.getfield 21, 3) := by decide +kernel
theorem dX4_move_36 : decode cX4_move 36 = .ok (.iload 4, 2) := by decide +kernel
theorem dX4_move_38 : decode cX4_move 38 = .ok (.aload_n 0, 1) := by decide +kernel
theorem dX4_move_39 : decode cX4_move 39 = .ok (.getfield 21, 3) := by decide +kernel
theorem dX4_move_42 : decode cX4_move 42 = .ok (.iload 4, 2) := by decide +kernel
theorem dX4_move_44 : decode cX4_move 44 = .ok (.iconst 1, 1) := by decide +kernel
theorem dX4_move_45 : decode cX4_move 45 = .ok (.iadd, 1) := by decide +kernel
theorem dX4_move_46 : decode cX4_move 46 = .ok (.iaload, 1) := by decide +kernel
theorem dX4_move_47 : decode cX4_move 47 = .ok (.iastore, 1) := by decide +kernel
theorem dX4_move_48 : decode cX4_move 48 = .ok (.iinc 4 1, 3) := by decide +kernel
theorem dX4_move_51 : decode cX4_move 51 = .ok (.goto (-25), 3) := by decide +kernel
theorem dX4_move_54 : decode cX4_move 54 = .ok (.iload_n 3, 1) := by decide +kernel
theorem dX4_move_55 : decode cX4_move 55 = .ok (.istore 4, 2) := by decide +kernel
theorem dX4_move_57 : decode cX4_move 57 = .ok (.iload 4, 2) := by decide +kernel
theorem dX4_move_59 : decode cX4_move 59 = .ok (.iload_n 2, 1) := by decide +kernel
theorem dX4_move_60 : decode cX4_move 60 = .ok (.if_icmp .le 25, 3) := by decide +kernel
theorem dX4_move_63 : decode cX4_move 63 = .ok (.aload_n 0, 1) := by decide +kernel
theorem dX4_move_64 : decode cX4_move 64 = .ok (.getfield 21, 3) := by decide +kernel
theorem dX4_move_67 : decode cX4_move 67 = .ok (.iload 4, 2) := by decide +kernel
theorem dX4_move_69 : decode cX4_move 69 = .ok (.aload_n 0, 1) := by decide +kernel
theorem dX4_move_70 : decode cX4_move 70 = .ok (.getfield 21, 3) := by decide +kernel
theorem dX4_move_73 : decode cX4_move 73 = .ok (.iload 4, 2) := by decide +kernel
theorem dX4_move_75 : decode cX4_move 75 = .ok (.iconst 1, 1) := by decide +kernel
theorem dX4_move_76 : decode cX4_move 76 = .ok (.isub, 1) := by decide +kernel
theorem dX4_move_77 : decode cX4_move 77 = .ok (.iaload, 1) := by decide +kernel
theorem dX4_move_78 : decode cX4_move 78 = .ok (.iastore, 1) := by decide +kernel
theorem dX4_move_79 : decode cX4_move 79 = .ok (.iinc 4 (-1), 3) := by decide +kernel
theorem dX4_move_82 : decode cX4_move 82 = .ok (.goto (-25), 3) := by decide +kernel
theorem dX4_move_85 : decode cX4_move 85 = .ok (.aload_n 0, 1) := by decide +kernel
theorem dX4_move_86 : decode cX4_move 86 = .ok (.getfield 21, 3) := by decide +kernel
theorem dX4_move_89 : decode cX4_move 89 = .ok (.iload_n 2, 1) := by decide +kernel
theorem dX4_move_90 : decode cX4_move 90 = .ok (.iload_n 1, 1) := by decide +kernel
theorem dX4_move_91 : decode cX4_move 91 = .ok (.iastore, 1) := by decide +kernel
theorem dX4_move_92 : decode cX4_move 92 = .ok (.aload_n 0, 1) := by decide +kernel
theorem dX4_move_93 : decode cX4_move 93 = .ok (.iconst 0, 1) := by decide +kernel
theorem dX4_move_94 : decode cX4_move 94 = .ok (.putfield 59, 3) := by decide +kernel
theorem dX4_move_97 : decode cX4_move 97 = .ok (.return_, 1) := by decide +kernel
end
section
theorem dX5_init_0 : decode cX5_init 0 = .ok (.aload_n 0, 1) := by decide +kernel
theorem dX5_init_1 : decode cX5_init 1 = .ok (.invokespecial 3, 3) := by decide +kernel
theorem dX5_init_4 : decode cX5_init 4 = .ok (.aload_n 0, 1) := by decide +kernel
theorem dX5_init_5 : decode cX5_init 5 = .ok (.sipush 2000, 3) := by decide +kernel
theorem dX5_init_8 : decode cX5_init 8 = .ok (.newarray .byte, 2) := by decide +kernel
theorem dX5_init_10 : decode cX5_init 10 = .ok (.putfield 9, 3) := by decide +kernel
theorem dX5_init_13 : decode cX5_init 13 = .ok (.return_, 1) := by decide +kernel
theorem dX5_append_0 : decode cX5_append 0 = .ok (.bipush 24, 2) := by decide +kernel
theorem dX5_append_2 : decode cX5_append 2 = .ok (.istore_n 2, 1) := by decide +kernel
theorem dX5_append_3 : decode cX5_append 3 = .ok (.iload_n 2, 1) := by decide +kernel
theorem dX5_append_4 : decode cX5_append 4 = .ok (.ifCond .lt 42, 3) := by decide +kernel
theorem dX5_append_7 : decode cX5_append 7 = .ok (.aload_n 0, 1) := by decide +kernel
theorem dX5_append_8 : decode cX5_append 8 = .ok (.getfield 15, 3) := by decide +kernel
theorem dX5_append_11 : decode cX5_append 11 = .ok (.sipush 2000, 3) := by decide +kernel
theorem dX5_append_14 : decode cX5_append 14 = .ok (.if_icmp .ge 32, 3) := by decide +kernel
theorem dX5_append_17 : decode cX5_append 17 = .ok (.aload_n 0, 1) := by decide +kernel
theorem dX5_append_18 : decode cX5_append 18 = .ok (.getfield 9, 3) := by decide +kernel
theorem dX5_append_21 : decode cX5_append 21 = .ok (.aload_n 0, 1) := by decide +kernel
theorem dX5_append_22 : decode cX5_append 22 = .ok (.getfield 15, 3) := by decide +kernel
theorem dX5_append_25 : decode cX5_append 25 = .ok (.iload_n 1, 1) := by decide +kernel
theorem dX5_append_26 : decode cX5_append 26 = .ok (.iload_n 2, 1) := by decide +kernel
theorem dX5_append_27 : decode cX5_append 27 = .ok (.ishr, 1) := by decide +kernel
theorem dX5_append_28 : decode cX5_append 28 = .ok (.i2b, 1) := by decide +kernel
theorem dX5_append_29 : decode cX5_append 29 = .ok (.bastore, 1) := by decide +kernel
theorem dX5_append_30 : decode cX5_append 30 = .ok (.aload_n 0, 1) := by decide +kernel
theorem dX5_append_31 : decode cX5_append 31 = .ok (.dup, 1) := by decide +kernel
theorem dX5_append_32 : decode cX5_append 32 = .ok (.getfield 15, 3) := by decide +kernel
theorem dX5_append_35 : decode cX5_append 35 = .ok (.iconst 1, 1) := by decide +kernel
theorem dX5_append_36 : decode cX5_append 36 = .ok (.iadd, 1) := by decide +kernel
theorem dX5_append_37 : decode cX5_append 37 = .ok (.putfield 15, 3) := by decide +kernel
theorem dX5_append_40 : decode cX5_append 40 = .ok (.iinc 2 (-8), 3) := by decide +kernel
theorem dX5_append_43 : decode cX5_append 43 = .ok (.goto (-40), 3) := by decide +kernel
theorem dX5_append_46 : decode cX5_append 46 = .ok (.return_, 1) := by decide +kernel
theorem dX5_byteAt_0 : decode cX5_byteAt 0 = .ok (.iload_n 1, 1) := by decide +kernel
theorem dX5_byteAt_1 : decode cX5_byteAt 1 = .ok (.ifCond .lt 24, 3) := by decide +kernel
theorem dX5_byteAt_4 : decode cX5_byteAt 4 = .ok (.iload_n 1, 1) := by decide +kernel
theorem dX5_byteAt_5 : decode cX5_byteAt 5 = .ok (.aload_n 0, 1) := by decide +kernel
theorem dX5_byteAt_6 : decode cX5_byteAt 6 = .ok (.getfield 15, 3) := by decide +kernel
theorem dX5_byteAt_9 : decode cX5_byteAt 9 = .ok (.if_icmp .ge 16, 3) := by decide +kernel
theorem dX5_byteAt_12 : decode cX5_byteAt 12 = .ok (.aload_n 0, 1) := by decide +kernel
theorem dX5_byteAt_13 : decode cX5_byteAt 13 = .ok (.getfield 9, 3) := by decide +kernel
theorem dX5_byteAt_16 : decode cX5_byteAt 16 = .ok (.iload_n 1, 1) := by decide +kernel
theorem dX5_byteAt_17 : decode cX5_byteAt 17 = .ok (.baload, 1) := by decide +kernel
theorem dX5_byteAt_18 : decode cX5_byteAt 18 = .ok (.sipush 255, 3) := by decide +kernel
theorem dX5_byteAt_21 : decode cX5_byteAt 21 = .ok (.iand, 1) := by decide +kernel
theorem dX5_byteAt_22 : decode cX5_byteAt 22 = .ok (.goto 4, 3) := by decide +kernel
theorem dX5_byteAt_25 : decode cX5_byteAt 25 = .ok (.iconst (-1), 1) := by decide +kernel
theorem dX5_byteAt_26 : decode cX5_byteAt 26 = .ok (.ireturn, 1) := by decide +kernel
theorem dX5_skipBlanks_0 : decode cX5_skipBlanks 0 = .ok (.iload_n 1, 1) := by decide +kernel
theorem dX5_skipBlanks_1 : decode cX5_skipBlanks 1 = .ok (.istore_n 2, 1) := by decide +kernel
theorem dX5_skipBlanks_2 : decode cX5_skipBlanks 2 = .ok (.iload_n 2, 1) := by decide +kernel
theorem dX5_skipBlanks_3 : decode cX5_skipBlanks 3 = .ok (.aload_n 0, 1) := by decide +kernel
theorem dX5_skipBlanks_4 : decode cX5_skipBlanks 4 = .ok (.getfield 15, 3) := by decide +kernel
theorem dX5_skipBlanks_7 : decode cX5_skipBlanks 7 = .ok (.if_icmp .ge 20, 3) := by decide +kernel
theorem dX5_skipBlanks_10 : decode cX5_skipBlanks 10 = .ok (.aload_n 0, 1) := by decide +kernel
theorem dX5_skipBlanks_11 : decode cX5_skipBlanks 11 = .ok (.iload_n 2, 1) := by decide +kernel
theorem dX5_skipBlanks_12 : decode cX5_skipBlanks 12 = .ok (.invokevirtual 19, 3) := by decide +kernel
theorem dX5_skipBlanks_15 : decode cX5_skipBlanks 15 = .ok (.invokestatic 23, 3) := by decide +kernel
theorem dX5_skipBlanks_18 : decode cX5_skipBlanks 18 = .ok (.ifCond .eq 9, 3) := by decide +kernel
theorem dX5_skipBlanks_21 : decode cX5_skipBlanks 21 = .ok (.iinc 2 1, 3) := by decide +kernel
theorem dX5_skipBlanks_24 : decode cX5_skipBlanks 24 = .ok (.goto (-22), 3) := by decide +kernel
theorem dX5_skipBlanks_27 : decode cX5_skipBlanks 27 = .ok (.iload_n 2, 1) := by decide +kernel
theorem dX5_skipBlanks_28 : decode cX5_skipBlanks 28 = .ok (.ireturn, 1) := by decide +kernel
theorem dX5_skipDigits_0 : decode cX5_skipDigits 0 = .ok (.iload_n 1, 1) := by decide +kernel
theorem dX5_skipDigits_1 : decode cX5_skipDigits 1 = .ok (.istore_n 2, 1) := by decide +kernel
theorem dX5_skipDigits_2 : decode cX5_skipDigits 2 = .ok (.iload_n 2, 1) := by decide +kernel
theorem dX5_skipDigits_3 : decode cX5_skipDigits 3 = .ok (.aload_n 0, 1) := by decide +kernel
theorem dX5_skipDigits_4 : decode cX5_skipDigits 4 = .ok (.getfield 15, 3) := by decide +kernel
theorem dX5_skipDigits_7 : decode cX5_skipDigits 7 = .ok (.if_icmp .ge 20, 3) := by decide +kernel
theorem dX5_skipDigits_10 : decode cX5_skipDigits 10 = .ok (.aload_n 0, 1) := by decide +kernel
theorem dX5_skipDigits_11 : decode cX5_skipDigits 11 = .ok (.iload_n 2, 1) := by decide +kernel
theorem dX5_skipDigits_12 : decode cX5_skipDigits 12 = .ok (.invokevirtual 19, 3) := by decide +kernel
theorem dX5_skipDigits_15 : decode cX5_skipDigits 15 = .ok (.invokestatic 27, 3) := by decide +kernel
theorem dX5_skipDigits_18 : decode cX5_skipDigits 18 = .ok (.ifCond .eq 9, 3) := by decide +kernel
theorem dX5_skipDigits_21 : decode cX5_skipDigits 21 = .ok (.iinc 2 1, 3) := by decide +kernel
theorem dX5_skipDigits_24 : decode cX5_skipDigits 24 = .ok (.goto (-22), 3) := by decide +kernel
theorem dX5_skipDigits_27 : decode cX5_skipDigits 27 = .ok (.iload_n 2, 1) := by decide +kernel
theorem dX5_skipDigits_28 : decode cX5_skipDigits 28 = .ok (.ireturn, 1) := by decide +kernel
theorem dX5_skipLettersAndDigits_0 : decode cX5_skipLettersAndDigits 0 = .ok (.iload_n 1, 1) := by decide +kernel
theorem dX5_skipLettersAndDigits_1 : decode cX5_skipLettersAndDigits 1 = .ok (.istore_n 2, 1) := by decide +kernel
theorem dX5_skipLettersAndDigits_2 : decode cX5_skipLettersAndDigits 2 = .ok (.iload_n 2, 1) := by decide +kernel
theorem dX5_skipLettersAndDigits_3 : decode cX5_skipLettersAndDigits 3 = .ok (.aload_n 0, 1) := by decide +kernel
theorem dX5_skipLettersAndDigits_4 : decode cX5_skipLettersAndDigits 4 = .ok (.getfield 15, 3) := by decide +kernel
theorem dX5_skipLettersAndDigits_7 : decode cX5_skipLettersAndDigits 7 = .ok (.if_icmp .ge 31, 3) := by decide +kernel
theorem dX5_skipLettersAndDigits_10 : decode cX5_skipLettersAndDigits 10 = .ok (.aload_n 0, 1) := by decide +kernel
theorem dX5_skipLettersAndDigits_11 : decode cX5_skipLettersAndDigits 11 = .ok (.iload_n 2, 1) := by decide +kernel
theorem dX5_skipLettersAndDigits_12 : decode cX5_skipLettersAndDigits 12 = .ok (.invokevirtual 19, 3) := by decide +kernel
theorem dX5_skipLettersAndDigits_15 : decode cX5_skipLettersAndDigits 15 = .ok (.invokestatic 30, 3) := by decide +kernel
theorem dX5_skipLettersAndDigits_18 : decode cX5_skipLettersAndDigits 18 = .ok (.ifCond .ne 14, 3) := by decide +kernel
theorem dX5_skipLettersAndDigits_21 : decode cX5_skipLettersAndDigits 21 = .ok (.aload_n 0, 1) := by decide +kernel
theorem dX5_skipLettersAndDigits_22 : decode cX5_skipLettersAndDigits 22 = .ok (.iload_n 2, 1) := by decide +kernel
theorem dX5_skipLettersAndDigits_23 : decode cX5_skipLettersAndDigits 23 = .ok (.invokevirtual 19, 3) := by decide +kernel
theorem dX5_skipLettersAndDigits_26 : decode cX5_skipLettersAndDigits 26 = .ok (.invokestatic 27, 3) := by decide +kernel
theorem dX5_skipLettersAndDigits_29 : decode cX5_skipLettersAndDigits 29 = .ok (.ifCond .eq 9, 3) := by decide +kernel
theorem dX5_skipLettersAndDigits_32 : decode cX5_skipLettersAndDigits 32 = .ok (.iinc 2 1, 3) := by decide +kernel
theorem dX5_skipLettersAndDigits_35 : decode cX5_skipLettersAndDigits 35 = .ok (.goto (-33), 3) := by decide +kernel
theorem dX5_skipLettersAndDigits_38 : decode cX5_skipLettersAndDigits 38 = .ok (.iload_n 2, 1) := by decide +kernel
theorem dX5_skipLettersAndDigits_39 : decode cX5_skipLettersAndDigits 39 = .ok (.ireturn, 1) := by decide +kernel
theorem dX5_holdsText_0 : decode cX5_holdsText 0 = .ok (.aload_n 1, 1) := by decide +kernel
theorem dX5_holdsText_1 : decode cX5_holdsText 1 = .ok (.invokevirtual 33, 3) := by decide +kernel
theorem dX5_holdsText_4 : decode cX5_holdsText 4 = .ok (.iload_n 3, 1) := by decide +kernel
theorem dX5_holdsText_5 : decode cX5_holdsText 5 = .ok (.if_icmp .eq 5, 3) := by decide +kernel
theorem dX5_holdsText_8 : decode cX5_holdsText 8 = .ok (.iconst 0, 1) := by decide +kernel
theorem dX5_holdsText_9 : decode cX5_holdsText 9 = .ok (.ireturn, 1) := by decide +kernel
theorem dX5_holdsText_10 : decode cX5_holdsText 10 = .ok (.iconst 0, 1) := by decide +kernel
theorem dX5_holdsText_11 : decode cX5_holdsText 11 = .ok (.istore 4, 2) := by decide +kernel
theorem dX5_holdsText_13 : decode cX5_holdsText 13 = .ok (.iload 4, 2) := by decide +kernel
theorem dX5_holdsText_15 : decode cX5_holdsText 15 = .ok (.iload_n 3, 1) := by decide +kernel
theorem dX5_holdsText_16 : decode cX5_holdsText 16 = .ok (.if_icmp .ge 28, 3) := by decide +kernel
theorem dX5_holdsText_19 : decode cX5_holdsText 19 = .ok (.aload_n 0, 1) := by decide +kernel
theorem dX5_holdsText_20 : decode cX5_holdsText 20 = .ok (.iload_n 2, 1) := by decide +kernel
theorem dX5_holdsText_21 : decode cX5_holdsText 21 = .ok (.iload 4, 2) := by decide +kernel
theorem dX5_holdsText_23 : decode cX5_holdsText 23 = .ok (.iadd, 1) := by decide +kernel
theorem dX5_holdsText_24 : decode cX5_holdsText 24 = .ok (.invokevirtual 19, 3) := by decide +kernel
theorem dX5_holdsText_27 : decode cX5_holdsText 27 = .ok (.aload_n 1, 1) := by decide +kernel
theorem dX5_holdsText_28 : decode cX5_holdsText 28 = .ok (.iload 4, 2) := by decide +kernel
theorem dX5_holdsText_30 : decode cX5_holdsText 30 = .ok (.invokevirtual 38, 3) := by decide +kernel
theorem dX5_holdsText_33 : decode cX5_holdsText 33 = .ok (.if_icmp .eq 5, 3) := by decide +kernel
theorem dX5_holdsText_36 : decode cX5_holdsText 36 = .ok (.iconst 0, 1) := by decide +kernel
theorem dX5_holdsText_37 : decode cX5_holdsText 37 = .ok (.ireturn, 1) := by decide +kernel
theorem dX5_holdsText_38 : decode cX5_holdsText 38 = .ok (.iinc 4 1, 3) := by decide +kernel
theorem dX5_holdsText_41 : decode cX5_holdsText 41 = .ok (.goto (-28), 3) := by decide +kernel
theorem dX5_holdsText_44 : decode cX5_holdsText 44 = .ok (.iconst 1, 1) := by decide +kernel
theorem dX5_holdsText_45 : decode cX5_holdsText 45 = .ok (.ireturn, 1) := by decide +kernel
theorem dX5_holdsSame_0 : decode cX5_holdsSame 0 = .ok (.iload_n 1, 1) := by decide +kernel
theorem dX5_holdsSame_1 : decode cX5_holdsSame 1 = .ok (.ifCond .lt 27, 3) := by decide +kernel
theorem dX5_holdsSame_4 : decode cX5_holdsSame 4 = .ok (.iload_n 1, 1) := by decide +kernel
theorem dX5_holdsSame_5 : decode cX5_holdsSame 5 = .ok (.aload_n 0, 1) := by decide +kernel
theorem dX5_holdsSame_6 : decode cX5_holdsSame 6 = .ok (.getfield 15, 3) := by decide +kernel
theorem dX5_holdsSame_9 : decode cX5_holdsSame 9 = .ok (.iload_n 3, 1) := by decide +kernel
theorem dX5_holdsSame_10 : decode cX5_holdsSame 10 = .ok (.isub, 1) := by decide +kernel
theorem dX5_holdsSame_11 : decode cX5_holdsSame 11 = .ok (.if_icmp .gt 17, 3) := by decide +kernel
theorem dX5_holdsSame_14 : decode cX5_holdsSame 14 = .ok (.iload_n 2, 1) := by decide +kernel
theorem dX5_holdsSame_15 : decode cX5_holdsSame 15 = .ok (.ifCond .lt 13, 3) := by decide +kernel
theorem dX5_holdsSame_18 : decode cX5_holdsSame 18 = .ok (.iload_n 2, 1) := by decide +kernel
theorem dX5_holdsSame_19 : decode cX5_holdsSame 19 = .ok (.aload_n 0, 1) := by decide +kernel
theorem dX5_holdsSame_20 : decode cX5_holdsSame 20 = .ok (.getfield 15, 3) := by decide +kernel
theorem dX5_holdsSame_23 : decode cX5_holdsSame 23 = .ok (.iload_n 3, 1) := by decide +kernel
theorem dX5_holdsSame_24 : decode cX5_holdsSame 24 = .ok (.isub, 1) := by decide +kernel
theorem dX5_holdsSame_25 : decode cX5_holdsSame 25 = .ok (.if_icmp .le 5, 3) := by decide +kernel
theorem dX5_holdsSame_28 : decode cX5_holdsSame 28 = .ok (.iconst 0, 1) := by decide +kernel
theorem dX5_holdsSame_29 : decode cX5_holdsSame 29 = .ok (.ireturn, 1) := by decide +kernel
theorem dX5_holdsSame_30 : decode cX5_holdsSame 30 = .ok (.iconst 0, 1) := by decide +kernel
theorem dX5_holdsSame_31 : decode cX5_holdsSame 31 = .ok (.istore 4, 2) := by decide +kernel
theorem dX5_holdsSame_33 : decode cX5_holdsSame 33 = .ok (.iload 4, 2) := by decide +kernel
theorem dX5_holdsSame_35 : decode cX5_holdsSame 35 = .ok (.iload_n 3, 1) := by decide +kernel
theorem dX5_holdsSame_36 : decode cX5_holdsSame 36 = .ok (.if_icmp .ge 32, 3) := by decide +kernel
theorem dX5_holdsSame_39 : decode cX5_holdsSame 39 = .ok (.aload_n 0, 1) := by decide +kernel
theorem dX5_holdsSame_40 : decode cX5_holdsSame 40 = .ok (.getfield 9, 3) := by decide +kernel
theorem dX5_holdsSame_43 : decode cX5_holdsSame 43 = .ok (.iload_n 1, 1) := by decide +kernel
theorem dX5_holdsSame_44 : decode cX5_holdsSame 44 = .ok (.iload 4, 2) := by decide +kernel
theorem dX5_holdsSame_46 : decode cX5_holdsSame 46 = .ok (.iadd, 1) := by decide +kernel
theorem dX5_holdsSame_47 : decode cX5_holdsSame 47 = .ok (.baload, 1) := by decide +kernel
theorem dX5_holdsSame_48 : decode cX5_holdsSame 48 = .ok (.aload_n 0, 1) := by decide +kernel
theorem dX5_holdsSame_49 : decode cX5_holdsSame 49 = .ok (.getfield 9, 3) := by decide +kernel
theorem dX5_holdsSame_52 : decode cX5_holdsSame 52 = .ok (.iload_n 2, 1) := by decide +kernel
theorem dX5_holdsSame_53 : decode cX5_holdsSame 53 = .ok (.iload 4, 2) := by decide +kernel
theorem dX5_holdsSame_55 : decode cX5_holdsSame 55 = .ok (.iadd, 1) := by decide +kernel
theorem dX5_holdsSame_56 : decode cX5_holdsSame 56 = .ok (.baload, 1) := by decide +kernel
theorem dX5_holdsSame_57 : decode cX5_holdsSame 57 = .ok (.if_icmp .eq 5, 3) := by decide +kernel
theorem dX5_holdsSame_60 : decode cX5_holdsSame 60 = .ok (.iconst 0, 1) := by decide +kernel
theorem dX5_holdsSame_61 : decode cX5_holdsSame 61 = .ok (.ireturn, 1) := by decide +kernel
theorem dX5_holdsSame_62 : decode cX5_holdsSame 62 = .ok (.iinc 4 1, 3) := by decide +kernel
theorem dX5_holdsSame_65 : decode cX5_holdsSame 65 = .ok (.goto (-32), 3) := by decide +kernel
theorem dX5_holdsSame_68 : decode cX5_holdsSame 68 = .ok (.iconst 1, 1) := by decide +kernel
theorem dX5_holdsSame_69 : decode cX5_holdsSame 69 = .ok (.ireturn, 1) := by decide +kernel
theorem dX5_isBlank_0 : decode cX5_isBlank 0 = .ok (.iload_n 0, 1) := by decide +kernel
theorem dX5_isBlank_1 : decode cX5_isBlank 1 = .ok (.bipush 32, 2) := by decide +kernel
theorem dX5_isBlank_3 : decode cX5_isBlank 3 = .ok (.if_icmp .eq 9, 3) := by decide +kernel
theorem dX5_isBlank_6 : decode cX5_isBlank 6 = .ok (.iload_n 0, 1) := by decide +kernel
theorem dX5_isBlank_7 : decode cX5_isBlank 7 = .ok (.bipush 10, 2) := by decide +kernel
theorem dX5_isBlank_9 : decode cX5_isBlank 9 = .ok (.if_icmp .ne 7, 3) := by decide +kernel
theorem dX5_isBlank_12 : decode cX5_isBlank 12 = .ok (.iconst 1, 1) := by decide +kernel
theorem dX5_isBlank_13 : decode cX5_isBlank 13 = .ok (.goto 4, 3) := by decide +kernel
theorem dX5_isBlank_16 : decode cX5_isBlank 16 = .ok (.iconst 0, 1) := by decide +kernel
theorem dX5_isBlank_17 : decode cX5_isBlank 17 = .ok (.ireturn, 1) := by decide +kernel
theorem dX5_isLetter_0 : decode cX5_isLetter 0 = .ok (.iload_n 0, 1) := by decide +kernel
theorem dX5_isLetter_1 : decode cX5_isLetter 1 = .ok (.bipush 97, 2) := by decide +kernel
theorem dX5_isLetter_3 : decode cX5_isLetter 3 = .ok (.if_icmp .lt 13, 3) := by decide +kernel
theorem dX5_isLetter_6 : decode cX5_isLetter 6 = .ok (.iload_n 0, 1) := by decide +kernel
theorem dX5_isLetter_7 : decode cX5_isLetter 7 = .ok (.bipush 122, 2) := by decide +kernel
theorem dX5_isLetter_9 : decode cX5_isLetter 9 = .ok (.if_icmp .gt 7, 3) := by decide +kernel
theorem dX5_isLetter_12 : decode cX5_isLetter 12 = .ok (.iconst 1, 1) := by decide +kernel
theorem dX5_isLetter_13 : decode cX5_isLetter 13 = .ok (.goto 4, 3) := by decide +kernel
theorem dX5_isLetter_16 : decode cX5_isLetter 16 = .ok (.iconst 0, 1) := by decide +kernel
theorem dX5_isLetter_17 : decode cX5_isLetter 17 = .ok (.ireturn, 1) := by decide +kernel
theorem dX5_isDigit_0 : decode cX5_isDigit 0 = .ok (.iload_n 0, 1) := by decide +kernel
theorem dX5_isDigit_1 : decode cX5_isDigit 1 = .ok (.bipush 48, 2) := by decide +kernel
theorem dX5_isDigit_3 : decode cX5_isDigit 3 = .ok (.if_icmp .lt 13, 3) := by decide +kernel
theorem dX5_isDigit_6 : decode cX5_isDigit 6 = .ok (.iload_n 0, 1) := by decide +kernel
theorem dX5_isDigit_7 : decode cX5_isDigit 7 = .ok (.bipush 57, 2) := by decide +kernel
theorem dX5_isDigit_9 : decode cX5_isDigit 9 = .ok (.if_icmp .gt 7, 3) := by decide +kernel
theorem dX5_isDigit_12 : decode cX5_isDigit 12 = .ok (.iconst 1, 1) := by decide +kernel
theorem dX5_isDigit_13 : decode cX5_isDigit 13 = .ok (.goto 4, 3) := by decide +kernel
theorem dX5_isDigit_16 : decode cX5_isDigit 16 = .ok (.iconst 0, 1) := by decide +kernel
theorem dX5_isDigit_17 : decode cX5_isDigit 17 = .ok (.ireturn, 1) := by decide +kernel
theorem dX6_init_0 : decode cX6_init 0 = .ok (.aload_n 0, 1) := by decide +kernel
theorem dX6_init_1 : decode cX6_init 1 = .ok (.invokespecial 3, 3) := by decide +kernel
theorem dX6_init_4 : decode cX6_init 4 = .ok (.aload_n 0, 1) := by decide +kernel
theorem dX6_init_5 : decode cX6_init 5 = .ok (.sipush 401, 3) := by decide +kernel
theorem dX6_init_8 : decode cX6_init 8 = .ok (.newarray .int, 2) := by decide +kernel
theorem dX6_init_10 : decode cX6_init 10 = .ok (.putfield 9, 3) := by decide +kernel
theorem dX6_init_13 : decode cX6_init 13 = .ok (.aload_n 0, 1) := by decide +kernel
theorem dX6_init_14 : decode cX6_init 14 = .ok (.sipush 401, 3) := by decide +kernel
theorem dX6_init_17 : decode cX6_init 17 = .ok (.newarray .int, 2) := by decide +kernel
theorem dX6_init_19 : decode cX6_init 19 = .ok (.putfield 15, 3) := by decide +kernel
theorem dX6_init_22 : decode cX6_init 22 = .ok (.aload_n 0, 1) := by decide +kernel
theorem dX6_init_23 : decode cX6_init 23 = .ok (.sipush 401, 3) := by decide +kernel
theorem dX6_init_26 : decode cX6_init 26 = .ok (.newarray .int, 2) := by decide +kernel
theorem dX6_init_28 : decode cX6_init 28 = .ok (.putfield 18, 3) := by decide +kernel
theorem dX6_init_31 : decode cX6_init 31 = .ok (.aload_n 0, 1) := by decide +kernel
theorem dX6_init_32 : decode cX6_init 32 = .ok (.sipush 401, 3) := by decide +kernel
theorem dX6_init_35 : decode cX6_init 35 = .ok (.newarray .int, 2) := by decide +kernel
theorem dX6_init_37 : decode cX6_init 37 = .ok (.putfield 21, 3) := by decide +kernel
theorem dX6_init_40 : decode cX6_init 40 = .ok (.aload_n 0, 1) := by decide +kernel
theorem dX6_init_41 : decode cX6_init 41 = .ok (.aload_n 1, 1) := by decide +kernel
theorem dX6_init_42 : decode cX6_init 42 = .ok (.putfield 24, 3) := by decide +kernel
theorem dX6_init_45 : decode cX6_init 45 = .ok (.return_, 1) := by decide +kernel
theorem dX6_kindAt_0 : decode cX6_kindAt 0 = .ok (.iload_n 1, 1) := by decide +kernel
theorem dX6_kindAt_1 : decode cX6_kindAt 1 = .ok (.ifCond .lt 20, 3) := by decide +kernel
theorem dX6_kindAt_4 : decode cX6_kindAt 4 = .ok (.iload_n 1, 1) := by decide +kernel
theorem dX6_kindAt_5 : decode cX6_kindAt 5 = .ok (.aload_n 0, 1) := by decide +kernel
theorem dX6_kindAt_6 : decode cX6_kindAt 6 = .ok (.getfield 28, 3) := by decide +kernel
theorem dX6_kindAt_9 : decode cX6_kindAt 9 = .ok (.if_icmp .ge 12, 3) := by decide +kernel
theorem dX6_kindAt_12 : decode cX6_kindAt 12 = .ok (.aload_n 0, 1) := by decide +kernel
theorem dX6_kindAt_13 : decode cX6_kindAt 13 = .ok (.getfield 9, 3) := by decide +kernel
theorem dX6_kindAt_16 : decode cX6_kindAt 16 = .ok (.iload_n 1, 1) := by decide +kernel
theorem dX6_kindAt_17 : decode cX6_kindAt 17 = .ok (.iaload, 1) := by decide +kernel
theorem dX6_kindAt_18 : decode cX6_kindAt 18 = .ok (.goto 4, 3) := by decide +kernel
theorem dX6_kindAt_21 : decode cX6_kindAt 21 = .ok (.iconst 0, 1) := by decide +kernel
theorem dX6_kindAt_22 : decode cX6_kindAt 22 = .ok (.ireturn, 1) := by decide +kernel
theorem dX6_valueAt_0 : decode cX6_valueAt 0 = .ok (.iload_n 1, 1) := by decide +kernel
theorem dX6_valueAt_1 : decode cX6_valueAt 1 = .ok (.ifCond .lt 20, 3) := by decide +kernel
theorem dX6_valueAt_4 : decode cX6_valueAt 4 = .ok (.iload_n 1, 1) := by decide +kernel
theorem dX6_valueAt_5 : decode cX6_valueAt 5 = .ok (.aload_n 0, 1) := by decide +kernel
theorem dX6_valueAt_6 : decode cX6_valueAt 6 = .ok (.getfield 28, 3) := by decide +kernel
theorem dX6_valueAt_9 : decode cX6_valueAt 9 = .ok (.if_icmp .ge 12, 3) := by decide +kernel
theorem dX6_valueAt_12 : decode cX6_valueAt 12 = .ok (.aload_n 0, 1) := by decide +kernel
theorem dX6_valueAt_13 : decode cX6_valueAt 13 = .ok (.getfield 21, 3) := by decide +kernel
theorem dX6_valueAt_16 : decode cX6_valueAt 16 = .ok (.iload_n 1, 1) := by decide +kernel
theorem dX6_valueAt_17 : decode cX6_valueAt 17 = .ok (.iaload, 1) := by decide +kernel
theorem dX6_valueAt_18 : decode cX6_valueAt 18 = .ok (.goto 4, 3) := by decide +kernel
theorem dX6_valueAt_21 : decode cX6_valueAt 21 = .ok (.iconst 0, 1) := by decide +kernel
theorem dX6_valueAt_22 : decode cX6_valueAt 22 = .ok (.ireturn, 1) := by decide +kernel
theorem dX6_setValue_0 : decode cX6_setValue 0 = .ok (.iload_n 1, 1) := by decide +kernel
theorem dX6_setValue_1 : decode cX6_setValue 1 = .ok (.ifCond .lt 18, 3) := by decide +kernel
theorem dX6_setValue_4 : decode cX6_setValue 4 = .ok (.iload_n 1, 1) := by decide +kernel
theorem dX6_setValue_5 : decode cX6_setValue 5 = .ok (.aload_n 0, 1) := by decide +kernel
theorem dX6_setValue_6 : decode cX6_setValue 6 = .ok (.getfield 28, 3) := by decide +kernel
theorem dX6_setValue_9 : decode cX6_setValue 9 = .ok (.if_icmp .ge 10, 3) := by decide +kernel
theorem dX6_setValue_12 : decode cX6_setValue 12 = .ok (.aload_n 0, 1) := by decide +kernel
theorem dX6_setValue_13 : decode cX6_setValue 13 = .ok (.getfield 21, 3) := by decide +kernel
theorem dX6_setValue_16 : decode cX6_setValue 16 = .ok (.iload_n 1, 1) := by decide +kernel
theorem dX6_setValue_17 : decode cX6_setValue 17 = .ok (.iload_n 2, 1) := by decide +kernel
theorem dX6_setValue_18 : decode cX6_setValue 18 = .ok (.iastore, 1) := by decide +kernel
theorem dX6_setValue_19 : decode cX6_setValue 19 = .ok (.return_, 1) := by decide +kernel
theorem dX6_positionOf_0 : decode cX6_positionOf 0 = .ok (.iload_n 1, 1) := by decide +kernel
theorem dX6_positionOf_1 : decode cX6_positionOf 1 = .ok (.ifCond .lt 20, 3) := by decide +kernel
theorem dX6_positionOf_4 : decode cX6_positionOf 4 = .ok (.iload_n 1, 1) := by decide +kernel
theorem dX6_positionOf_5 : decode cX6_positionOf 5 = .ok (.aload_n 0, 1) := by decide +kernel
theorem dX6_positionOf_6 : decode cX6_positionOf 6 = .ok (.getfield 28, 3) := by decide +kernel
theorem dX6_positionOf_9 : decode cX6_positionOf 9 = .ok (.if_icmp .ge 12, 3) := by decide +kernel
theorem dX6_positionOf_12 : decode cX6_positionOf 12 = .ok (.aload_n 0, 1) := by decide +kernel
theorem dX6_positionOf_13 : decode cX6_positionOf 13 = .ok (.getfield 15, 3) := by decide +kernel
theorem dX6_positionOf_16 : decode cX6_positionOf 16 = .ok (.iload_n 1, 1) := by decide +kernel
theorem dX6_positionOf_17 : decode cX6_positionOf 17 = .ok (.iaload, 1) := by decide +kernel
theorem dX6_positionOf_18 : decode cX6_positionOf 18 = .ok (.goto 10, 3) := by decide +kernel
theorem dX6_positionOf_21 : decode cX6_positionOf 21 = .ok (.aload_n 0, 1) := by decide +kernel
theorem dX6_positionOf_22 : decode cX6_positionOf 22 = .ok (.getfield 24, 3) := by decide +kernel
theorem dX6_positionOf_25 : decode cX6_positionOf 25 = .ok (.getfield 32, 3) := by decide +kernel
theorem dX6_positionOf_28 : decode cX6_positionOf 28 = .ok (.ireturn, 1) := by decide +kernel
theorem dX6_areSameNames_0 : decode cX6_areSameNames 0 = .ok (.iload_n 1, 1) := by decide +kernel
theorem dX6_areSameNames_1 : decode cX6_areSameNames 1 = .ok (.ifCond .lt 23, 3) := by decide +kernel
theorem dX6_areSameNames_4 : decode cX6_areSameNames 4 = .ok (.iload_n 1, 1) := by decide +kernel
theorem dX6_areSameNames_5 : decode cX6_areSameNames 5 = .ok (.aload_n 0, 1) := by decide +kernel
theorem dX6_areSameNames_6 : decode cX6_areSameNames 6 = .ok (.getfield 28, 3) := by decide +kernel
theorem dX6_areSameNames_9 : decode cX6_areSameNames 9 = .ok (.if_icmp .ge 15, 3) := by decide +kernel
theorem dX6_areSameNames_12 : decode cX6_areSameNames 12 = .ok (.iload_n 2, 1) := by decide +kernel
theorem dX6_areSameNames_13 : decode cX6_areSameNames 13 = .ok (.ifCond .lt 11, 3) := by decide +kernel
theorem dX6_areSameNames_16 : decode cX6_areSameNames 16 = .ok (.iload_n 2, 1) := by decide +kernel
theorem dX6_areSameNames_17 : decode cX6_areSameNames 17 = .ok (.aload_n 0, 1) := by decide +kernel
theorem dX6_areSameNames_18 : decode cX6_areSameNames 18 = .ok (.getfield 28, 3) := by decide +kernel
theorem dX6_areSameNames_21 : decode cX6_areSameNames 21 = .ok (.if_icmp .lt 5, 3) := by decide +kernel
theorem dX6_areSameNames_24 : decode cX6_areSameNames 24 = .ok (.iconst 0, 1) := by decide +kernel
theorem dX6_areSameNames_25 : decode cX6_areSameNames 25 = .ok (.ireturn, 1) := by decide +kernel
theorem dX6_areSameNames_26 : decode cX6_areSameNames 26 = .ok (.aload_n 0, 1) := by decide +kernel
theorem dX6_areSameNames_27 : decode cX6_areSameNames 27 = .ok (.getfield 18, 3) := by decide +kernel
theorem dX6_areSameNames_30 : decode cX6_areSameNames 30 = .ok (.iload_n 1, 1) := by decide +kernel
theorem dX6_areSameNames_31 : decode cX6_areSameNames 31 = .ok (.iaload, 1) := by decide +kernel
theorem dX6_areSameNames_32 : decode cX6_areSameNames 32 = .ok (.aload_n 0, 1) := by decide +kernel
theorem dX6_areSameNames_33 : decode cX6_areSameNames 33 = .ok (.getfield 18, 3) := by decide +kernel
theorem dX6_areSameNames_36 : decode cX6_areSameNames 36 = .ok (.iload_n 2, 1) := by decide +kernel
theorem dX6_areSameNames_37 : decode cX6_areSameNames 37 = .ok (.iaload, 1) := by decide +kernel
theorem dX6_areSameNames_38 : decode cX6_areSameNames 38 = .ok (.if_icmp .ne 35, 3) := by decide +kernel
theorem dX6_areSameNames_41 : decode cX6_areSameNames 41 = .ok (.aload_n 0, 1) := by decide +kernel
theorem dX6_areSameNames_42 : decode cX6_areSameNames 42 = .ok (.getfield 24, 3) := by decide +kernel
theorem dX6_areSameNames_45 : decode cX6_areSameNames 45 = .ok (.aload_n 0, 1) := by decide +kernel
theorem dX6_areSameNames_46 : decode cX6_areSameNames 46 = .ok (.getfield 15, 3) := by decide +kernel
theorem dX6_areSameNames_49 : decode cX6_areSameNames 49 = .ok (.iload_n 1, 1) := by decide +kernel
theorem dX6_areSameNames_50 : decode cX6_areSameNames 50 = .ok (.iaload, 1) := by decide +kernel
theorem dX6_areSameNames_51 : decode cX6_areSameNames 51 = .ok (.aload_n 0, 1) := by decide +kernel
theorem dX6_areSameNames_52 : decode cX6_areSameNames 52 = .ok (.getfield 15, 3) := by decide +kernel
theorem dX6_areSameNames_55 : decode cX6_areSameNames 55 = .ok (.iload_n 2, 1) := by decide +kernel
theorem dX6_areSameNames_56 : decode cX6_areSameNames 56 = .ok (.iaload, 1) := by decide +kernel
theorem dX6_areSameNames_57 : decode cX6_areSameNames 57 = .ok (.aload_n 0, 1) := by decide +kernel
theorem dX6_areSameNames_58 : decode cX6_areSameNames 58 = .ok (.getfield 18, 3) := by decide +kernel
theorem dX6_areSameNames_61 : decode cX6_areSameNames 61 = .ok (.iload_n 1, 1) := by decide +kernel
theorem dX6_areSameNames_62 : decode cX6_areSameNames 62 = .ok (.iaload, 1) := by decide +kernel
theorem dX6_areSameNames_63 : decode cX6_areSameNames 63 = .ok (.invokevirtual 37, 3) := by decide +kernel
theorem dX6_areSameNames_66 : decode cX6_areSameNames 66 = .ok (.ifCond .eq 7, 3) := by decide +kernel
theorem dX6_areSameNames_69 : decode cX6_areSameNames 69 = .ok (.iconst 1, 1) := by decide +kernel
theorem dX6_areSameNames_70 : decode cX6_areSameNames 70 = .ok (.goto 4, 3) := by decide +kernel
theorem dX6_areSameNames_73 : decode cX6_areSameNames 73 = .ok (.iconst 0, 1) := by decide +kernel
theorem dX6_areSameNames_74 : decode cX6_areSameNames 74 = .ok (.ireturn, 1) := by decide +kernel
theorem dX6_readTape_0 : decode cX6_readTape 0 = .ok (.aload_n 0, 1) := by decide +kernel
theorem dX6_readTape_1 : decode cX6_readTape 1 = .ok (.iconst 0, 1) := by decide +kernel
theorem dX6_readTape_2 : decode cX6_readTape 2 = .ok (.putfield 28, 3) := by decide +kernel
theorem dX6_readTape_5 : decode cX6_readTape 5 = .ok (.aload_n 0, 1) := by decide +kernel
theorem dX6_readTape_6 : decode cX6_readTape 6 = .ok (.getfield 24, 3) := by decide +kernel
theorem dX6_readTape_9 : decode cX6_readTape 9 = .ok (.iconst 0, 1) := by decide +kernel
theorem dX6_readTape_10 : decode cX6_readTape 10 = .ok (.invokevirtual 41, 3) := by decide +kernel
theorem dX6_readTape_13 : decode cX6_readTape 13 = .ok (.istore_n 1, 1) := by decide +kernel
theorem dX6_readTape_14 : decode cX6_readTape 14 = .ok (.iload_n 1, 1) := by decide +kernel
theorem dX6_readTape_15 : decode cX6_readTape 15 = .ok (.aload_n 0, 1) := by decide +kernel
theorem dX6_readTape_16 : decode cX6_readTape 16 = .ok (.getfield 24, 3) := by decide +kernel
theorem dX6_readTape_19 : decode cX6_readTape 19 = .ok (.getfield 32, 3) := by decide +kernel
theorem dX6_readTape_22 : decode cX6_readTape 22 = .ok (.if_icmp .ge 44, 3) := by decide +kernel
theorem dX6_readTape_25 : decode cX6_readTape 25 = .ok (.aload_n 0, 1) := by decide +kernel
theorem dX6_readTape_26 : decode cX6_readTape 26 = .ok (.getfield 28, 3) := by decide +kernel
theorem dX6_readTape_29 : decode cX6_readTape 29 = .ok (.sipush 400, 3) := by decide +kernel
theorem dX6_readTape_32 : decode cX6_readTape 32 = .ok (.if_icmp .ge 34, 3) := by decide +kernel
theorem dX6_readTape_35 : decode cX6_readTape 35 = .ok (.aload_n 0, 1) := by decide +kernel
theorem dX6_readTape_36 : decode cX6_readTape 36 = .ok (.iload_n 1, 1) := by decide +kernel
theorem dX6_readTape_37 : decode cX6_readTape 37 = .ok (.invokevirtual 45, 3) := by decide +kernel
theorem dX6_readTape_40 : decode cX6_readTape 40 = .ok (.istore_n 2, 1) := by decide +kernel
theorem dX6_readTape_41 : decode cX6_readTape 41 = .ok (.iload_n 2, 1) := by decide +kernel
theorem dX6_readTape_42 : decode cX6_readTape 42 = .ok (.iload_n 1, 1) := by decide +kernel
theorem dX6_readTape_43 : decode cX6_readTape 43 = .ok (.if_icmp .gt 11, 3) := by decide +kernel
theorem dX6_readTape_46 : decode cX6_readTape 46 = .ok (.aload_n 0, 1) := by decide +kernel
theorem dX6_readTape_47 : decode cX6_readTape 47 = .ok (.iconst 1, 1) := by decide +kernel
theorem dX6_readTape_48 : decode cX6_readTape 48 = .ok (.iload_n 1, 1) := by decide +kernel
theorem dX6_readTape_49 : decode cX6_readTape 49 = .ok (.iload_n 1, 1) := by decide +kernel
theorem dX6_readTape_50 : decode cX6_readTape 50 = .ok (.invokevirtual 48, 3) := by decide +kernel
theorem dX6_readTape_53 : decode cX6_readTape 53 = .ok (.return_, 1) := by decide +kernel
theorem dX6_readTape_54 : decode cX6_readTape 54 = .ok (.aload_n 0, 1) := by decide +kernel
theorem dX6_readTape_55 : decode cX6_readTape 55 = .ok (.getfield 24, 3) := by decide +kernel
theorem dX6_readTape_58 : decode cX6_readTape 58 = .ok (.iload_n 2, 1) := by decide +kernel
theorem dX6_readTape_59 : decode cX6_readTape 59 = .ok (.invokevirtual 41, 3) := by decide +kernel
theorem dX6_readTape_62 : decode cX6_readTape 62 = .ok (.istore_n 1, 1) := by decide +kernel
theorem dX6_readTape_63 : decode cX6_readTape 63 = .ok (.goto (-49), 3) := by decide +kernel
theorem dX6_readTape_66 : decode cX6_readTape 66 = .ok (.aload_n 0, 1) := by decide +kernel
theorem dX6_readTape_67 : decode cX6_readTape 67 = .ok (.iload_n 1, 1) := by decide +kernel
theorem dX6_readTape_68 : decode cX6_readTape 68 = .ok (.aload_n 0, 1) := by decide +kernel
theorem dX6_readTape_69 : decode cX6_readTape 69 = .ok (.getfield 24, 3) := by decide +kernel
theorem dX6_readTape_72 : decode cX6_readTape 72 = .ok (.getfield 32, 3) := by decide +kernel
theorem dX6_readTape_75 : decode cX6_readTape 75 = .ok (.if_icmp .ge 7, 3) := by decide +kernel
theorem dX6_readTape_78 : decode cX6_readTape 78 = .ok (.iconst 1, 1) := by decide +kernel
theorem dX6_readTape_79 : decode cX6_readTape 79 = .ok (.goto 4, 3) := by decide +kernel
theorem dX6_readTape_82 : decode cX6_readTape 82 = .ok (.iconst 0, 1) := by decide +kernel
theorem dX6_readTape_83 : decode cX6_readTape 83 = .ok (.iload_n 1, 1) := by decide +kernel
theorem dX6_readTape_84 : decode cX6_readTape 84 = .ok (.iload_n 1, 1) := by decide +kernel
theorem dX6_readTape_85 : decode cX6_readTape 85 = .ok (.invokevirtual 48, 3) := by decide +kernel
theorem dX6_readTape_88 : decode cX6_readTape 88 = .ok (.return_, 1) := by decide +kernel
theorem dX6_readToken_0 : decode cX6_readToken 0 = .ok (.aload_n 0, 1) := by decide +kernel
theorem dX6_readToken_1 : decode cX6_readToken 1 = .ok (.getfield 24, 3) := by decide +kernel
theorem dX6_readToken_4 : decode cX6_readToken 4 = .ok (.iload_n 1, 1) := by decide +kernel
theorem dX6_readToken_5 : decode cX6_readToken 5 = .ok (.invokevirtual 52, 3) := by decide +kernel
theorem dX6_readToken_8 : decode cX6_readToken 8 = .ok (.istore_n 2, 1) := by decide +kernel
theorem dX6_readToken_9 : decode cX6_readToken 9 = .ok (.iload_n 2, 1) := by decide +kernel
theorem dX6_readToken_10 : decode cX6_readToken 10 = .ok (.invokestatic 55, 3) := by decide +kernel
theorem dX6_readToken_13 : decode cX6_readToken 13 = .ok (.ifCond .eq 9, 3) := by decide +kernel
theorem dX6_readToken_16 : decode cX6_readToken 16 = .ok (.aload_n 0, 1) := by decide +kernel
theorem dX6_readToken_17 : decode cX6_readToken 17 = .ok (.iload_n 1, 1) := by decide +kernel
theorem dX6_readToken_18 : decode cX6_readToken 18 = .ok (.invokevirtual 59, 3) := by decide +kernel
theorem dX6_readToken_21 : decode cX6_readToken 21 = .ok (.ireturn, 1) := by decide +kernel
theorem dX6_readToken_22 : decode cX6_readToken 22 = .ok (.iload_n 2, 1) := by decide +kernel
theorem dX6_readToken_23 : decode cX6_readToken 23 = .ok (.invokestatic 62, 3) := by decide +kernel
theorem dX6_readToken_26 : decode cX6_readToken 26 = .ok (.ifCond .eq 9, 3) := by decide +kernel
theorem dX6_readToken_29 : decode cX6_readToken 29 = .ok (.aload_n 0, 1) := by decide +kernel
theorem dX6_readToken_30 : decode cX6_readToken 30 = .ok (.iload_n 1, 1) := by decide +kernel
theorem dX6_readToken_31 : decode cX6_readToken 31 = .ok (.invokevirtual 65, 3) := by decide +kernel
theorem dX6_readToken_34 : decode cX6_readToken 34 = .ok (.ireturn, 1) := by decide +kernel
theorem dX6_readToken_35 : decode cX6_readToken 35 = .ok (.aload_n 0, 1) := by decide +kernel
theorem dX6_readToken_36 : decode cX6_readToken 36 = .ok (.iload_n 1, 1) := by decide +kernel
theorem dX6_readToken_37 : decode cX6_readToken 37 = .ok (.iload_n 2, 1) := by decide +kernel
theorem dX6_readToken_38 : decode cX6_readToken 38 = .ok (.invokevirtual 68, 3) := by decide +kernel
theorem dX6_readToken_41 : decode cX6_readToken 41 = .ok (.ireturn, 1) := by decide +kernel
theorem dX6_readWord_0 : decode cX6_readWord 0 = .ok (.aload_n 0, 1) := by decide +kernel
theorem dX6_readWord_1 : decode cX6_readWord 1 = .ok (.getfield 24, 3) := by decide +kernel
theorem dX6_readWord_4 : decode cX6_readWord 4 = .ok (.iload_n 1, 1) := by decide +kernel
theorem dX6_readWord_5 : decode cX6_readWord 5 = .ok (.invokevirtual 72, 3) := by decide +kernel
theorem dX6_readWord_8 : decode cX6_readWord 8 = .ok (.istore_n 2, 1) := by decide +kernel
theorem dX6_readWord_9 : decode cX6_readWord 9 = .ok (.iload_n 2, 1) := by decide +kernel
theorem dX6_readWord_10 : decode cX6_readWord 10 = .ok (.iload_n 1, 1) := by decide +kernel
theorem dX6_readWord_11 : decode cX6_readWord 11 = .ok (.isub, 1) := by decide +kernel
theorem dX6_readWord_12 : decode cX6_readWord 12 = .ok (.bipush 10, 2) := by decide +kernel
theorem dX6_readWord_14 : decode cX6_readWord 14 = .ok (.if_icmp .le 5, 3) := by decide +kernel
theorem dX6_readWord_17 : decode cX6_readWord 17 = .ok (.iconst (-1), 1) := by decide +kernel
theorem dX6_readWord_18 : decode cX6_readWord 18 = .ok (.ireturn, 1) := by decide +kernel
theorem dX6_readWord_19 : decode cX6_readWord 19 = .ok (.iconst 2, 1) := by decide +kernel
theorem dX6_readWord_20 : decode cX6_readWord 20 = .ok (.istore_n 3, 1) := by decide +kernel
theorem dX6_readWord_21 : decode cX6_readWord 21 = .ok (.sipush 128, 3) := by decide +kernel
theorem dX6_readWord_24 : decode cX6_readWord 24 = .ok (.istore 4, 2) := by decide +kernel
theorem dX6_readWord_26 : decode cX6_readWord 26 = .ok (.iload 4, 2) := by decide +kernel
theorem dX6_readWord_28 : decode cX6_readWord 28 = .ok (.sipush 153, 3) := by decide +kernel
theorem dX6_readWord_31 : decode cX6_readWord 31 = .ok (.if_icmp .gt 36, 3) := by decide +kernel
theorem dX6_readWord_34 : decode cX6_readWord 34 = .ok (.iload_n 3, 1) := by decide +kernel
theorem dX6_readWord_35 : decode cX6_readWord 35 = .ok (.iconst 2, 1) := by decide +kernel
theorem dX6_readWord_36 : decode cX6_readWord 36 = .ok (.if_icmp .ne 31, 3) := by decide +kernel
theorem dX6_readWord_39 : decode cX6_readWord 39 = .ok (.aload_n 0, 1) := by decide +kernel
theorem dX6_readWord_40 : decode cX6_readWord 40 = .ok (.getfield 24, 3) := by decide +kernel
theorem dX6_readWord_43 : decode cX6_readWord 43 = .ok (.iload 4, 2) := by decide +kernel
theorem dX6_readWord_45 : decode cX6_readWord 45 = .ok (.invokestatic 75, 3) := by decide +kernel
theorem dX6_readWord_48 : decode cX6_readWord 48 = .ok (.iload_n 1, 1) := by decide +kernel
theorem dX6_readWord_49 : decode cX6_readWord 49 = .ok (.iload_n 2, 1) := by decide +kernel
theorem dX6_readWord_50 : decode cX6_readWord 50 = .ok (.iload_n 1, 1) := by decide +kernel
theorem dX6_readWord_51 : decode cX6_readWord 51 = .ok (.isub, 1) := by decide +kernel
theorem dX6_readWord_52 : decode cX6_readWord 52 = .ok (.invokevirtual 79, 3) := by decide +kernel
theorem dX6_readWord_55 : decode cX6_readWord 55 = .ok (.ifCond .eq 6, 3) := by decide +kernel
theorem dX6_readWord_58 : decode cX6_readWord 58 = .ok (.iload 4, 2) := by decide +kernel
theorem dX6_readWord_60 : decode cX6_readWord 60 = .ok (.istore_n 3, 1) := by decide +kernel
theorem dX6_readWord_61 : decode cX6_readWord 61 = .ok (.iinc 4 1, 3) := by decide +kernel
theorem dX6_readWord_64 : decode cX6_readWord 64 = .ok (.goto (-38), 3) := by decide +kernel
theorem dX6_readWord_67 : decode cX6_readWord 67 = .ok (.aload_n 0, 1) := by decide +kernel
theorem dX6_readWord_68 : decode cX6_readWord 68 = .ok (.iload_n 3, 1) := by decide +kernel
theorem dX6_readWord_69 : decode cX6_readWord 69 = .ok (.iload_n 1, 1) := by decide +kernel
theorem dX6_readWord_70 : decode cX6_readWord 70 = .ok (.iload_n 2, 1) := by decide +kernel
theorem dX6_readWord_71 : decode cX6_readWord 71 = .ok (.invokevirtual 48, 3) := by decide +kernel
theorem dX6_readWord_74 : decode cX6_readWord 74 = .ok (.iload_n 2, 1) := by decide +kernel
theorem dX6_readWord_75 : decode cX6_readWord 75 = .ok (.ireturn, 1) := by decide +kernel
theorem dX6_readNumber_0 : decode cX6_readNumber 0 = .ok (.aload_n 0, 1) := by decide +kernel
theorem dX6_readNumber_1 : decode cX6_readNumber 1 = .ok (.getfield 24, 3) := by decide +kernel
theorem dX6_readNumber_4 : decode cX6_readNumber 4 = .ok (.iload_n 1, 1) := by decide +kernel
theorem dX6_readNumber_5 : decode cX6_readNumber 5 = .ok (.invokevirtual 83, 3) := by decide +kernel
theorem dX6_readNumber_8 : decode cX6_readNumber 8 = .ok (.istore_n 2, 1) := by decide +kernel
theorem dX6_readNumber_9 : decode cX6_readNumber 9 = .ok (.iload_n 2, 1) := by decide +kernel
theorem dX6_readNumber_10 : decode cX6_readNumber 10 = .ok (.iload_n 1, 1) := by decide +kernel
theorem dX6_readNumber_11 : decode cX6_readNumber 11 = .ok (.isub, 1) := by decide +kernel
theorem dX6_readNumber_12 : decode cX6_readNumber 12 = .ok (.bipush 6, 2) := by decide +kernel
theorem dX6_readNumber_14 : decode cX6_readNumber 14 = .ok (.if_icmp .le 5, 3) := by decide +kernel
theorem dX6_readNumber_17 : decode cX6_readNumber 17 = .ok (.iconst (-1), 1) := by decide +kernel
theorem dX6_readNumber_18 : decode cX6_readNumber 18 = .ok (.ireturn, 1) := by decide +kernel
theorem dX6_readNumber_19 : decode cX6_readNumber 19 = .ok (.iconst 0, 1) := by decide +kernel
theorem dX6_readNumber_20 : decode cX6_readNumber 20 = .ok (.istore_n 3, 1) := by decide +kernel
theorem dX6_readNumber_21 : decode cX6_readNumber 21 = .ok (.iload_n 1, 1) := by decide +kernel
theorem dX6_readNumber_22 : decode cX6_readNumber 22 = .ok (.istore 4, 2) := by decide +kernel
theorem dX6_readNumber_24 : decode cX6_readNumber 24 = .ok (.iload 4, 2) := by decide +kernel
theorem dX6_readNumber_26 : decode cX6_readNumber 26 = .ok (.iload_n 2, 1) := by decide +kernel
theorem dX6_readNumber_27 : decode cX6_readNumber 27 = .ok (.if_icmp .ge 27, 3) := by decide +kernel
theorem dX6_readNumber_30 : decode cX6_readNumber 30 = .ok (.iload_n 3, 1) := by decide +kernel
theorem dX6_readNumber_31 : decode cX6_readNumber 31 = .ok (.bipush 10, 2) := by decide +kernel
theorem dX6_readNumber_33 : decode cX6_readNumber 33 = .ok (.imul, 1) := by decide +kernel
theorem dX6_readNumber_34 : decode cX6_readNumber 34 = .ok (.aload_n 0, 1) := by decide +kernel
theorem dX6_readNumber_35 : decode cX6_readNumber 35 = .ok (.getfield 24, 3) := by decide +kernel
theorem dX6_readNumber_38 : decode cX6_readNumber 38 = .ok (.iload 4, 2) := by decide +kernel
theorem dX6_readNumber_40 : decode cX6_readNumber 40 = .ok (.invokevirtual 52, 3) := by decide +kernel
theorem dX6_readNumber_43 : decode cX6_readNumber 43 = .ok (.bipush 48, 2) := by decide +kernel
theorem dX6_readNumber_45 : decode cX6_readNumber 45 = .ok (.isub, 1) := by decide +kernel
theorem dX6_readNumber_46 : decode cX6_readNumber 46 = .ok (.iadd, 1) := by decide +kernel
theorem dX6_readNumber_47 : decode cX6_readNumber 47 = .ok (.istore_n 3, 1) := by decide +kernel
theorem dX6_readNumber_48 : decode cX6_readNumber 48 = .ok (.iinc 4 1, 3) := by decide +kernel
theorem dX6_readNumber_51 : decode cX6_readNumber 51 = .ok (.goto (-27), 3) := by decide +kernel
theorem dX6_readNumber_54 : decode cX6_readNumber 54 = .ok (.aload_n 0, 1) := by decide +kernel
theorem dX6_readNumber_55 : decode cX6_readNumber 55 = .ok (.iconst 3, 1) := by decide +kernel
theorem dX6_readNumber_56 : decode cX6_readNumber 56 = .ok (.iload_n 1, 1) := by decide +kernel
theorem dX6_readNumber_57 : decode cX6_readNumber 57 = .ok (.iload_n 2, 1) := by decide +kernel
theorem dX6_readNumber_58 : decode cX6_readNumber 58 = .ok (.invokevirtual 48, 3) := by decide +kernel
theorem dX6_readNumber_61 : decode cX6_readNumber 61 = .ok (.aload_n 0, 1) := by decide +kernel
theorem dX6_readNumber_62 : decode cX6_readNumber 62 = .ok (.aload_n 0, 1) := by decide +kernel
theorem dX6_readNumber_63 : decode cX6_readNumber 63 = .ok (.getfield 28, 3) := by decide +kernel
theorem dX6_readNumber_66 : decode cX6_readNumber 66 = .ok (.iconst 1, 1) := by decide +kernel
theorem dX6_readNumber_67 : decode cX6_readNumber 67 = .ok (.isub, 1) := by decide +kernel
theorem dX6_readNumber_68 : decode cX6_readNumber 68 = .ok (.iload_n 3, 1) := by decide +kernel
theorem dX6_readNumber_69 : decode cX6_readNumber 69 = .ok (.invokevirtual 86, 3) := by decide +kernel
theorem dX6_readNumber_72 : decode cX6_readNumber 72 = .ok (.iload_n 2, 1) := by decide +kernel
theorem dX6_readNumber_73 : decode cX6_readNumber 73 = .ok (.ireturn, 1) := by decide +kernel
theorem dX6_readSymbol_0 : decode cX6_readSymbol 0 = .ok (.aload_n 0, 1) := by decide +kernel
theorem dX6_readSymbol_1 : decode cX6_readSymbol 1 = .ok (.getfield 24, 3) := by decide +kernel
theorem dX6_readSymbol_4 : decode cX6_readSymbol 4 = .ok (.iload_n 1, 1) := by decide +kernel
theorem dX6_readSymbol_5 : decode cX6_readSymbol 5 = .ok (.iconst 1, 1) := by decide +kernel
theorem dX6_readSymbol_6 : decode cX6_readSymbol 6 = .ok (.iadd, 1) := by decide +kernel
theorem dX6_readSymbol_7 : decode cX6_readSymbol 7 = .ok (.invokevirtual 52, 3) := by decide +kernel
theorem dX6_readSymbol_10 : decode cX6_readSymbol 10 = .ok (.bipush 61, 2) := by decide +kernel
theorem dX6_readSymbol_12 : decode cX6_readSymbol 12 = .ok (.if_icmp .ne 7, 3) := by decide +kernel
theorem dX6_readSymbol_15 : decode cX6_readSymbol 15 = .ok (.iconst 1, 1) := by decide +kernel
theorem dX6_readSymbol_16 : decode cX6_readSymbol 16 = .ok (.goto 4, 3) := by decide +kernel
theorem dX6_readSymbol_19 : decode cX6_readSymbol 19 = .ok (.iconst 0, 1) := by decide +kernel
theorem dX6_readSymbol_20 : decode cX6_readSymbol 20 = .ok (.istore_n 3, 1) := by decide +kernel
theorem dX6_readSymbol_21 : decode cX6_readSymbol 21 = .ok (.iload_n 3, 1) := by decide +kernel
theorem dX6_readSymbol_22 : decode cX6_readSymbol 22 = .ok (.ifCond .eq 38, 3) := by decide +kernel
theorem dX6_readSymbol_25 : decode cX6_readSymbol 25 = .ok (.iload_n 2, 1) := by decide +kernel
theorem dX6_readSymbol_26 : decode cX6_readSymbol 26 = .ok (.bipush 60, 2) := by decide +kernel
theorem dX6_readSymbol_28 : decode cX6_readSymbol 28 = .ok (.if_icmp .eq 9, 3) := by decide +kernel
theorem dX6_readSymbol_31 : decode cX6_readSymbol 31 = .ok (.iload_n 2, 1) := by decide +kernel
theorem dX6_readSymbol_32 : decode cX6_readSymbol 32 = .ok (.bipush 62, 2) := by decide +kernel
theorem dX6_readSymbol_34 : decode cX6_readSymbol 34 = .ok (.if_icmp .ne 26, 3) := by decide +kernel
theorem dX6_readSymbol_37 : decode cX6_readSymbol 37 = .ok (.aload_n 0, 1) := by decide +kernel
theorem dX6_readSymbol_38 : decode cX6_readSymbol 38 = .ok (.iload_n 2, 1) := by decide +kernel
theorem dX6_readSymbol_39 : decode cX6_readSymbol 39 = .ok (.bipush 60, 2) := by decide +kernel
theorem dX6_readSymbol_41 : decode cX6_readSymbol 41 = .ok (.if_icmp .ne 7, 3) := by decide +kernel
theorem dX6_readSymbol_44 : decode cX6_readSymbol 44 = .ok (.iconst 4, 1) := by decide +kernel
theorem dX6_readSymbol_45 : decode cX6_readSymbol 45 = .ok (.goto 4, 3) := by decide +kernel
theorem dX6_readSymbol_48 : decode cX6_readSymbol 48 = .ok (.iconst 5, 1) := by decide +kernel
theorem dX6_readSymbol_49 : decode cX6_readSymbol 49 = .ok (.iload_n 1, 1) := by decide +kernel
theorem dX6_readSymbol_50 : decode cX6_readSymbol 50 = .ok (.iload_n 1, 1) := by decide +kernel
theorem dX6_readSymbol_51 : decode cX6_readSymbol 51 = .ok (.iconst 2, 1) := by decide +kernel
theorem dX6_readSymbol_52 : decode cX6_readSymbol 52 = .ok (.iadd, 1) := by decide +kernel
theorem dX6_readSymbol_53 : decode cX6_readSymbol 53 = .ok (.invokevirtual 48, 3) := by decide +kernel
theorem dX6_readSymbol_56 : decode cX6_readSymbol 56 = .ok (.iload_n 1, 1) := by decide +kernel
theorem dX6_readSymbol_57 : decode cX6_readSymbol 57 = .ok (.iconst 2, 1) := by decide +kernel
theorem dX6_readSymbol_58 : decode cX6_readSymbol 58 = .ok (.iadd, 1) := by decide +kernel
theorem dX6_readSymbol_59 : decode cX6_readSymbol 59 = .ok (.ireturn, 1) := by decide +kernel
theorem dX6_readSymbol_60 : decode cX6_readSymbol 60 = .ok (.ldc 90, 2) := by decide +kernel
theorem dX6_readSymbol_62 : decode cX6_readSymbol 62 = .ok (.iload_n 2, 1) := by decide +kernel
theorem dX6_readSymbol_63 : decode cX6_readSymbol 63 = .ok (.i2c, 1) := by decide +kernel
theorem dX6_readSymbol_64 : decode cX6_readSymbol 64 = .ok (.invokevirtual 92, 3) := by decide +kernel
theorem dX6_readSymbol_67 : decode cX6_readSymbol 67 = .ok (.ifCond .ge 5, 3) := by decide +kernel
theorem dX6_readSymbol_70 : decode cX6_readSymbol 70 = .ok (.iconst (-1), 1) := by decide +kernel
theorem dX6_readSymbol_71 : decode cX6_readSymbol 71 = .ok (.ireturn, 1) := by decide +kernel
theorem dX6_readSymbol_72 : decode cX6_readSymbol 72 = .ok (.aload_n 0, 1) := by decide +kernel
theorem dX6_readSymbol_73 : decode cX6_readSymbol 73 = .ok (.iload_n 2, 1) := by decide +kernel
theorem dX6_readSymbol_74 : decode cX6_readSymbol 74 = .ok (.iload_n 1, 1) := by decide +kernel
theorem dX6_readSymbol_75 : decode cX6_readSymbol 75 = .ok (.iload_n 1, 1) := by decide +kernel
theorem dX6_readSymbol_76 : decode cX6_readSymbol 76 = .ok (.iconst 1, 1) := by decide +kernel
theorem dX6_readSymbol_77 : decode cX6_readSymbol 77 = .ok (.iadd, 1) := by decide +kernel
theorem dX6_readSymbol_78 : decode cX6_readSymbol 78 = .ok (.invokevirtual 48, 3) := by decide +kernel
theorem dX6_readSymbol_81 : decode cX6_readSymbol 81 = .ok (.iload_n 1, 1) := by decide +kernel
theorem dX6_readSymbol_82 : decode cX6_readSymbol 82 = .ok (.iconst 1, 1) := by decide +kernel
theorem dX6_readSymbol_83 : decode cX6_readSymbol 83 = .ok (.iadd, 1) := by decide +kernel
theorem dX6_readSymbol_84 : decode cX6_readSymbol 84 = .ok (.ireturn, 1) := by decide +kernel
theorem dX6_add_0 : decode cX6_add 0 = .ok (.aload_n 0, 1) := by decide +kernel
theorem dX6_add_1 : decode cX6_add 1 = .ok (.getfield 28, 3) := by decide +kernel
theorem dX6_add_4 : decode cX6_add 4 = .ok (.sipush 400, 3) := by decide +kernel
theorem dX6_add_7 : decode cX6_add 7 = .ok (.if_icmp .le 4, 3) := by decide +kernel
theorem dX6_add_10 : decode cX6_add 10 = .ok (.return_, 1) := by decide +kernel
theorem dX6_add_11 : decode cX6_add 11 = .ok (.aload_n 0, 1) := by decide +kernel
theorem dX6_add_12 : decode cX6_add 12 = .ok (.getfield 9, 3) := by decide +kernel
theorem dX6_add_15 : decode cX6_add 15 = .ok (.aload_n 0, 1) := by decide +kernel
theorem dX6_add_16 : decode cX6_add 16 = .ok (.getfield 28, 3) := by decide +kernel
theorem dX6_add_19 : decode cX6_add 19 = .ok (.iload_n 1, 1) := by decide +kernel
theorem dX6_add_20 : decode cX6_add 20 = .ok (.iastore, 1) := by decide +kernel
theorem dX6_add_21 : decode cX6_add 21 = .ok (.aload_n 0, 1) := by decide +kernel
theorem dX6_add_22 : decode cX6_add 22 = .ok (.getfield 15, 3) := by decide +kernel
theorem dX6_add_25 : decode cX6_add 25 = .ok (.aload_n 0, 1) := by decide +kernel
theorem dX6_add_26 : decode cX6_add 26 = .ok (.getfield 28, 3) := by decide +kernel
theorem dX6_add_29 : decode cX6_add 29 = .ok (.iload_n 2, 1) := by decide +kernel
theorem dX6_add_30 : decode cX6_add 30 = .ok (.iastore, 1) := by decide +kernel
theorem dX6_add_31 : decode cX6_add 31 = .ok (.aload_n 0, 1) := by decide +kernel
theorem dX6_add_32 : decode cX6_add 32 = .ok (.getfield 18, 3) := by decide +kernel
theorem dX6_add_35 : decode cX6_add 35 = .ok (.aload_n 0, 1) := by decide +kernel
theorem dX6_add_36 : decode cX6_add 36 = .ok (.getfield 28, 3) := by decide +kernel
theorem dX6_add_39 : decode cX6_add 39 = .ok (.iload_n 3, 1) := by decide +kernel
theorem dX6_add_40 : decode cX6_add 40 = .ok (.iload_n 2, 1) := by decide +kernel
theorem dX6_add_41 : decode cX6_add 41 = .ok (.isub, 1) := by decide +kernel
theorem dX6_add_42 : decode cX6_add 42 = .ok (.iastore, 1) := by decide +kernel
theorem dX6_add_43 : decode cX6_add 43 = .ok (.aload_n 0, 1) := by decide +kernel
theorem dX6_add_44 : decode cX6_add 44 = .ok (.getfield 21, 3) := by decide +kernel
theorem dX6_add_47 : decode cX6_add 47 = .ok (.aload_n 0, 1) := by decide +kernel
theorem dX6_add_48 : decode cX6_add 48 = .ok (.getfield 28, 3) := by decide +kernel
theorem dX6_add_51 : decode cX6_add 51 = .ok (.iconst 0, 1) := by decide +kernel
theorem dX6_add_52 : decode cX6_add 52 = .ok (.iastore, 1) := by decide +kernel
theorem dX6_add_53 : decode cX6_add 53 = .ok (.aload_n 0, 1) := by decide +kernel
theorem dX6_add_54 : decode cX6_add 54 = .ok (.dup, 1) := by decide +kernel
theorem dX6_add_55 : decode cX6_add 55 = .ok (.getfield 28, 3) := by decide +kernel
theorem dX6_add_58 : decode cX6_add 58 = .ok (.iconst 1, 1) := by decide +kernel
theorem dX6_add_59 : decode cX6_add 59 = .ok (.iadd, 1) := by decide +kernel
theorem dX6_add_60 : decode cX6_add 60 = .ok (.putfield 28, 3) := by decide +kernel
theorem dX6_add_63 : decode cX6_add 63 = .ok (.return_, 1) := by decide +kernel
theorem dX6_keyword_0 : decode cX6_keyword 0 = .ok (.iload_n 0, 1) := by decide +kernel
theorem dX6_keyword_1 : decode cX6_keyword 1 = .ok (.tableswitch 197 128 153 #[119, 122, 125, 128, 131, 134, 137, 140, 143, 146, 149, 152, 155, 158, 161, 164, 167, 170, 173, 176, 179, 182, 185, 188, 191, 194], 119) := by decide +kernel
theorem dX6_keyword_120 : decode cX6_keyword 120 = .ok (.ldc 97, 2) := by decide +kernel
theorem dX6_keyword_122 : decode cX6_keyword 122 = .ok (.areturn, 1) := by decide +kernel
theorem dX6_keyword_123 : decode cX6_keyword 123 = .ok (.ldc 99, 2) := by decide +kernel
theorem dX6_keyword_125 : decode cX6_keyword 125 = .ok (.areturn, 1) := by decide +kernel
theorem dX6_keyword_126 : decode cX6_keyword 126 = .ok (.ldc 101, 2) := by decide +kernel
theorem dX6_keyword_128 : decode cX6_keyword 128 = .ok (.areturn, 1) := by decide +kernel
theorem dX6_keyword_129 : decode cX6_keyword 129 = .ok (.ldc 103, 2) := by decide +kernel
theorem dX6_keyword_131 : decode cX6_keyword 131 = .ok (.areturn, 1) := by decide +kernel
theorem dX6_keyword_132 : decode cX6_keyword 132 = .ok (.ldc 105, 2) := by decide +kernel
theorem dX6_keyword_134 : decode cX6_keyword 134 = .ok (.areturn, 1) := by decide +kernel
theorem dX6_keyword_135 : decode cX6_keyword 135 = .ok (.ldc 107, 2) := by decide +kernel
theorem dX6_keyword_137 : decode cX6_keyword 137 = .ok (.areturn, 1) := by decide +kernel
theorem dX6_keyword_138 : decode cX6_keyword 138 = .ok (.ldc 109, 2) := by decide +kernel
theorem dX6_keyword_140 : decode cX6_keyword 140 = .ok (.areturn, 1) := by decide +kernel
theorem dX6_keyword_141 : decode cX6_keyword 141 = .ok (.ldc 111, 2) := by decide +kernel
theorem dX6_keyword_143 : decode cX6_keyword 143 = .ok (.areturn, 1) := by decide +kernel
theorem dX6_keyword_144 : decode cX6_keyword 144 = .ok (.ldc 113, 2) := by decide +kernel
theorem dX6_keyword_146 : decode cX6_keyword 146 = .ok (.areturn, 1) := by decide +kernel
theorem dX6_keyword_147 : decode cX6_keyword 147 = .ok (.ldc 115, 2) := by decide +kernel
theorem dX6_keyword_149 : decode cX6_keyword 149 = .ok (.areturn, 1) := by decide +kernel
theorem dX6_keyword_150 : decode cX6_keyword 150 = .ok (.ldc 117, 2) := by decide +kernel
theorem dX6_keyword_152 : decode cX6_keyword 152 = .ok (.areturn, 1) := by decide +kernel
theorem dX6_keyword_153 : decode cX6_keyword 153 = .ok (.ldc 119, 2) := by decide +kernel
theorem dX6_keyword_155 : decode cX6_keyword 155 = .ok (.areturn, 1) := by decide +kernel
theorem dX6_keyword_156 : decode cX6_keyword 156 = .ok (.ldc 121, 2) := by decide +kernel
theorem dX6_keyword_158 : decode cX6_keyword 158 = .ok (.areturn, 1) := by decide +kernel
theorem dX6_keyword_159 : decode cX6_keyword 159 = .ok (.ldc 123, 2) := by decide +kernel
theorem dX6_keyword_161 : decode cX6_keyword 161 = .ok (.areturn, 1) := by decide +kernel
theorem dX6_keyword_162 : decode cX6_keyword 162 = .ok (.ldc 125, 2) := by decide +kernel
theorem dX6_keyword_164 : decode cX6_keyword 164 = .ok (.areturn, 1) := by decide +kernel
theorem dX6_keyword_165 : decode cX6_keyword 165 = .ok (.ldc 127, 2) := by decide +kernel
theorem dX6_keyword_167 : decode cX6_keyword 167 = .ok (.areturn, 1) := by decide +kernel
theorem dX6_keyword_168 : decode cX6_keyword 168 = .ok (.ldc 129, 2) := by decide +kernel
theorem dX6_keyword_170 : decode cX6_keyword 170 = .ok (.areturn, 1) := by decide +kernel
theorem dX6_keyword_171 : decode cX6_keyword 171 = .ok (.ldc 131, 2) := by decide +kernel
theorem dX6_keyword_173 : decode cX6_keyword 173 = .ok (.areturn, 1) := by decide +kernel
theorem dX6_keyword_174 : decode cX6_keyword 174 = .ok (.ldc 133, 2) := by decide +kernel
theorem dX6_keyword_176 : decode cX6_keyword 176 = .ok (.areturn, 1) := by decide +kernel
theorem dX6_keyword_177 : decode cX6_keyword 177 = .ok (.ldc 135, 2) := by decide +kernel
theorem dX6_keyword_179 : decode cX6_keyword 179 = .ok (.areturn, 1) := by decide +kernel
theorem dX6_keyword_180 : decode cX6_keyword 180 = .ok (.ldc 137, 2) := by decide +kernel
theorem dX6_keyword_182 : decode cX6_keyword 182 = .ok (.areturn, 1) := by decide +kernel
theorem dX6_keyword_183 : decode cX6_keyword 183 = .ok (.ldc 139, 2) := by decide +kernel
theorem dX6_keyword_185 : decode cX6_keyword 185 = .ok (.areturn, 1) := by decide +kernel
theorem dX6_keyword_186 : decode cX6_keyword 186 = .ok (.ldc 141, 2) := by decide +kernel
theorem dX6_keyword_188 : decode cX6_keyword 188 = .ok (.areturn, 1) := by decide +kernel
theorem dX6_keyword_189 : decode cX6_keyword 189 = .ok (.ldc 143, 2) := by decide +kernel
theorem dX6_keyword_191 : decode cX6_keyword 191 = .ok (.areturn, 1) := by decide +kernel
theorem dX6_keyword_192 : decode cX6_keyword 192 = .ok (.ldc 145, 2) := by decide +kernel
theorem dX6_keyword_194 : decode cX6_keyword 194 = .ok (.areturn, 1) := by decide +kernel
theorem dX6_keyword_195 : decode cX6_keyword 195 = .ok (.ldc 147, 2) := by decide +kernel
theorem dX6_keyword_197 : decode cX6_keyword 197 = .ok (.areturn, 1) := by decide +kernel
theorem dX6_keyword_198 : decode cX6_keyword 198 = .ok (.ldc 149, 2) := by decide +kernel
theorem dX6_keyword_200 : decode cX6_keyword 200 = .ok (.areturn, 1) := by decide +kernel
theorem dX7_init_0 : decode cX7_init 0 = .ok (.aload_n 0, 1) := by decide +kernel
theorem dX7_init_1 : decode cX7_init 1 = .ok (.invokespecial 3, 3) := by decide +kernel
theorem dX7_init_4 : decode cX7_init 4 = .ok (.aload_n 0, 1) := by decide +kernel
theorem dX7_init_5 : decode cX7_init 5 = .ok (.new 9, 3) := by decide +kernel
theorem dX7_init_8 : decode cX7_init 8 = .ok (.dup, 1) := by decide +kernel
theorem dX7_init_9 : decode cX7_init 9 = .ok (.invokespecial 11, 3) := by decide +kernel
theorem dX7_init_12 : decode cX7_init 12 = .ok (.putfield 12, 3) := by decide +kernel
theorem dX7_init_15 : decode cX7_init 15 = .ok (.aload_n 0, 1) := by decide +kernel
theorem dX7_init_16 : decode cX7_init 16 = .ok (.new 18, 3) := by decide +kernel
theorem dX7_init_19 : decode cX7_init 19 = .ok (.dup, 1) := by decide +kernel
theorem dX7_init_20 : decode cX7_init 20 = .ok (.invokespecial 20, 3) := by decide +kernel
theorem dX7_init_23 : decode cX7_init 23 = .ok (.putfield 21, 3) := by decide +kernel
theorem dX7_init_26 : decode cX7_init 26 = .ok (.aload_n 0, 1) := by decide +kernel
theorem dX7_init_27 : decode cX7_init 27 = .ok (.sipush 400, 3) := by decide +kernel
theorem dX7_init_30 : decode cX7_init 30 = .ok (.newarray .int, 2) := by decide +kernel
theorem dX7_init_32 : decode cX7_init 32 = .ok (.putfield 25, 3) := by decide +kernel
theorem dX7_init_35 : decode cX7_init 35 = .ok (.aload_n 0, 1) := by decide +kernel
theorem dX7_init_36 : decode cX7_init 36 = .ok (.aload_n 1, 1) := by decide +kernel
theorem dX7_init_37 : decode cX7_init 37 = .ok (.putfield 29, 3) := by decide +kernel
theorem dX7_init_40 : decode cX7_init 40 = .ok (.return_, 1) := by decide +kernel
theorem dX7_begin_0 : decode cX7_begin 0 = .ok (.aload_n 0, 1) := by decide +kernel
theorem dX7_begin_1 : decode cX7_begin 1 = .ok (.getfield 12, 3) := by decide +kernel
theorem dX7_begin_4 : decode cX7_begin 4 = .ok (.aload_n 0, 1) := by decide +kernel
theorem dX7_begin_5 : decode cX7_begin 5 = .ok (.getfield 29, 3) := by decide +kernel
theorem dX7_begin_8 : decode cX7_begin 8 = .ok (.invokevirtual 33, 3) := by decide +kernel
theorem dX7_begin_11 : decode cX7_begin 11 = .ok (.aload_n 0, 1) := by decide +kernel
theorem dX7_begin_12 : decode cX7_begin 12 = .ok (.getfield 21, 3) := by decide +kernel
theorem dX7_begin_15 : decode cX7_begin 15 = .ok (.invokevirtual 37, 3) := by decide +kernel
theorem dX7_begin_18 : decode cX7_begin 18 = .ok (.aload_n 0, 1) := by decide +kernel
theorem dX7_begin_19 : decode cX7_begin 19 = .ok (.iconst 0, 1) := by decide +kernel
theorem dX7_begin_20 : decode cX7_begin 20 = .ok (.putfield 39, 3) := by decide +kernel
theorem dX7_begin_23 : decode cX7_begin 23 = .ok (.return_, 1) := by decide +kernel
theorem dX7_copy_0 : decode cX7_copy 0 = .ok (.aload_n 0, 1) := by decide +kernel
theorem dX7_copy_1 : decode cX7_copy 1 = .ok (.getfield 12, 3) := by decide +kernel
theorem dX7_copy_4 : decode cX7_copy 4 = .ok (.aload_n 1, 1) := by decide +kernel
theorem dX7_copy_5 : decode cX7_copy 5 = .ok (.getfield 12, 3) := by decide +kernel
theorem dX7_copy_8 : decode cX7_copy 8 = .ok (.invokevirtual 43, 3) := by decide +kernel
theorem dX7_copy_11 : decode cX7_copy 11 = .ok (.aload_n 0, 1) := by decide +kernel
theorem dX7_copy_12 : decode cX7_copy 12 = .ok (.getfield 21, 3) := by decide +kernel
theorem dX7_copy_15 : decode cX7_copy 15 = .ok (.aload_n 1, 1) := by decide +kernel
theorem dX7_copy_16 : decode cX7_copy 16 = .ok (.getfield 21, 3) := by decide +kernel
theorem dX7_copy_19 : decode cX7_copy 19 = .ok (.invokevirtual 47, 3) := by decide +kernel
theorem dX7_copy_22 : decode cX7_copy 22 = .ok (.aload_n 0, 1) := by decide +kernel
theorem dX7_copy_23 : decode cX7_copy 23 = .ok (.aload_n 1, 1) := by decide +kernel
theorem dX7_copy_24 : decode cX7_copy 24 = .ok (.getfield 39, 3) := by decide +kernel
theorem dX7_copy_27 : decode cX7_copy 27 = .ok (.putfield 39, 3) := by decide +kernel
theorem dX7_copy_30 : decode cX7_copy 30 = .ok (.return_, 1) := by decide +kernel
theorem dX7_pass_0 : decode cX7_pass 0 = .ok (.iconst 0, 1) := by decide +kernel
theorem dX7_pass_1 : decode cX7_pass 1 = .ok (.istore_n 2, 1) := by decide +kernel
theorem dX7_pass_2 : decode cX7_pass 2 = .ok (.iload_n 2, 1) := by decide +kernel
theorem dX7_pass_3 : decode cX7_pass 3 = .ok (.iload_n 1, 1) := by decide +kernel
theorem dX7_pass_4 : decode cX7_pass 4 = .ok (.if_icmp .ge 76, 3) := by decide +kernel
theorem dX7_pass_7 : decode cX7_pass 7 = .ok (.aload_n 0, 1) := by decide +kernel
theorem dX7_pass_8 : decode cX7_pass 8 = .ok (.iconst 0, 1) := by decide +kernel
theorem dX7_pass_9 : decode cX7_pass 9 = .ok (.putfield 50, 3) := by decide +kernel
theorem dX7_pass_12 : decode cX7_pass 12 = .ok (.iconst 0, 1) := by decide +kernel
theorem dX7_pass_13 : decode cX7_pass 13 = .ok (.istore_n 3, 1) := by decide +kernel
theorem dX7_pass_14 : decode cX7_pass 14 = .ok (.iload_n 3, 1) := by decide +kernel
theorem dX7_pass_15 : decode cX7_pass 15 = .ok (.aload_n 0, 1) := by decide +kernel
theorem dX7_pass_16 : decode cX7_pass 16 = .ok (.getfield 29, 3) := by decide +kernel
theorem dX7_pass_19 : decode cX7_pass 19 = .ok (.getfield 53, 3) := by decide +kernel
theorem dX7_pass_22 : decode cX7_pass 22 = .ok (.if_icmp .ge 38, 3) := by decide +kernel
theorem dX7_pass_25 : decode cX7_pass 25 = .ok (.iload_n 3, 1) := by decide +kernel
theorem dX7_pass_26 : decode cX7_pass 26 = .ok (.sipush 400, 3) := by decide +kernel
theorem dX7_pass_29 : decode cX7_pass 29 = .ok (.if_icmp .ge 31, 3) := by decide +kernel
theorem dX7_pass_32 : decode cX7_pass 32 = .ok (.aload_n 0, 1) := by decide +kernel
theorem dX7_pass_33 : decode cX7_pass 33 = .ok (.aload_n 0, 1) := by decide +kernel
theorem dX7_pass_34 : decode cX7_pass 34 = .ok (.getfield 29, 3) := by decide +kernel
theorem dX7_pass_37 : decode cX7_pass 37 = .ok (.getfield 58, 3) := by decide +kernel
theorem dX7_pass_40 : decode cX7_pass 40 = .ok (.iload_n 3, 1) := by decide +kernel
theorem dX7_pass_41 : decode cX7_pass 41 = .ok (.iaload, 1) := by decide +kernel
theorem dX7_pass_42 : decode cX7_pass 42 = .ok (.aload_n 0, 1) := by decide +kernel
theorem dX7_pass_43 : decode cX7_pass 43 = .ok (.getfield 29, 3) := by decide +kernel
theorem dX7_pass_46 : decode cX7_pass 46 = .ok (.getfield 61, 3) := by decide +kernel
theorem dX7_pass_49 : decode cX7_pass 49 = .ok (.iload_n 3, 1) := by decide +kernel
theorem dX7_pass_50 : decode cX7_pass 50 = .ok (.iaload, 1) := by decide +kernel
theorem dX7_pass_51 : decode cX7_pass 51 = .ok (.invokevirtual 64, 3) := by decide +kernel
theorem dX7_pass_54 : decode cX7_pass 54 = .ok (.iinc 3 1, 3) := by decide +kernel
theorem dX7_pass_57 : decode cX7_pass 57 = .ok (.goto (-43), 3) := by decide +kernel
theorem dX7_pass_60 : decode cX7_pass 60 = .ok (.aload_n 0, 1) := by decide +kernel
theorem dX7_pass_61 : decode cX7_pass 61 = .ok (.invokevirtual 68, 3) := by decide +kernel
theorem dX7_pass_64 : decode cX7_pass 64 = .ok (.aload_n 0, 1) := by decide +kernel
theorem dX7_pass_65 : decode cX7_pass 65 = .ok (.dup, 1) := by decide +kernel
theorem dX7_pass_66 : decode cX7_pass 66 = .ok (.getfield 39, 3) := by decide +kernel
theorem dX7_pass_69 : decode cX7_pass 69 = .ok (.iconst 1, 1) := by decide +kernel
theorem dX7_pass_70 : decode cX7_pass 70 = .ok (.iadd, 1) := by decide +kernel
theorem dX7_pass_71 : decode cX7_pass 71 = .ok (.putfield 39, 3) := by decide +kernel
theorem dX7_pass_74 : decode cX7_pass 74 = .ok (.iinc 2 1, 3) := by decide +kernel
theorem dX7_pass_77 : decode cX7_pass 77 = .ok (.goto (-75), 3) := by decide +kernel
theorem dX7_pass_80 : decode cX7_pass 80 = .ok (.return_, 1) := by decide +kernel
theorem dX7_dropJob_0 : decode cX7_dropJob 0 = .ok (.aload_n 0, 1) := by decide +kernel
theorem dX7_dropJob_1 : decode cX7_dropJob 1 = .ok (.getfield 21, 3) := by decide +kernel
theorem dX7_dropJob_4 : decode cX7_dropJob 4 = .ok (.iload_n 1, 1) := by decide +kernel
theorem dX7_dropJob_5 : decode cX7_dropJob 5 = .ok (.invokevirtual 71, 3) := by decide +kernel
theorem dX7_dropJob_8 : decode cX7_dropJob 8 = .ok (.iload_n 1, 1) := by decide +kernel
theorem dX7_dropJob_9 : decode cX7_dropJob 9 = .ok (.ifCond .ne 11, 3) := by decide +kernel
theorem dX7_dropJob_12 : decode cX7_dropJob 12 = .ok (.aload_n 0, 1) := by decide +kernel
theorem dX7_dropJob_13 : decode cX7_dropJob 13 = .ok (.getfield 12, 3) := by decide +kernel
theorem dX7_dropJob_16 : decode cX7_dropJob 16 = .ok (.iconst (-1), 1) := by decide +kernel
theorem dX7_dropJob_17 : decode cX7_dropJob 17 = .ok (.invokevirtual 75, 3) := by decide +kernel
theorem dX7_dropJob_20 : decode cX7_dropJob 20 = .ok (.return_, 1) := by decide +kernel
theorem dX7_follow_0 : decode cX7_follow 0 = .ok (.iload_n 1, 1) := by decide +kernel
theorem dX7_follow_1 : decode cX7_follow 1 = .ok (.invokestatic 78, 3) := by decide +kernel
theorem dX7_follow_4 : decode cX7_follow 4 = .ok (.ifCond .eq 12, 3) := by decide +kernel
theorem dX7_follow_7 : decode cX7_follow 7 = .ok (.aload_n 0, 1) := by decide +kernel
theorem dX7_follow_8 : decode cX7_follow 8 = .ok (.iload_n 1, 1) := by decide +kernel
theorem dX7_follow_9 : decode cX7_follow 9 = .ok (.iload_n 2, 1) := by decide +kernel
theorem dX7_follow_10 : decode cX7_follow 10 = .ok (.invokevirtual 82, 3) := by decide +kernel
theorem dX7_follow_13 : decode cX7_follow 13 = .ok (.goto 79, 3) := by decide +kernel
theorem dX7_follow_16 : decode cX7_follow 16 = .ok (.iload_n 1, 1) := by decide +kernel
theorem dX7_follow_17 : decode cX7_follow 17 = .ok (.bipush 6, 2) := by decide +kernel
theorem dX7_follow_19 : decode cX7_follow 19 = .ok (.if_icmp .ne 15, 3) := by decide +kernel
theorem dX7_follow_22 : decode cX7_follow 22 = .ok (.aload_n 0, 1) := by decide +kernel
theorem dX7_follow_23 : decode cX7_follow 23 = .ok (.aload_n 0, 1) := by decide +kernel
theorem dX7_follow_24 : decode cX7_follow 24 = .ok (.invokevirtual 85, 3) := by decide +kernel
theorem dX7_follow_27 : decode cX7_follow 27 = .ok (.ineg, 1) := by decide +kernel
theorem dX7_follow_28 : decode cX7_follow 28 = .ok (.invokevirtual 89, 3) := by decide +kernel
theorem dX7_follow_31 : decode cX7_follow 31 = .ok (.goto 61, 3) := by decide +kernel
theorem dX7_follow_34 : decode cX7_follow 34 = .ok (.iload_n 1, 1) := by decide +kernel
theorem dX7_follow_35 : decode cX7_follow 35 = .ok (.sipush 149, 3) := by decide +kernel
theorem dX7_follow_38 : decode cX7_follow 38 = .ok (.if_icmp .ne 16, 3) := by decide +kernel
theorem dX7_follow_41 : decode cX7_follow 41 = .ok (.aload_n 0, 1) := by decide +kernel
theorem dX7_follow_42 : decode cX7_follow 42 = .ok (.iconst 1, 1) := by decide +kernel
theorem dX7_follow_43 : decode cX7_follow 43 = .ok (.aload_n 0, 1) := by decide +kernel
theorem dX7_follow_44 : decode cX7_follow 44 = .ok (.invokevirtual 85, 3) := by decide +kernel
theorem dX7_follow_47 : decode cX7_follow 47 = .ok (.isub, 1) := by decide +kernel
theorem dX7_follow_48 : decode cX7_follow 48 = .ok (.invokevirtual 89, 3) := by decide +kernel
theorem dX7_follow_51 : decode cX7_follow 51 = .ok (.goto 41, 3) := by decide +kernel
theorem dX7_follow_54 : decode cX7_follow 54 = .ok (.iload_n 1, 1) := by decide +kernel
theorem dX7_follow_55 : decode cX7_follow 55 = .ok (.invokestatic 92, 3) := by decide +kernel
theorem dX7_follow_58 : decode cX7_follow 58 = .ok (.ifCond .eq 24, 3) := by decide +kernel
theorem dX7_follow_61 : decode cX7_follow 61 = .ok (.aload_n 0, 1) := by decide +kernel
theorem dX7_follow_62 : decode cX7_follow 62 = .ok (.invokevirtual 85, 3) := by decide +kernel
theorem dX7_follow_65 : decode cX7_follow 65 = .ok (.istore_n 3, 1) := by decide +kernel
theorem dX7_follow_66 : decode cX7_follow 66 = .ok (.aload_n 0, 1) := by decide +kernel
theorem dX7_follow_67 : decode cX7_follow 67 = .ok (.iload_n 1, 1) := by decide +kernel
theorem dX7_follow_68 : decode cX7_follow 68 = .ok (.aload_n 0, 1) := by decide +kernel
theorem dX7_follow_69 : decode cX7_follow 69 = .ok (.invokevirtual 85, 3) := by decide +kernel
theorem dX7_follow_72 : decode cX7_follow 72 = .ok (.iload_n 3, 1) := by decide +kernel
theorem dX7_follow_73 : decode cX7_follow 73 = .ok (.invokestatic 95, 3) := by decide +kernel
theorem dX7_follow_76 : decode cX7_follow 76 = .ok (.invokevirtual 89, 3) := by decide +kernel
theorem dX7_follow_79 : decode cX7_follow 79 = .ok (.goto 13, 3) := by decide +kernel
theorem dX7_follow_82 : decode cX7_follow 82 = .ok (.aload_n 0, 1) := by decide +kernel
theorem dX7_follow_83 : decode cX7_follow 83 = .ok (.aload_n 0, 1) := by decide +kernel
theorem dX7_follow_84 : decode cX7_follow 84 = .ok (.iload_n 1, 1) := by decide +kernel
theorem dX7_follow_85 : decode cX7_follow 85 = .ok (.iload_n 2, 1) := by decide +kernel
theorem dX7_follow_86 : decode cX7_follow 86 = .ok (.invokevirtual 99, 3) := by decide +kernel
theorem dX7_follow_89 : decode cX7_follow 89 = .ok (.invokevirtual 89, 3) := by decide +kernel
theorem dX7_follow_92 : decode cX7_follow 92 = .ok (.return_, 1) := by decide +kernel
theorem dX7_push_0 : decode cX7_push 0 = .ok (.aload_n 0, 1) := by decide +kernel
theorem dX7_push_1 : decode cX7_push 1 = .ok (.getfield 50, 3) := by decide +kernel
theorem dX7_push_4 : decode cX7_push 4 = .ok (.sipush 400, 3) := by decide +kernel
theorem dX7_push_7 : decode cX7_push 7 = .ok (.if_icmp .ge 23, 3) := by decide +kernel
theorem dX7_push_10 : decode cX7_push 10 = .ok (.aload_n 0, 1) := by decide +kernel
theorem dX7_push_11 : decode cX7_push 11 = .ok (.getfield 25, 3) := by decide +kernel
theorem dX7_push_14 : decode cX7_push 14 = .ok (.aload_n 0, 1) := by decide +kernel
theorem dX7_push_15 : decode cX7_push 15 = .ok (.getfield 50, 3) := by decide +kernel
theorem dX7_push_18 : decode cX7_push 18 = .ok (.iload_n 1, 1) := by decide +kernel
theorem dX7_push_19 : decode cX7_push 19 = .ok (.iastore, 1) := by decide +kernel
theorem dX7_push_20 : decode cX7_push 20 = .ok (.aload_n 0, 1) := by decide +kernel
theorem dX7_push_21 : decode cX7_push 21 = .ok (.dup, 1) := by decide +kernel
theorem dX7_push_22 : decode cX7_push 22 = .ok (.getfield 50, 3) := by decide +kernel
theorem dX7_push_25 : decode cX7_push 25 = .ok (.iconst 1, 1) := by decide +kernel
theorem dX7_push_26 : decode cX7_push 26 = .ok (.iadd, 1) := by decide +kernel
theorem dX7_push_27 : decode cX7_push 27 = .ok (.putfield 50, 3) := by decide +kernel
theorem dX7_push_30 : decode cX7_push 30 = .ok (.return_, 1) := by decide +kernel
theorem dX7_pop_0 : decode cX7_pop 0 = .ok (.aload_n 0, 1) := by decide +kernel
theorem dX7_pop_1 : decode cX7_pop 1 = .ok (.getfield 50, 3) := by decide +kernel
theorem dX7_pop_4 : decode cX7_pop 4 = .ok (.ifCond .gt 5, 3) := by decide +kernel
theorem dX7_pop_7 : decode cX7_pop 7 = .ok (.iconst 0, 1) := by decide +kernel
theorem dX7_pop_8 : decode cX7_pop 8 = .ok (.ireturn, 1) := by decide +kernel
theorem dX7_pop_9 : decode cX7_pop 9 = .ok (.aload_n 0, 1) := by decide +kernel
theorem dX7_pop_10 : decode cX7_pop 10 = .ok (.dup, 1) := by decide +kernel
theorem dX7_pop_11 : decode cX7_pop 11 = .ok (.getfield 50, 3) := by decide +kernel
theorem dX7_pop_14 : decode cX7_pop 14 = .ok (.iconst 1, 1) := by decide +kernel
theorem dX7_pop_15 : decode cX7_pop 15 = .ok (.isub, 1) := by decide +kernel
theorem dX7_pop_16 : decode cX7_pop 16 = .ok (.putfield 50, 3) := by decide +kernel
theorem dX7_pop_19 : decode cX7_pop 19 = .ok (.aload_n 0, 1) := by decide +kernel
theorem dX7_pop_20 : decode cX7_pop 20 = .ok (.getfield 25, 3) := by decide +kernel
theorem dX7_pop_23 : decode cX7_pop 23 = .ok (.aload_n 0, 1) := by decide +kernel
theorem dX7_pop_24 : decode cX7_pop 24 = .ok (.getfield 50, 3) := by decide +kernel
theorem dX7_pop_27 : decode cX7_pop 27 = .ok (.iaload, 1) := by decide +kernel
theorem dX7_pop_28 : decode cX7_pop 28 = .ok (.ireturn, 1) := by decide +kernel
theorem dX7_carryOut_0 : decode cX7_carryOut 0 = .ok (.aload_n 0, 1) := by decide +kernel
theorem dX7_carryOut_1 : decode cX7_carryOut 1 = .ok (.invokevirtual 85, 3) := by decide +kernel
theorem dX7_carryOut_4 : decode cX7_carryOut 4 = .ok (.ifCond .eq 7, 3) := by decide +kernel
theorem dX7_carryOut_7 : decode cX7_carryOut 7 = .ok (.iconst 1, 1) := by decide +kernel
theorem dX7_carryOut_8 : decode cX7_carryOut 8 = .ok (.goto 4, 3) := by decide +kernel
theorem dX7_carryOut_11 : decode cX7_carryOut 11 = .ok (.iconst 0, 1) := by decide +kernel
theorem dX7_carryOut_12 : decode cX7_carryOut 12 = .ok (.istore_n 3, 1) := by decide +kernel
theorem dX7_carryOut_13 : decode cX7_carryOut 13 = .ok (.iload_n 1, 1) := by decide +kernel
theorem dX7_carryOut_14 : decode cX7_carryOut 14 = .ok (.invokestatic 103, 3) := by decide +kernel
theorem dX7_carryOut_17 : decode cX7_carryOut 17 = .ok (.ifCond .eq 10, 3) := by decide +kernel
theorem dX7_carryOut_20 : decode cX7_carryOut 20 = .ok (.aload_n 0, 1) := by decide +kernel
theorem dX7_carryOut_21 : decode cX7_carryOut 21 = .ok (.invokevirtual 85, 3) := by decide +kernel
theorem dX7_carryOut_24 : decode cX7_carryOut 24 = .ok (.goto 4, 3) := by decide +kernel
theorem dX7_carryOut_27 : decode cX7_carryOut 27 = .ok (.iconst 0, 1) := by decide +kernel
theorem dX7_carryOut_28 : decode cX7_carryOut 28 = .ok (.istore 4, 2) := by decide +kernel
theorem dX7_carryOut_30 : decode cX7_carryOut 30 = .ok (.iload_n 3, 1) := by decide +kernel
theorem dX7_carryOut_31 : decode cX7_carryOut 31 = .ok (.ifCond .ne 4, 3) := by decide +kernel
theorem dX7_carryOut_34 : decode cX7_carryOut 34 = .ok (.return_, 1) := by decide +kernel
theorem dX7_carryOut_35 : decode cX7_carryOut 35 = .ok (.iload_n 1, 1) := by decide +kernel
theorem dX7_carryOut_36 : decode cX7_carryOut 36 = .ok (.tableswitch 86 133 137 #[36, 86, 49, 62, 74], 36) := by decide +kernel
theorem dX7_carryOut_72 : decode cX7_carryOut 72 = .ok (.aload_n 0, 1) := by decide +kernel
theorem dX7_carryOut_73 : decode cX7_carryOut 73 = .ok (.getfield 12, 3) := by decide +kernel
theorem dX7_carryOut_76 : decode cX7_carryOut 76 = .ok (.iload_n 2, 1) := by decide +kernel
theorem dX7_carryOut_77 : decode cX7_carryOut 77 = .ok (.iload 4, 2) := by decide +kernel
theorem dX7_carryOut_79 : decode cX7_carryOut 79 = .ok (.invokevirtual 106, 3) := by decide +kernel
theorem dX7_carryOut_82 : decode cX7_carryOut 82 = .ok (.goto 49, 3) := by decide +kernel
theorem dX7_carryOut_85 : decode cX7_carryOut 85 = .ok (.aload_n 0, 1) := by decide +kernel
theorem dX7_carryOut_86 : decode cX7_carryOut 86 = .ok (.getfield 12, 3) := by decide +kernel
theorem dX7_carryOut_89 : decode cX7_carryOut 89 = .ok (.iload_n 2, 1) := by decide +kernel
theorem dX7_carryOut_90 : decode cX7_carryOut 90 = .ok (.iload 4, 2) := by decide +kernel
theorem dX7_carryOut_92 : decode cX7_carryOut 92 = .ok (.invokevirtual 109, 3) := by decide +kernel
theorem dX7_carryOut_95 : decode cX7_carryOut 95 = .ok (.goto 36, 3) := by decide +kernel
theorem dX7_carryOut_98 : decode cX7_carryOut 98 = .ok (.aload_n 0, 1) := by decide +kernel
theorem dX7_carryOut_99 : decode cX7_carryOut 99 = .ok (.getfield 21, 3) := by decide +kernel
theorem dX7_carryOut_102 : decode cX7_carryOut 102 = .ok (.iconst 0, 1) := by decide +kernel
theorem dX7_carryOut_103 : decode cX7_carryOut 103 = .ok (.iload_n 2, 1) := by decide +kernel
theorem dX7_carryOut_104 : decode cX7_carryOut 104 = .ok (.invokevirtual 112, 3) := by decide +kernel
theorem dX7_carryOut_107 : decode cX7_carryOut 107 = .ok (.goto 24, 3) := by decide +kernel
theorem dX7_carryOut_110 : decode cX7_carryOut 110 = .ok (.aload_n 0, 1) := by decide +kernel
theorem dX7_carryOut_111 : decode cX7_carryOut 111 = .ok (.getfield 21, 3) := by decide +kernel
theorem dX7_carryOut_114 : decode cX7_carryOut 114 = .ok (.iconst 1, 1) := by decide +kernel
theorem dX7_carryOut_115 : decode cX7_carryOut 115 = .ok (.iload_n 2, 1) := by decide +kernel
theorem dX7_carryOut_116 : decode cX7_carryOut 116 = .ok (.invokevirtual 112, 3) := by decide +kernel
theorem dX7_carryOut_119 : decode cX7_carryOut 119 = .ok (.goto 12, 3) := by decide +kernel
theorem dX7_carryOut_122 : decode cX7_carryOut 122 = .ok (.aload_n 0, 1) := by decide +kernel
theorem dX7_carryOut_123 : decode cX7_carryOut 123 = .ok (.getfield 21, 3) := by decide +kernel
theorem dX7_carryOut_126 : decode cX7_carryOut 126 = .ok (.iconst 2, 1) := by decide +kernel
theorem dX7_carryOut_127 : decode cX7_carryOut 127 = .ok (.iload_n 2, 1) := by decide +kernel
theorem dX7_carryOut_128 : decode cX7_carryOut 128 = .ok (.invokevirtual 112, 3) := by decide +kernel
theorem dX7_carryOut_131 : decode cX7_carryOut 131 = .ok (.return_, 1) := by decide +kernel
theorem dX7_valueOf_0 : decode cX7_valueOf 0 = .ok (.iload_n 1, 1) := by decide +kernel
theorem dX7_valueOf_1 : decode cX7_valueOf 1 = .ok (.lookupswitch 125 #[(3, 67), (7, 69), (140, 71), (141, 76), (142, 84), (147, 92), (148, 108)], 67) := by decide +kernel
theorem dX7_valueOf_68 : decode cX7_valueOf 68 = .ok (.iload_n 2, 1) := by decide +kernel
theorem dX7_valueOf_69 : decode cX7_valueOf 69 = .ok (.ireturn, 1) := by decide +kernel
theorem dX7_valueOf_70 : decode cX7_valueOf 70 = .ok (.iconst 1, 1) := by decide +kernel
theorem dX7_valueOf_71 : decode cX7_valueOf 71 = .ok (.ireturn, 1) := by decide +kernel
theorem dX7_valueOf_72 : decode cX7_valueOf 72 = .ok (.aload_n 0, 1) := by decide +kernel
theorem dX7_valueOf_73 : decode cX7_valueOf 73 = .ok (.getfield 39, 3) := by decide +kernel
theorem dX7_valueOf_76 : decode cX7_valueOf 76 = .ok (.ireturn, 1) := by decide +kernel
theorem dX7_valueOf_77 : decode cX7_valueOf 77 = .ok (.aload_n 0, 1) := by decide +kernel
theorem dX7_valueOf_78 : decode cX7_valueOf 78 = .ok (.getfield 12, 3) := by decide +kernel
theorem dX7_valueOf_81 : decode cX7_valueOf 81 = .ok (.invokevirtual 115, 3) := by decide +kernel
theorem dX7_valueOf_84 : decode cX7_valueOf 84 = .ok (.ireturn, 1) := by decide +kernel
theorem dX7_valueOf_85 : decode cX7_valueOf 85 = .ok (.aload_n 0, 1) := by decide +kernel
theorem dX7_valueOf_86 : decode cX7_valueOf 86 = .ok (.getfield 21, 3) := by decide +kernel
theorem dX7_valueOf_89 : decode cX7_valueOf 89 = .ok (.getfield 118, 3) := by decide +kernel
theorem dX7_valueOf_92 : decode cX7_valueOf 92 = .ok (.ireturn, 1) := by decide +kernel
theorem dX7_valueOf_93 : decode cX7_valueOf 93 = .ok (.aload_n 0, 1) := by decide +kernel
theorem dX7_valueOf_94 : decode cX7_valueOf 94 = .ok (.getfield 12, 3) := by decide +kernel
theorem dX7_valueOf_97 : decode cX7_valueOf 97 = .ok (.invokevirtual 121, 3) := by decide +kernel
theorem dX7_valueOf_100 : decode cX7_valueOf 100 = .ok (.ifCond .eq 7, 3) := by decide +kernel
theorem dX7_valueOf_103 : decode cX7_valueOf 103 = .ok (.iconst 1, 1) := by decide +kernel
theorem dX7_valueOf_104 : decode cX7_valueOf 104 = .ok (.goto 4, 3) := by decide +kernel
theorem dX7_valueOf_107 : decode cX7_valueOf 107 = .ok (.iconst 0, 1) := by decide +kernel
theorem dX7_valueOf_108 : decode cX7_valueOf 108 = .ok (.ireturn, 1) := by decide +kernel
theorem dX7_valueOf_109 : decode cX7_valueOf 109 = .ok (.aload_n 0, 1) := by decide +kernel
theorem dX7_valueOf_110 : decode cX7_valueOf 110 = .ok (.getfield 21, 3) := by decide +kernel
theorem dX7_valueOf_113 : decode cX7_valueOf 113 = .ok (.iload_n 2, 1) := by decide +kernel
theorem dX7_valueOf_114 : decode cX7_valueOf 114 = .ok (.invokevirtual 125, 3) := by decide +kernel
theorem dX7_valueOf_117 : decode cX7_valueOf 117 = .ok (.ifCond .eq 7, 3) := by decide +kernel
theorem dX7_valueOf_120 : decode cX7_valueOf 120 = .ok (.iconst 1, 1) := by decide +kernel
theorem dX7_valueOf_121 : decode cX7_valueOf 121 = .ok (.goto 4, 3) := by decide +kernel
theorem dX7_valueOf_124 : decode cX7_valueOf 124 = .ok (.iconst 0, 1) := by decide +kernel
theorem dX7_valueOf_125 : decode cX7_valueOf 125 = .ok (.ireturn, 1) := by decide +kernel
theorem dX7_valueOf_126 : decode cX7_valueOf 126 = .ok (.aload_n 0, 1) := by decide +kernel
theorem dX7_valueOf_127 : decode cX7_valueOf 127 = .ok (.getfield 12, 3) := by decide +kernel
theorem dX7_valueOf_130 : decode cX7_valueOf 130 = .ok (.iload_n 1, 1) := by decide +kernel
theorem dX7_valueOf_131 : decode cX7_valueOf 131 = .ok (.iload_n 2, 1) := by decide +kernel
theorem dX7_valueOf_132 : decode cX7_valueOf 132 = .ok (.invokevirtual 128, 3) := by decide +kernel
theorem dX7_valueOf_135 : decode cX7_valueOf 135 = .ok (.ireturn, 1) := by decide +kernel
theorem dX7_joinsTwo_0 : decode cX7_joinsTwo 0 = .ok (.iload_n 0, 1) := by decide +kernel
theorem dX7_joinsTwo_1 : decode cX7_joinsTwo 1 = .ok (.lookupswitch 117 #[(4, 115), (5, 115), (42, 115), (43, 115), (45, 115), (47, 115), (60, 115), (61, 115), (62, 115), (150, 115), (151, 115), (152, 115), (153, 115)], 115) := by decide +kernel
theorem dX7_joinsTwo_116 : decode cX7_joinsTwo 116 = .ok (.iconst 1, 1) := by decide +kernel
theorem dX7_joinsTwo_117 : decode cX7_joinsTwo 117 = .ok (.ireturn, 1) := by decide +kernel
theorem dX7_joinsTwo_118 : decode cX7_joinsTwo 118 = .ok (.iconst 0, 1) := by decide +kernel
theorem dX7_joinsTwo_119 : decode cX7_joinsTwo 119 = .ok (.ireturn, 1) := by decide +kernel
theorem dX7_join_0 : decode cX7_join 0 = .ok (.iload_n 0, 1) := by decide +kernel
theorem dX7_join_1 : decode cX7_join 1 = .ok (.lookupswitch 200 #[(4, 164), (5, 175), (42, 115), (43, 107), (45, 111), (47, 119), (60, 131), (61, 153), (62, 142), (150, 186), (151, 190), (152, 194)], 107) := by decide +kernel
theorem dX7_join_108 : decode cX7_join 108 = .ok (.iload_n 1, 1) := by decide +kernel
theorem dX7_join_109 : decode cX7_join 109 = .ok (.iload_n 2, 1) := by decide +kernel
theorem dX7_join_110 : decode cX7_join 110 = .ok (.iadd, 1) := by decide +kernel
theorem dX7_join_111 : decode cX7_join 111 = .ok (.ireturn, 1) := by decide +kernel
theorem dX7_join_112 : decode cX7_join 112 = .ok (.iload_n 1, 1) := by decide +kernel
theorem dX7_join_113 : decode cX7_join 113 = .ok (.iload_n 2, 1) := by decide +kernel
theorem dX7_join_114 : decode cX7_join 114 = .ok (.isub, 1) := by decide +kernel
theorem dX7_join_115 : decode cX7_join 115 = .ok (.ireturn, 1) := by decide +kernel
theorem dX7_join_116 : decode cX7_join 116 = .ok (.iload_n 1, 1) := by decide +kernel
theorem dX7_join_117 : decode cX7_join 117 = .ok (.iload_n 2, 1) := by decide +kernel
theorem dX7_join_118 : decode cX7_join 118 = .ok (.imul, 1) := by decide +kernel
theorem dX7_join_119 : decode cX7_join 119 = .ok (.ireturn, 1) := by decide +kernel
theorem dX7_join_120 : decode cX7_join 120 = .ok (.iload_n 2, 1) := by decide +kernel
theorem dX7_join_121 : decode cX7_join 121 = .ok (.ifCond .ne 7, 3) := by decide +kernel
theorem dX7_join_124 : decode cX7_join 124 = .ok (.iconst 0, 1) := by decide +kernel
theorem dX7_join_125 : decode cX7_join 125 = .ok (.goto 6, 3) := by decide +kernel
theorem dX7_join_128 : decode cX7_join 128 = .ok (.iload_n 1, 1) := by decide +kernel
theorem dX7_join_129 : decode cX7_join 129 = .ok (.iload_n 2, 1) := by decide +kernel
theorem dX7_join_130 : decode cX7_join 130 = .ok (.idiv, 1) := by decide +kernel
theorem dX7_join_131 : decode cX7_join 131 = .ok (.ireturn, 1) := by decide +kernel
theorem dX7_join_132 : decode cX7_join 132 = .ok (.iload_n 1, 1) := by decide +kernel
theorem dX7_join_133 : decode cX7_join 133 = .ok (.iload_n 2, 1) := by decide +kernel
theorem dX7_join_134 : decode cX7_join 134 = .ok (.if_icmp .ge 7, 3) := by decide +kernel
theorem dX7_join_137 : decode cX7_join 137 = .ok (.iconst 1, 1) := by decide +kernel
theorem dX7_join_138 : decode cX7_join 138 = .ok (.goto 4, 3) := by decide +kernel
theorem dX7_join_141 : decode cX7_join 141 = .ok (.iconst 0, 1) := by decide +kernel
theorem dX7_join_142 : decode cX7_join 142 = .ok (.ireturn, 1) := by decide +kernel
theorem dX7_join_143 : decode cX7_join 143 = .ok (.iload_n 1, 1) := by decide +kernel
theorem dX7_join_144 : decode cX7_join 144 = .ok (.iload_n 2, 1) := by decide +kernel
theorem dX7_join_145 : decode cX7_join 145 = .ok (.if_icmp .le 7, 3) := by decide +kernel
theorem dX7_join_148 : decode cX7_join 148 = .ok (.iconst 1, 1) := by decide +kernel
theorem dX7_join_149 : decode cX7_join 149 = .ok (.goto 4, 3) := by decide +kernel
theorem dX7_join_152 : decode cX7_join 152 = .ok (.iconst 0, 1) := by decide +kernel
theorem dX7_join_153 : decode cX7_join 153 = .ok (.ireturn, 1) := by decide +kernel
theorem dX7_join_154 : decode cX7_join 154 = .ok (.iload_n 1, 1) := by decide +kernel
theorem dX7_join_155 : decode cX7_join 155 = .ok (.iload_n 2, 1) := by decide +kernel
theorem dX7_join_156 : decode cX7_join 156 = .ok (.if_icmp .ne 7, 3) := by decide +kernel
theorem dX7_join_159 : decode cX7_join 159 = .ok (.iconst 1, 1) := by decide +kernel
theorem dX7_join_160 : decode cX7_join 160 = .ok (.goto 4, 3) := by decide +kernel
theorem dX7_join_163 : decode cX7_join 163 = .ok (.iconst 0, 1) := by decide +kernel
theorem dX7_join_164 : decode cX7_join 164 = .ok (.ireturn, 1) := by decide +kernel
theorem dX7_join_165 : decode cX7_join 165 = .ok (.iload_n 1, 1) := by decide +kernel
theorem dX7_join_166 : decode cX7_join 166 = .ok (.iload_n 2, 1) := by decide +kernel
theorem dX7_join_167 : decode cX7_join 167 = .ok (.if_icmp .gt 7, 3) := by decide +kernel
theorem dX7_join_170 : decode cX7_join 170 = .ok (.iconst 1, 1) := by decide +kernel
theorem dX7_join_171 : decode cX7_join 171 = .ok (.goto 4, 3) := by decide +kernel
theorem dX7_join_174 : decode cX7_join 174 = .ok (.iconst 0, 1) := by decide +kernel
theorem dX7_join_175 : decode cX7_join 175 = .ok (.ireturn, 1) := by decide +kernel
theorem dX7_join_176 : decode cX7_join 176 = .ok (.iload_n 1, 1) := by decide +kernel
theorem dX7_join_177 : decode cX7_join 177 = .ok (.iload_n 2, 1) := by decide +kernel
theorem dX7_join_178 : decode cX7_join 178 = .ok (.if_icmp .lt 7, 3) := by decide +kernel
theorem dX7_join_181 : decode cX7_join 181 = .ok (.iconst 1, 1) := by decide +kernel
theorem dX7_join_182 : decode cX7_join 182 = .ok (.goto 4, 3) := by decide +kernel
theorem dX7_join_185 : decode cX7_join 185 = .ok (.iconst 0, 1) := by decide +kernel
theorem dX7_join_186 : decode cX7_join 186 = .ok (.ireturn, 1) := by decide +kernel
theorem dX7_join_187 : decode cX7_join 187 = .ok (.iload_n 1, 1) := by decide +kernel
theorem dX7_join_188 : decode cX7_join 188 = .ok (.iload_n 2, 1) := by decide +kernel
theorem dX7_join_189 : decode cX7_join 189 = .ok (.iand, 1) := by decide +kernel
theorem dX7_join_190 : decode cX7_join 190 = .ok (.ireturn, 1) := by decide +kernel
theorem dX7_join_191 : decode cX7_join 191 = .ok (.iload_n 1, 1) := by decide +kernel
theorem dX7_join_192 : decode cX7_join 192 = .ok (.iload_n 2, 1) := by decide +kernel
theorem dX7_join_193 : decode cX7_join 193 = .ok (.ior, 1) := by decide +kernel
theorem dX7_join_194 : decode cX7_join 194 = .ok (.ireturn, 1) := by decide +kernel
theorem dX7_join_195 : decode cX7_join 195 = .ok (.iload_n 1, 1) := by decide +kernel
theorem dX7_join_196 : decode cX7_join 196 = .ok (.iload_n 2, 1) := by decide +kernel
theorem dX7_join_197 : decode cX7_join 197 = .ok (.invokestatic 129, 3) := by decide +kernel
theorem dX7_join_200 : decode cX7_join 200 = .ok (.ireturn, 1) := by decide +kernel
theorem dX7_join_201 : decode cX7_join 201 = .ok (.iload_n 1, 1) := by decide +kernel
theorem dX7_join_202 : decode cX7_join 202 = .ok (.iload_n 2, 1) := by decide +kernel
theorem dX7_join_203 : decode cX7_join 203 = .ok (.invokestatic 134, 3) := by decide +kernel
theorem dX7_join_206 : decode cX7_join 206 = .ok (.ireturn, 1) := by decide +kernel
theorem dX7_work_0 : decode cX7_work 0 = .ok (.aload_n 0, 1) := by decide +kernel
theorem dX7_work_1 : decode cX7_work 1 = .ok (.getfield 21, 3) := by decide +kernel
theorem dX7_work_4 : decode cX7_work 4 = .ok (.getfield 118, 3) := by decide +kernel
theorem dX7_work_7 : decode cX7_work 7 = .ok (.ifCond .ne 4, 3) := by decide +kernel
theorem dX7_work_10 : decode cX7_work 10 = .ok (.return_, 1) := by decide +kernel
theorem dX7_work_11 : decode cX7_work 11 = .ok (.aload_n 0, 1) := by decide +kernel
theorem dX7_work_12 : decode cX7_work 12 = .ok (.getfield 21, 3) := by decide +kernel
theorem dX7_work_15 : decode cX7_work 15 = .ok (.iconst 0, 1) := by decide +kernel
theorem dX7_work_16 : decode cX7_work 16 = .ok (.invokevirtual 137, 3) := by decide +kernel
theorem dX7_work_19 : decode cX7_work 19 = .ok (.istore_n 1, 1) := by decide +kernel
theorem dX7_work_20 : decode cX7_work 20 = .ok (.aload_n 0, 1) := by decide +kernel
theorem dX7_work_21 : decode cX7_work 21 = .ok (.getfield 21, 3) := by decide +kernel
theorem dX7_work_24 : decode cX7_work 24 = .ok (.iconst 0, 1) := by decide +kernel
theorem dX7_work_25 : decode cX7_work 25 = .ok (.invokevirtual 141, 3) := by decide +kernel
theorem dX7_work_28 : decode cX7_work 28 = .ok (.istore_n 2, 1) := by decide +kernel
theorem dX7_work_29 : decode cX7_work 29 = .ok (.aload_n 0, 1) := by decide +kernel
theorem dX7_work_30 : decode cX7_work 30 = .ok (.getfield 21, 3) := by decide +kernel
theorem dX7_work_33 : decode cX7_work 33 = .ok (.getfield 144, 3) := by decide +kernel
theorem dX7_work_36 : decode cX7_work 36 = .ok (.ifCond .ne 24, 3) := by decide +kernel
theorem dX7_work_39 : decode cX7_work 39 = .ok (.aload_n 0, 1) := by decide +kernel
theorem dX7_work_40 : decode cX7_work 40 = .ok (.getfield 21, 3) := by decide +kernel
theorem dX7_work_43 : decode cX7_work 43 = .ok (.aload_n 0, 1) := by decide +kernel
theorem dX7_work_44 : decode cX7_work 44 = .ok (.iload_n 1, 1) := by decide +kernel
theorem dX7_work_45 : decode cX7_work 45 = .ok (.iload_n 2, 1) := by decide +kernel
theorem dX7_work_46 : decode cX7_work 46 = .ok (.invokevirtual 147, 3) := by decide +kernel
theorem dX7_work_49 : decode cX7_work 49 = .ok (.putfield 144, 3) := by decide +kernel
theorem dX7_work_52 : decode cX7_work 52 = .ok (.aload_n 0, 1) := by decide +kernel
theorem dX7_work_53 : decode cX7_work 53 = .ok (.getfield 12, 3) := by decide +kernel
theorem dX7_work_56 : decode cX7_work 56 = .ok (.iload_n 2, 1) := by decide +kernel
theorem dX7_work_57 : decode cX7_work 57 = .ok (.invokevirtual 75, 3) := by decide +kernel
theorem dX7_work_60 : decode cX7_work 60 = .ok (.aload_n 0, 1) := by decide +kernel
theorem dX7_work_61 : decode cX7_work 61 = .ok (.getfield 21, 3) := by decide +kernel
theorem dX7_work_64 : decode cX7_work 64 = .ok (.dup, 1) := by decide +kernel
theorem dX7_work_65 : decode cX7_work 65 = .ok (.getfield 144, 3) := by decide +kernel
theorem dX7_work_68 : decode cX7_work 68 = .ok (.iconst 1, 1) := by decide +kernel
theorem dX7_work_69 : decode cX7_work 69 = .ok (.isub, 1) := by decide +kernel
theorem dX7_work_70 : decode cX7_work 70 = .ok (.putfield 144, 3) := by decide +kernel
theorem dX7_work_73 : decode cX7_work 73 = .ok (.aload_n 0, 1) := by decide +kernel
theorem dX7_work_74 : decode cX7_work 74 = .ok (.getfield 21, 3) := by decide +kernel
theorem dX7_work_77 : decode cX7_work 77 = .ok (.getfield 144, 3) := by decide +kernel
theorem dX7_work_80 : decode cX7_work 80 = .ok (.ifCond .ne 27, 3) := by decide +kernel
theorem dX7_work_83 : decode cX7_work 83 = .ok (.aload_n 0, 1) := by decide +kernel
theorem dX7_work_84 : decode cX7_work 84 = .ok (.iconst 0, 1) := by decide +kernel
theorem dX7_work_85 : decode cX7_work 85 = .ok (.invokevirtual 150, 3) := by decide +kernel
theorem dX7_work_88 : decode cX7_work 88 = .ok (.aload_n 0, 1) := by decide +kernel
theorem dX7_work_89 : decode cX7_work 89 = .ok (.getfield 21, 3) := by decide +kernel
theorem dX7_work_92 : decode cX7_work 92 = .ok (.dup, 1) := by decide +kernel
theorem dX7_work_93 : decode cX7_work 93 = .ok (.getfield 153, 3) := by decide +kernel
theorem dX7_work_96 : decode cX7_work 96 = .ok (.iconst 1, 1) := by decide +kernel
theorem dX7_work_97 : decode cX7_work 97 = .ok (.iadd, 1) := by decide +kernel
theorem dX7_work_98 : decode cX7_work 98 = .ok (.putfield 153, 3) := by decide +kernel
theorem dX7_work_101 : decode cX7_work 101 = .ok (.aload_n 0, 1) := by decide +kernel
theorem dX7_work_102 : decode cX7_work 102 = .ok (.iload_n 1, 1) := by decide +kernel
theorem dX7_work_103 : decode cX7_work 103 = .ok (.iload_n 2, 1) := by decide +kernel
theorem dX7_work_104 : decode cX7_work 104 = .ok (.invokevirtual 156, 3) := by decide +kernel
theorem dX7_work_107 : decode cX7_work 107 = .ok (.return_, 1) := by decide +kernel
theorem dX7_minutesFor_0 : decode cX7_minutesFor 0 = .ok (.iload_n 1, 1) := by decide +kernel
theorem dX7_minutesFor_1 : decode cX7_minutesFor 1 = .ok (.lookupswitch 66 #[(0, 27), (1, 47)], 27) := by decide +kernel
theorem dX7_minutesFor_28 : decode cX7_minutesFor 28 = .ok (.bipush 100, 2) := by decide +kernel
theorem dX7_minutesFor_30 : decode cX7_minutesFor 30 = .ok (.aload_n 0, 1) := by decide +kernel
theorem dX7_minutesFor_31 : decode cX7_minutesFor 31 = .ok (.getfield 12, 3) := by decide +kernel
theorem dX7_minutesFor_34 : decode cX7_minutesFor 34 = .ok (.sipush 129, 3) := by decide +kernel
theorem dX7_minutesFor_37 : decode cX7_minutesFor 37 = .ok (.iload_n 2, 1) := by decide +kernel
theorem dX7_minutesFor_38 : decode cX7_minutesFor 38 = .ok (.invokevirtual 128, 3) := by decide +kernel
theorem dX7_minutesFor_41 : decode cX7_minutesFor 41 = .ok (.isub, 1) := by decide +kernel
theorem dX7_minutesFor_42 : decode cX7_minutesFor 42 = .ok (.bipush 10, 2) := by decide +kernel
theorem dX7_minutesFor_44 : decode cX7_minutesFor 44 = .ok (.idiv, 1) := by decide +kernel
theorem dX7_minutesFor_45 : decode cX7_minutesFor 45 = .ok (.iconst 1, 1) := by decide +kernel
theorem dX7_minutesFor_46 : decode cX7_minutesFor 46 = .ok (.iadd, 1) := by decide +kernel
theorem dX7_minutesFor_47 : decode cX7_minutesFor 47 = .ok (.ireturn, 1) := by decide +kernel
theorem dX7_minutesFor_48 : decode cX7_minutesFor 48 = .ok (.aload_n 0, 1) := by decide +kernel
theorem dX7_minutesFor_49 : decode cX7_minutesFor 49 = .ok (.getfield 12, 3) := by decide +kernel
theorem dX7_minutesFor_52 : decode cX7_minutesFor 52 = .ok (.sipush 130, 3) := by decide +kernel
theorem dX7_minutesFor_55 : decode cX7_minutesFor 55 = .ok (.iload_n 2, 1) := by decide +kernel
theorem dX7_minutesFor_56 : decode cX7_minutesFor 56 = .ok (.invokevirtual 128, 3) := by decide +kernel
theorem dX7_minutesFor_59 : decode cX7_minutesFor 59 = .ok (.invokestatic 159, 3) := by decide +kernel
theorem dX7_minutesFor_62 : decode cX7_minutesFor 62 = .ok (.iconst 5, 1) := by decide +kernel
theorem dX7_minutesFor_63 : decode cX7_minutesFor 63 = .ok (.idiv, 1) := by decide +kernel
theorem dX7_minutesFor_64 : decode cX7_minutesFor 64 = .ok (.iconst 1, 1) := by decide +kernel
theorem dX7_minutesFor_65 : decode cX7_minutesFor 65 = .ok (.iadd, 1) := by decide +kernel
theorem dX7_minutesFor_66 : decode cX7_minutesFor 66 = .ok (.ireturn, 1) := by decide +kernel
theorem dX7_minutesFor_67 : decode cX7_minutesFor 67 = .ok (.bipush 20, 2) := by decide +kernel
theorem dX7_minutesFor_69 : decode cX7_minutesFor 69 = .ok (.ireturn, 1) := by decide +kernel
theorem dX7_finish_0 : decode cX7_finish 0 = .ok (.iload_n 1, 1) := by decide +kernel
theorem dX7_finish_1 : decode cX7_finish 1 = .ok (.lookupswitch 50 #[(0, 27), (1, 38)], 27) := by decide +kernel
theorem dX7_finish_28 : decode cX7_finish 28 = .ok (.aload_n 0, 1) := by decide +kernel
theorem dX7_finish_29 : decode cX7_finish 29 = .ok (.getfield 12, 3) := by decide +kernel
theorem dX7_finish_32 : decode cX7_finish 32 = .ok (.iload_n 2, 1) := by decide +kernel
theorem dX7_finish_33 : decode cX7_finish 33 = .ok (.invokevirtual 162, 3) := by decide +kernel
theorem dX7_finish_36 : decode cX7_finish 36 = .ok (.goto 23, 3) := by decide +kernel
theorem dX7_finish_39 : decode cX7_finish 39 = .ok (.aload_n 0, 1) := by decide +kernel
theorem dX7_finish_40 : decode cX7_finish 40 = .ok (.getfield 12, 3) := by decide +kernel
theorem dX7_finish_43 : decode cX7_finish 43 = .ok (.iload_n 2, 1) := by decide +kernel
theorem dX7_finish_44 : decode cX7_finish 44 = .ok (.iconst 0, 1) := by decide +kernel
theorem dX7_finish_45 : decode cX7_finish 45 = .ok (.invokevirtual 165, 3) := by decide +kernel
theorem dX7_finish_48 : decode cX7_finish 48 = .ok (.goto 11, 3) := by decide +kernel
theorem dX7_finish_51 : decode cX7_finish 51 = .ok (.aload_n 0, 1) := by decide +kernel
theorem dX7_finish_52 : decode cX7_finish 52 = .ok (.getfield 12, 3) := by decide +kernel
theorem dX7_finish_55 : decode cX7_finish 55 = .ok (.iload_n 2, 1) := by decide +kernel
theorem dX7_finish_56 : decode cX7_finish 56 = .ok (.invokevirtual 168, 3) := by decide +kernel
theorem dX7_finish_59 : decode cX7_finish 59 = .ok (.return_, 1) := by decide +kernel
theorem dX8_init_0 : decode cX8_init 0 = .ok (.aload_n 0, 1) := by decide +kernel
theorem dX8_init_1 : decode cX8_init 1 = .ok (.invokespecial 1, 3) := by decide +kernel
theorem dX8_init_4 : decode cX8_init 4 = .ok (.aload_n 0, 1) := by decide +kernel
theorem dX8_init_5 : decode cX8_init 5 = .ok (.new 7, 3) := by decide +kernel
theorem dX8_init_8 : decode cX8_init 8 = .ok (.dup, 1) := by decide +kernel
theorem dX8_init_9 : decode cX8_init 9 = .ok (.invokespecial 9, 3) := by decide +kernel
theorem dX8_init_12 : decode cX8_init 12 = .ok (.putfield 10, 3) := by decide +kernel
theorem dX8_init_15 : decode cX8_init 15 = .ok (.aload_n 0, 1) := by decide +kernel
theorem dX8_init_16 : decode cX8_init 16 = .ok (.new 16, 3) := by decide +kernel
theorem dX8_init_19 : decode cX8_init 19 = .ok (.dup, 1) := by decide +kernel
theorem dX8_init_20 : decode cX8_init 20 = .ok (.aload_n 0, 1) := by decide +kernel
theorem dX8_init_21 : decode cX8_init 21 = .ok (.getfield 10, 3) := by decide +kernel
theorem dX8_init_24 : decode cX8_init 24 = .ok (.invokespecial 18, 3) := by decide +kernel
theorem dX8_init_27 : decode cX8_init 27 = .ok (.putfield 21, 3) := by decide +kernel
theorem dX8_init_30 : decode cX8_init 30 = .ok (.aload_n 0, 1) := by decide +kernel
theorem dX8_init_31 : decode cX8_init 31 = .ok (.new 25, 3) := by decide +kernel
theorem dX8_init_34 : decode cX8_init 34 = .ok (.dup, 1) := by decide +kernel
theorem dX8_init_35 : decode cX8_init 35 = .ok (.invokespecial 27, 3) := by decide +kernel
theorem dX8_init_38 : decode cX8_init 38 = .ok (.putfield 28, 3) := by decide +kernel
theorem dX8_init_41 : decode cX8_init 41 = .ok (.aload_n 0, 1) := by decide +kernel
theorem dX8_init_42 : decode cX8_init 42 = .ok (.new 32, 3) := by decide +kernel
theorem dX8_init_45 : decode cX8_init 45 = .ok (.dup, 1) := by decide +kernel
theorem dX8_init_46 : decode cX8_init 46 = .ok (.aload_n 0, 1) := by decide +kernel
theorem dX8_init_47 : decode cX8_init 47 = .ok (.getfield 21, 3) := by decide +kernel
theorem dX8_init_50 : decode cX8_init 50 = .ok (.aload_n 0, 1) := by decide +kernel
theorem dX8_init_51 : decode cX8_init 51 = .ok (.getfield 28, 3) := by decide +kernel
theorem dX8_init_54 : decode cX8_init 54 = .ok (.invokespecial 34, 3) := by decide +kernel
theorem dX8_init_57 : decode cX8_init 57 = .ok (.putfield 37, 3) := by decide +kernel
theorem dX8_init_60 : decode cX8_init 60 = .ok (.aload_n 0, 1) := by decide +kernel
theorem dX8_init_61 : decode cX8_init 61 = .ok (.new 41, 3) := by decide +kernel
theorem dX8_init_64 : decode cX8_init 64 = .ok (.dup, 1) := by decide +kernel
theorem dX8_init_65 : decode cX8_init 65 = .ok (.aload_n 0, 1) := by decide +kernel
theorem dX8_init_66 : decode cX8_init 66 = .ok (.getfield 10, 3) := by decide +kernel
theorem dX8_init_69 : decode cX8_init 69 = .ok (.aload_n 0, 1) := by decide +kernel
theorem dX8_init_70 : decode cX8_init 70 = .ok (.getfield 21, 3) := by decide +kernel
theorem dX8_init_73 : decode cX8_init 73 = .ok (.aload_n 0, 1) := by decide +kernel
theorem dX8_init_74 : decode cX8_init 74 = .ok (.getfield 28, 3) := by decide +kernel
theorem dX8_init_77 : decode cX8_init 77 = .ok (.invokespecial 43, 3) := by decide +kernel
theorem dX8_init_80 : decode cX8_init 80 = .ok (.putfield 46, 3) := by decide +kernel
theorem dX8_init_83 : decode cX8_init 83 = .ok (.aload_n 0, 1) := by decide +kernel
theorem dX8_init_84 : decode cX8_init 84 = .ok (.new 25, 3) := by decide +kernel
theorem dX8_init_87 : decode cX8_init 87 = .ok (.dup, 1) := by decide +kernel
theorem dX8_init_88 : decode cX8_init 88 = .ok (.invokespecial 27, 3) := by decide +kernel
theorem dX8_init_91 : decode cX8_init 91 = .ok (.putfield 50, 3) := by decide +kernel
theorem dX8_init_94 : decode cX8_init 94 = .ok (.aload_n 0, 1) := by decide +kernel
theorem dX8_init_95 : decode cX8_init 95 = .ok (.new 53, 3) := by decide +kernel
theorem dX8_init_98 : decode cX8_init 98 = .ok (.dup, 1) := by decide +kernel
theorem dX8_init_99 : decode cX8_init 99 = .ok (.aload_n 0, 1) := by decide +kernel
theorem dX8_init_100 : decode cX8_init 100 = .ok (.getfield 50, 3) := by decide +kernel
theorem dX8_init_103 : decode cX8_init 103 = .ok (.invokespecial 55, 3) := by decide +kernel
theorem dX8_init_106 : decode cX8_init 106 = .ok (.putfield 58, 3) := by decide +kernel
theorem dX8_init_109 : decode cX8_init 109 = .ok (.aload_n 0, 1) := by decide +kernel
theorem dX8_init_110 : decode cX8_init 110 = .ok (.new 53, 3) := by decide +kernel
theorem dX8_init_113 : decode cX8_init 113 = .ok (.dup, 1) := by decide +kernel
theorem dX8_init_114 : decode cX8_init 114 = .ok (.aload_n 0, 1) := by decide +kernel
theorem dX8_init_115 : decode cX8_init 115 = .ok (.getfield 50, 3) := by decide +kernel
theorem dX8_init_118 : decode cX8_init 118 = .ok (.invokespecial 55, 3) := by decide +kernel
theorem dX8_init_121 : decode cX8_init 121 = .ok (.putfield 62, 3) := by decide +kernel
theorem dX8_init_124 : decode cX8_init 124 = .ok (.aload_n 0, 1) := by decide +kernel
theorem dX8_init_125 : decode cX8_init 125 = .ok (.iconst (-1), 1) := by decide +kernel
theorem dX8_init_126 : decode cX8_init 126 = .ok (.putfield 65, 3) := by decide +kernel
theorem dX8_init_129 : decode cX8_init 129 = .ok (.return_, 1) := by decide +kernel
theorem dX8_feed_0 : decode cX8_feed 0 = .ok (.aload_n 0, 1) := by decide +kernel
theorem dX8_feed_1 : decode cX8_feed 1 = .ok (.getfield 10, 3) := by decide +kernel
theorem dX8_feed_4 : decode cX8_feed 4 = .ok (.getfield 69, 3) := by decide +kernel
theorem dX8_feed_7 : decode cX8_feed 7 = .ok (.sipush 1980, 3) := by decide +kernel
theorem dX8_feed_10 : decode cX8_feed 10 = .ok (.if_icmp .le 13, 3) := by decide +kernel
theorem dX8_feed_13 : decode cX8_feed 13 = .ok (.new 72, 3) := by decide +kernel
theorem dX8_feed_16 : decode cX8_feed 16 = .ok (.dup, 1) := by decide +kernel
theorem dX8_feed_17 : decode cX8_feed 17 = .ok (.ldc 74, 2) := by decide +kernel
theorem dX8_feed_19 : decode cX8_feed 19 = .ok (.invokespecial 76, 3) := by decide +kernel
theorem dX8_feed_22 : decode cX8_feed 22 = .ok (.athrow, 1) := by decide +kernel
theorem dX8_feed_23 : decode cX8_feed 23 = .ok (.aload_n 0, 1) := by decide +kernel
theorem dX8_feed_24 : decode cX8_feed 24 = .ok (.getfield 10, 3) := by decide +kernel
theorem dX8_feed_27 : decode cX8_feed 27 = .ok (.iload_n 1, 1) := by decide +kernel
theorem dX8_feed_28 : decode cX8_feed 28 = .ok (.invokevirtual 79, 3) := by decide +kernel
theorem dX8_feed_31 : decode cX8_feed 31 = .ok (.aload_n 0, 1) := by decide +kernel
theorem dX8_feed_32 : decode cX8_feed 32 = .ok (.getfield 10, 3) := by decide +kernel
theorem dX8_feed_35 : decode cX8_feed 35 = .ok (.iload_n 2, 1) := by decide +kernel
theorem dX8_feed_36 : decode cX8_feed 36 = .ok (.invokevirtual 79, 3) := by decide +kernel
theorem dX8_feed_39 : decode cX8_feed 39 = .ok (.aload_n 0, 1) := by decide +kernel
theorem dX8_feed_40 : decode cX8_feed 40 = .ok (.getfield 10, 3) := by decide +kernel
theorem dX8_feed_43 : decode cX8_feed 43 = .ok (.iload_n 3, 1) := by decide +kernel
theorem dX8_feed_44 : decode cX8_feed 44 = .ok (.invokevirtual 79, 3) := by decide +kernel
theorem dX8_feed_47 : decode cX8_feed 47 = .ok (.aload_n 0, 1) := by decide +kernel
theorem dX8_feed_48 : decode cX8_feed 48 = .ok (.getfield 10, 3) := by decide +kernel
theorem dX8_feed_51 : decode cX8_feed 51 = .ok (.iload 4, 2) := by decide +kernel
theorem dX8_feed_53 : decode cX8_feed 53 = .ok (.invokevirtual 79, 3) := by decide +kernel
theorem dX8_feed_56 : decode cX8_feed 56 = .ok (.aload_n 0, 1) := by decide +kernel
theorem dX8_feed_57 : decode cX8_feed 57 = .ok (.getfield 10, 3) := by decide +kernel
theorem dX8_feed_60 : decode cX8_feed 60 = .ok (.iload 5, 2) := by decide +kernel
theorem dX8_feed_62 : decode cX8_feed 62 = .ok (.invokevirtual 79, 3) := by decide +kernel
theorem dX8_feed_65 : decode cX8_feed 65 = .ok (.aload_n 0, 1) := by decide +kernel
theorem dX8_feed_66 : decode cX8_feed 66 = .ok (.getfield 10, 3) := by decide +kernel
theorem dX8_feed_69 : decode cX8_feed 69 = .ok (.getfield 69, 3) := by decide +kernel
theorem dX8_feed_72 : decode cX8_feed 72 = .ok (.ireturn, 1) := by decide +kernel
theorem dX8_trim_0 : decode cX8_trim 0 = .ok (.iload_n 1, 1) := by decide +kernel
theorem dX8_trim_1 : decode cX8_trim 1 = .ok (.ifCond .lt 14, 3) := by decide +kernel
theorem dX8_trim_4 : decode cX8_trim 4 = .ok (.iload_n 1, 1) := by decide +kernel
theorem dX8_trim_5 : decode cX8_trim 5 = .ok (.aload_n 0, 1) := by decide +kernel
theorem dX8_trim_6 : decode cX8_trim 6 = .ok (.getfield 10, 3) := by decide +kernel
theorem dX8_trim_9 : decode cX8_trim 9 = .ok (.getfield 69, 3) := by decide +kernel
theorem dX8_trim_12 : decode cX8_trim 12 = .ok (.if_icmp .le 13, 3) := by decide +kernel
theorem dX8_trim_15 : decode cX8_trim 15 = .ok (.new 83, 3) := by decide +kernel
theorem dX8_trim_18 : decode cX8_trim 18 = .ok (.dup, 1) := by decide +kernel
theorem dX8_trim_19 : decode cX8_trim 19 = .ok (.ldc 85, 2) := by decide +kernel
theorem dX8_trim_21 : decode cX8_trim 21 = .ok (.invokespecial 87, 3) := by decide +kernel
theorem dX8_trim_24 : decode cX8_trim 24 = .ok (.athrow, 1) := by decide +kernel
theorem dX8_trim_25 : decode cX8_trim 25 = .ok (.aload_n 0, 1) := by decide +kernel
theorem dX8_trim_26 : decode cX8_trim 26 = .ok (.getfield 10, 3) := by decide +kernel
theorem dX8_trim_29 : decode cX8_trim 29 = .ok (.iload_n 1, 1) := by decide +kernel
theorem dX8_trim_30 : decode cX8_trim 30 = .ok (.putfield 69, 3) := by decide +kernel
theorem dX8_trim_33 : decode cX8_trim 33 = .ok (.iload_n 1, 1) := by decide +kernel
theorem dX8_trim_34 : decode cX8_trim 34 = .ok (.ireturn, 1) := by decide +kernel
theorem dX8_teach_0 : decode cX8_teach 0 = .ok (.aload_n 0, 1) := by decide +kernel
theorem dX8_teach_1 : decode cX8_teach 1 = .ok (.getfield 21, 3) := by decide +kernel
theorem dX8_teach_4 : decode cX8_teach 4 = .ok (.invokevirtual 88, 3) := by decide +kernel
theorem dX8_teach_7 : decode cX8_teach 7 = .ok (.iconst 1, 1) := by decide +kernel
theorem dX8_teach_8 : decode cX8_teach 8 = .ok (.istore_n 1, 1) := by decide +kernel
theorem dX8_teach_9 : decode cX8_teach 9 = .ok (.aload_n 0, 1) := by decide +kernel
theorem dX8_teach_10 : decode cX8_teach 10 = .ok (.getfield 37, 3) := by decide +kernel
theorem dX8_teach_13 : decode cX8_teach 13 = .ok (.invokevirtual 91, 3) := by decide +kernel
theorem dX8_teach_16 : decode cX8_teach 16 = .ok (.istore_n 2, 1) := by decide +kernel
theorem dX8_teach_17 : decode cX8_teach 17 = .ok (.iload_n 2, 1) := by decide +kernel
theorem dX8_teach_18 : decode cX8_teach 18 = .ok (.ifCond .ge 19, 3) := by decide +kernel
theorem dX8_teach_21 : decode cX8_teach 21 = .ok (.aload_n 0, 1) := by decide +kernel
theorem dX8_teach_22 : decode cX8_teach 22 = .ok (.getfield 46, 3) := by decide +kernel
theorem dX8_teach_25 : decode cX8_teach 25 = .ok (.invokevirtual 95, 3) := by decide +kernel
theorem dX8_teach_28 : decode cX8_teach 28 = .ok (.istore_n 2, 1) := by decide +kernel
theorem dX8_teach_29 : decode cX8_teach 29 = .ok (.aload_n 0, 1) := by decide +kernel
theorem dX8_teach_30 : decode cX8_teach 30 = .ok (.getfield 46, 3) := by decide +kernel
theorem dX8_teach_33 : decode cX8_teach 33 = .ok (.getfield 98, 3) := by decide +kernel
theorem dX8_teach_36 : decode cX8_teach 36 = .ok (.istore_n 1, 1) := by decide +kernel
theorem dX8_teach_37 : decode cX8_teach 37 = .ok (.aload_n 0, 1) := by decide +kernel
theorem dX8_teach_38 : decode cX8_teach 38 = .ok (.getfield 10, 3) := by decide +kernel
theorem dX8_teach_41 : decode cX8_teach 41 = .ok (.iconst 0, 1) := by decide +kernel
theorem dX8_teach_42 : decode cX8_teach 42 = .ok (.putfield 69, 3) := by decide +kernel
theorem dX8_teach_45 : decode cX8_teach 45 = .ok (.iload_n 2, 1) := by decide +kernel
theorem dX8_teach_46 : decode cX8_teach 46 = .ok (.ifCond .lt 17, 3) := by decide +kernel
theorem dX8_teach_49 : decode cX8_teach 49 = .ok (.aload_n 0, 1) := by decide +kernel
theorem dX8_teach_50 : decode cX8_teach 50 = .ok (.aload_n 0, 1) := by decide +kernel
theorem dX8_teach_51 : decode cX8_teach 51 = .ok (.getfield 21, 3) := by decide +kernel
theorem dX8_teach_54 : decode cX8_teach 54 = .ok (.iload_n 2, 1) := by decide +kernel
theorem dX8_teach_55 : decode cX8_teach 55 = .ok (.invokevirtual 101, 3) := by decide +kernel
theorem dX8_teach_58 : decode cX8_teach 58 = .ok (.putfield 65, 3) := by decide +kernel
theorem dX8_teach_61 : decode cX8_teach 61 = .ok (.iload_n 1, 1) := by decide +kernel
theorem dX8_teach_62 : decode cX8_teach 62 = .ok (.ireturn, 1) := by decide +kernel
theorem dX8_teach_63 : decode cX8_teach 63 = .ok (.aload_n 0, 1) := by decide +kernel
theorem dX8_teach_64 : decode cX8_teach 64 = .ok (.iconst (-1), 1) := by decide +kernel
theorem dX8_teach_65 : decode cX8_teach 65 = .ok (.putfield 65, 3) := by decide +kernel
theorem dX8_teach_68 : decode cX8_teach 68 = .ok (.aload_n 0, 1) := by decide +kernel
theorem dX8_teach_69 : decode cX8_teach 69 = .ok (.getfield 50, 3) := by decide +kernel
theorem dX8_teach_72 : decode cX8_teach 72 = .ok (.aload_n 0, 1) := by decide +kernel
theorem dX8_teach_73 : decode cX8_teach 73 = .ok (.getfield 28, 3) := by decide +kernel
theorem dX8_teach_76 : decode cX8_teach 76 = .ok (.aload_n 0, 1) := by decide +kernel
theorem dX8_teach_77 : decode cX8_teach 77 = .ok (.getfield 21, 3) := by decide +kernel
theorem dX8_teach_80 : decode cX8_teach 80 = .ok (.invokevirtual 105, 3) := by decide +kernel
theorem dX8_teach_83 : decode cX8_teach 83 = .ok (.aload_n 0, 1) := by decide +kernel
theorem dX8_teach_84 : decode cX8_teach 84 = .ok (.getfield 58, 3) := by decide +kernel
theorem dX8_teach_87 : decode cX8_teach 87 = .ok (.invokevirtual 109, 3) := by decide +kernel
theorem dX8_teach_90 : decode cX8_teach 90 = .ok (.iconst 0, 1) := by decide +kernel
theorem dX8_teach_91 : decode cX8_teach 91 = .ok (.ireturn, 1) := by decide +kernel
theorem dX8_errorAt_0 : decode cX8_errorAt 0 = .ok (.aload_n 0, 1) := by decide +kernel
theorem dX8_errorAt_1 : decode cX8_errorAt 1 = .ok (.getfield 65, 3) := by decide +kernel
theorem dX8_errorAt_4 : decode cX8_errorAt 4 = .ok (.ireturn, 1) := by decide +kernel
theorem dX8_mirrors_0 : decode cX8_mirrors 0 = .ok (.aload_n 0, 1) := by decide +kernel
theorem dX8_mirrors_1 : decode cX8_mirrors 1 = .ok (.getfield 58, 3) := by decide +kernel
theorem dX8_mirrors_4 : decode cX8_mirrors 4 = .ok (.getfield 112, 3) := by decide +kernel
theorem dX8_mirrors_7 : decode cX8_mirrors 7 = .ok (.getfield 116, 3) := by decide +kernel
theorem dX8_mirrors_10 : decode cX8_mirrors 10 = .ok (.ireturn, 1) := by decide +kernel
theorem dX8_orders_0 : decode cX8_orders 0 = .ok (.aload_n 0, 1) := by decide +kernel
theorem dX8_orders_1 : decode cX8_orders 1 = .ok (.getfield 50, 3) := by decide +kernel
theorem dX8_orders_4 : decode cX8_orders 4 = .ok (.getfield 121, 3) := by decide +kernel
theorem dX8_orders_7 : decode cX8_orders 7 = .ok (.ireturn, 1) := by decide +kernel
theorem dX8_minutes_0 : decode cX8_minutes 0 = .ok (.aload_n 0, 1) := by decide +kernel
theorem dX8_minutes_1 : decode cX8_minutes 1 = .ok (.getfield 58, 3) := by decide +kernel
theorem dX8_minutes_4 : decode cX8_minutes 4 = .ok (.getfield 124, 3) := by decide +kernel
theorem dX8_minutes_7 : decode cX8_minutes 7 = .ok (.ireturn, 1) := by decide +kernel
theorem dX8_tapeBytes_0 : decode cX8_tapeBytes 0 = .ok (.aload_n 0, 1) := by decide +kernel
theorem dX8_tapeBytes_1 : decode cX8_tapeBytes 1 = .ok (.getfield 10, 3) := by decide +kernel
theorem dX8_tapeBytes_4 : decode cX8_tapeBytes 4 = .ok (.getfield 69, 3) := by decide +kernel
theorem dX8_tapeBytes_7 : decode cX8_tapeBytes 7 = .ok (.ireturn, 1) := by decide +kernel
theorem dX8_lightAtEnd_0 : decode cX8_lightAtEnd 0 = .ok (.aload_n 0, 1) := by decide +kernel
theorem dX8_lightAtEnd_1 : decode cX8_lightAtEnd 1 = .ok (.getfield 58, 3) := by decide +kernel
theorem dX8_lightAtEnd_4 : decode cX8_lightAtEnd 4 = .ok (.getfield 112, 3) := by decide +kernel
theorem dX8_lightAtEnd_7 : decode cX8_lightAtEnd 7 = .ok (.invokevirtual 127, 3) := by decide +kernel
theorem dX8_lightAtEnd_10 : decode cX8_lightAtEnd 10 = .ok (.ireturn, 1) := by decide +kernel
theorem dX8_tiltAtEnd_0 : decode cX8_tiltAtEnd 0 = .ok (.aload_n 0, 1) := by decide +kernel
theorem dX8_tiltAtEnd_1 : decode cX8_tiltAtEnd 1 = .ok (.getfield 58, 3) := by decide +kernel
theorem dX8_tiltAtEnd_4 : decode cX8_tiltAtEnd 4 = .ok (.getfield 112, 3) := by decide +kernel
theorem dX8_tiltAtEnd_7 : decode cX8_tiltAtEnd 7 = .ok (.invokevirtual 130, 3) := by decide +kernel
theorem dX8_tiltAtEnd_10 : decode cX8_tiltAtEnd 10 = .ok (.ireturn, 1) := by decide +kernel
theorem dX8_isSeen_0 : decode cX8_isSeen 0 = .ok (.aload_n 0, 1) := by decide +kernel
theorem dX8_isSeen_1 : decode cX8_isSeen 1 = .ok (.getfield 58, 3) := by decide +kernel
theorem dX8_isSeen_4 : decode cX8_isSeen 4 = .ok (.getfield 112, 3) := by decide +kernel
theorem dX8_isSeen_7 : decode cX8_isSeen 7 = .ok (.invokevirtual 133, 3) := by decide +kernel
theorem dX8_isSeen_10 : decode cX8_isSeen 10 = .ok (.ireturn, 1) := by decide +kernel
theorem dX8_worstMirror_0 : decode cX8_worstMirror 0 = .ok (.aload_n 0, 1) := by decide +kernel
theorem dX8_worstMirror_1 : decode cX8_worstMirror 1 = .ok (.getfield 58, 3) := by decide +kernel
theorem dX8_worstMirror_4 : decode cX8_worstMirror 4 = .ok (.getfield 112, 3) := by decide +kernel
theorem dX8_worstMirror_7 : decode cX8_worstMirror 7 = .ok (.getfield 116, 3) := by decide +kernel
theorem dX8_worstMirror_10 : decode cX8_worstMirror 10 = .ok (.ifCond .ne 13, 3) := by decide +kernel
theorem dX8_worstMirror_13 : decode cX8_worstMirror 13 = .ok (.new 72, 3) := by decide +kernel
theorem dX8_worstMirror_16 : decode cX8_worstMirror 16 = .ok (.dup, 1) := by decide +kernel
theorem dX8_worstMirror_17 : decode cX8_worstMirror 17 = .ok (.ldc 137, 2) := by decide +kernel
theorem dX8_worstMirror_19 : decode cX8_worstMirror 19 = .ok (.invokespecial 76, 3) := by decide +kernel
theorem dX8_worstMirror_22 : decode cX8_worstMirror 22 = .ok (.athrow, 1) := by decide +kernel
theorem dX8_worstMirror_23 : decode cX8_worstMirror 23 = .ok (.aload_n 0, 1) := by decide +kernel
theorem dX8_worstMirror_24 : decode cX8_worstMirror 24 = .ok (.getfield 58, 3) := by decide +kernel
theorem dX8_worstMirror_27 : decode cX8_worstMirror 27 = .ok (.getfield 112, 3) := by decide +kernel
theorem dX8_worstMirror_30 : decode cX8_worstMirror 30 = .ok (.invokevirtual 139, 3) := by decide +kernel
theorem dX8_worstMirror_33 : decode cX8_worstMirror 33 = .ok (.ireturn, 1) := by decide +kernel
theorem dX8_clarityOf_0 : decode cX8_clarityOf 0 = .ok (.aload_n 0, 1) := by decide +kernel
theorem dX8_clarityOf_1 : decode cX8_clarityOf 1 = .ok (.iload_n 1, 1) := by decide +kernel
theorem dX8_clarityOf_2 : decode cX8_clarityOf 2 = .ok (.invokevirtual 142, 3) := by decide +kernel
theorem dX8_clarityOf_5 : decode cX8_clarityOf 5 = .ok (.aload_n 0, 1) := by decide +kernel
theorem dX8_clarityOf_6 : decode cX8_clarityOf 6 = .ok (.getfield 58, 3) := by decide +kernel
theorem dX8_clarityOf_9 : decode cX8_clarityOf 9 = .ok (.getfield 112, 3) := by decide +kernel
theorem dX8_clarityOf_12 : decode cX8_clarityOf 12 = .ok (.sipush 129, 3) := by decide +kernel
theorem dX8_clarityOf_15 : decode cX8_clarityOf 15 = .ok (.iload_n 1, 1) := by decide +kernel
theorem dX8_clarityOf_16 : decode cX8_clarityOf 16 = .ok (.invokevirtual 145, 3) := by decide +kernel
theorem dX8_clarityOf_19 : decode cX8_clarityOf 19 = .ok (.ireturn, 1) := by decide +kernel
theorem dX8_bestClarityOf_0 : decode cX8_bestClarityOf 0 = .ok (.aload_n 0, 1) := by decide +kernel
theorem dX8_bestClarityOf_1 : decode cX8_bestClarityOf 1 = .ok (.iload_n 1, 1) := by decide +kernel
theorem dX8_bestClarityOf_2 : decode cX8_bestClarityOf 2 = .ok (.invokevirtual 142, 3) := by decide +kernel
theorem dX8_bestClarityOf_5 : decode cX8_bestClarityOf 5 = .ok (.aload_n 0, 1) := by decide +kernel
theorem dX8_bestClarityOf_6 : decode cX8_bestClarityOf 6 = .ok (.getfield 58, 3) := by decide +kernel
theorem dX8_bestClarityOf_9 : decode cX8_bestClarityOf 9 = .ok (.getfield 112, 3) := by decide +kernel
theorem dX8_bestClarityOf_12 : decode cX8_bestClarityOf 12 = .ok (.sipush 145, 3) := by decide +kernel
theorem dX8_bestClarityOf_15 : decode cX8_bestClarityOf 15 = .ok (.iload_n 1, 1) := by decide +kernel
theorem dX8_bestClarityOf_16 : decode cX8_bestClarityOf 16 = .ok (.invokevirtual 145, 3) := by decide +kernel
theorem dX8_bestClarityOf_19 : decode cX8_bestClarityOf 19 = .ok (.ireturn, 1) := by decide +kernel
theorem dX8_offsetOf_0 : decode cX8_offsetOf 0 = .ok (.aload_n 0, 1) := by decide +kernel
theorem dX8_offsetOf_1 : decode cX8_offsetOf 1 = .ok (.iload_n 1, 1) := by decide +kernel
theorem dX8_offsetOf_2 : decode cX8_offsetOf 2 = .ok (.invokevirtual 142, 3) := by decide +kernel
theorem dX8_offsetOf_5 : decode cX8_offsetOf 5 = .ok (.aload_n 0, 1) := by decide +kernel
theorem dX8_offsetOf_6 : decode cX8_offsetOf 6 = .ok (.getfield 58, 3) := by decide +kernel
theorem dX8_offsetOf_9 : decode cX8_offsetOf 9 = .ok (.getfield 112, 3) := by decide +kernel
theorem dX8_offsetOf_12 : decode cX8_offsetOf 12 = .ok (.sipush 130, 3) := by decide +kernel
theorem dX8_offsetOf_15 : decode cX8_offsetOf 15 = .ok (.iload_n 1, 1) := by decide +kernel
theorem dX8_offsetOf_16 : decode cX8_offsetOf 16 = .ok (.invokevirtual 145, 3) := by decide +kernel
theorem dX8_offsetOf_19 : decode cX8_offsetOf 19 = .ok (.ireturn, 1) := by decide +kernel
theorem dX8_placeOf_0 : decode cX8_placeOf 0 = .ok (.aload_n 0, 1) := by decide +kernel
theorem dX8_placeOf_1 : decode cX8_placeOf 1 = .ok (.iload_n 1, 1) := by decide +kernel
theorem dX8_placeOf_2 : decode cX8_placeOf 2 = .ok (.invokevirtual 142, 3) := by decide +kernel
theorem dX8_placeOf_5 : decode cX8_placeOf 5 = .ok (.aload_n 0, 1) := by decide +kernel
theorem dX8_placeOf_6 : decode cX8_placeOf 6 = .ok (.getfield 58, 3) := by decide +kernel
theorem dX8_placeOf_9 : decode cX8_placeOf 9 = .ok (.getfield 112, 3) := by decide +kernel
theorem dX8_placeOf_12 : decode cX8_placeOf 12 = .ok (.iload_n 1, 1) := by decide +kernel
theorem dX8_placeOf_13 : decode cX8_placeOf 13 = .ok (.invokevirtual 149, 3) := by decide +kernel
theorem dX8_placeOf_16 : decode cX8_placeOf 16 = .ok (.ireturn, 1) := by decide +kernel
theorem dX8_lightBehind_0 : decode cX8_lightBehind 0 = .ok (.aload_n 0, 1) := by decide +kernel
theorem dX8_lightBehind_1 : decode cX8_lightBehind 1 = .ok (.iload_n 1, 1) := by decide +kernel
theorem dX8_lightBehind_2 : decode cX8_lightBehind 2 = .ok (.invokevirtual 142, 3) := by decide +kernel
theorem dX8_lightBehind_5 : decode cX8_lightBehind 5 = .ok (.aload_n 0, 1) := by decide +kernel
theorem dX8_lightBehind_6 : decode cX8_lightBehind 6 = .ok (.getfield 58, 3) := by decide +kernel
theorem dX8_lightBehind_9 : decode cX8_lightBehind 9 = .ok (.getfield 112, 3) := by decide +kernel
theorem dX8_lightBehind_12 : decode cX8_lightBehind 12 = .ok (.sipush 141, 3) := by decide +kernel
theorem dX8_lightBehind_15 : decode cX8_lightBehind 15 = .ok (.iload_n 1, 1) := by decide +kernel
theorem dX8_lightBehind_16 : decode cX8_lightBehind 16 = .ok (.invokevirtual 145, 3) := by decide +kernel
theorem dX8_lightBehind_19 : decode cX8_lightBehind 19 = .ok (.ireturn, 1) := by decide +kernel
theorem dX8_lostAt_0 : decode cX8_lostAt 0 = .ok (.aload_n 0, 1) := by decide +kernel
theorem dX8_lostAt_1 : decode cX8_lostAt 1 = .ok (.iload_n 1, 1) := by decide +kernel
theorem dX8_lostAt_2 : decode cX8_lostAt 2 = .ok (.invokevirtual 142, 3) := by decide +kernel
theorem dX8_lostAt_5 : decode cX8_lostAt 5 = .ok (.aload_n 0, 1) := by decide +kernel
theorem dX8_lostAt_6 : decode cX8_lostAt 6 = .ok (.getfield 58, 3) := by decide +kernel
theorem dX8_lostAt_9 : decode cX8_lostAt 9 = .ok (.getfield 112, 3) := by decide +kernel
theorem dX8_lostAt_12 : decode cX8_lostAt 12 = .ok (.sipush 143, 3) := by decide +kernel
theorem dX8_lostAt_15 : decode cX8_lostAt 15 = .ok (.iload_n 1, 1) := by decide +kernel
theorem dX8_lostAt_16 : decode cX8_lostAt 16 = .ok (.invokevirtual 145, 3) := by decide +kernel
theorem dX8_lostAt_19 : decode cX8_lostAt 19 = .ok (.ireturn, 1) := by decide +kernel
theorem dX8_tiltBehind_0 : decode cX8_tiltBehind 0 = .ok (.aload_n 0, 1) := by decide +kernel
theorem dX8_tiltBehind_1 : decode cX8_tiltBehind 1 = .ok (.iload_n 1, 1) := by decide +kernel
theorem dX8_tiltBehind_2 : decode cX8_tiltBehind 2 = .ok (.invokevirtual 142, 3) := by decide +kernel
theorem dX8_tiltBehind_5 : decode cX8_tiltBehind 5 = .ok (.aload_n 0, 1) := by decide +kernel
theorem dX8_tiltBehind_6 : decode cX8_tiltBehind 6 = .ok (.getfield 58, 3) := by decide +kernel
theorem dX8_tiltBehind_9 : decode cX8_tiltBehind 9 = .ok (.getfield 112, 3) := by decide +kernel
theorem dX8_tiltBehind_12 : decode cX8_tiltBehind 12 = .ok (.sipush 144, 3) := by decide +kernel
theorem dX8_tiltBehind_15 : decode cX8_tiltBehind 15 = .ok (.iload_n 1, 1) := by decide +kernel
theorem dX8_tiltBehind_16 : decode cX8_tiltBehind 16 = .ok (.invokevirtual 145, 3) := by decide +kernel
theorem dX8_tiltBehind_19 : decode cX8_tiltBehind 19 = .ok (.ireturn, 1) := by decide +kernel
theorem dX8_isCovered_0 : decode cX8_isCovered 0 = .ok (.aload_n 0, 1) := by decide +kernel
theorem dX8_isCovered_1 : decode cX8_isCovered 1 = .ok (.iload_n 1, 1) := by decide +kernel
theorem dX8_isCovered_2 : decode cX8_isCovered 2 = .ok (.invokevirtual 142, 3) := by decide +kernel
theorem dX8_isCovered_5 : decode cX8_isCovered 5 = .ok (.aload_n 0, 1) := by decide +kernel
theorem dX8_isCovered_6 : decode cX8_isCovered 6 = .ok (.getfield 58, 3) := by decide +kernel
theorem dX8_isCovered_9 : decode cX8_isCovered 9 = .ok (.getfield 112, 3) := by decide +kernel
theorem dX8_isCovered_12 : decode cX8_isCovered 12 = .ok (.getfield 152, 3) := by decide +kernel
theorem dX8_isCovered_15 : decode cX8_isCovered 15 = .ok (.iload_n 1, 1) := by decide +kernel
theorem dX8_isCovered_16 : decode cX8_isCovered 16 = .ok (.if_icmp .ne 7, 3) := by decide +kernel
theorem dX8_isCovered_19 : decode cX8_isCovered 19 = .ok (.iconst 1, 1) := by decide +kernel
theorem dX8_isCovered_20 : decode cX8_isCovered 20 = .ok (.goto 4, 3) := by decide +kernel
theorem dX8_isCovered_23 : decode cX8_isCovered 23 = .ok (.iconst 0, 1) := by decide +kernel
theorem dX8_isCovered_24 : decode cX8_isCovered 24 = .ok (.ireturn, 1) := by decide +kernel
theorem dX8_mirrorAt_0 : decode cX8_mirrorAt 0 = .ok (.iload_n 1, 1) := by decide +kernel
theorem dX8_mirrorAt_1 : decode cX8_mirrorAt 1 = .ok (.ifCond .lt 17, 3) := by decide +kernel
theorem dX8_mirrorAt_4 : decode cX8_mirrorAt 4 = .ok (.iload_n 1, 1) := by decide +kernel
theorem dX8_mirrorAt_5 : decode cX8_mirrorAt 5 = .ok (.aload_n 0, 1) := by decide +kernel
theorem dX8_mirrorAt_6 : decode cX8_mirrorAt 6 = .ok (.getfield 58, 3) := by decide +kernel
theorem dX8_mirrorAt_9 : decode cX8_mirrorAt 9 = .ok (.getfield 112, 3) := by decide +kernel
theorem dX8_mirrorAt_12 : decode cX8_mirrorAt 12 = .ok (.getfield 116, 3) := by decide +kernel
theorem dX8_mirrorAt_15 : decode cX8_mirrorAt 15 = .ok (.if_icmp .lt 13, 3) := by decide +kernel
theorem dX8_mirrorAt_18 : decode cX8_mirrorAt 18 = .ok (.new 155, 3) := by decide +kernel
theorem dX8_mirrorAt_21 : decode cX8_mirrorAt 21 = .ok (.dup, 1) := by decide +kernel
theorem dX8_mirrorAt_22 : decode cX8_mirrorAt 22 = .ok (.ldc 157, 2) := by decide +kernel
theorem dX8_mirrorAt_24 : decode cX8_mirrorAt 24 = .ok (.invokespecial 159, 3) := by decide +kernel
theorem dX8_mirrorAt_27 : decode cX8_mirrorAt 27 = .ok (.athrow, 1) := by decide +kernel
theorem dX8_mirrorAt_28 : decode cX8_mirrorAt 28 = .ok (.aload_n 0, 1) := by decide +kernel
theorem dX8_mirrorAt_29 : decode cX8_mirrorAt 29 = .ok (.getfield 58, 3) := by decide +kernel
theorem dX8_mirrorAt_32 : decode cX8_mirrorAt 32 = .ok (.getfield 112, 3) := by decide +kernel
theorem dX8_mirrorAt_35 : decode cX8_mirrorAt 35 = .ok (.iload_n 1, 1) := by decide +kernel
theorem dX8_mirrorAt_36 : decode cX8_mirrorAt 36 = .ok (.invokevirtual 160, 3) := by decide +kernel
theorem dX8_mirrorAt_39 : decode cX8_mirrorAt 39 = .ok (.ireturn, 1) := by decide +kernel
theorem dX8_jobs_0 : decode cX8_jobs 0 = .ok (.aload_n 0, 1) := by decide +kernel
theorem dX8_jobs_1 : decode cX8_jobs 1 = .ok (.getfield 58, 3) := by decide +kernel
theorem dX8_jobs_4 : decode cX8_jobs 4 = .ok (.getfield 163, 3) := by decide +kernel
theorem dX8_jobs_7 : decode cX8_jobs 7 = .ok (.getfield 167, 3) := by decide +kernel
theorem dX8_jobs_10 : decode cX8_jobs 10 = .ok (.ireturn, 1) := by decide +kernel
theorem dX8_jobsDone_0 : decode cX8_jobsDone 0 = .ok (.aload_n 0, 1) := by decide +kernel
theorem dX8_jobsDone_1 : decode cX8_jobsDone 1 = .ok (.getfield 58, 3) := by decide +kernel
theorem dX8_jobsDone_4 : decode cX8_jobsDone 4 = .ok (.getfield 163, 3) := by decide +kernel
theorem dX8_jobsDone_7 : decode cX8_jobsDone 7 = .ok (.getfield 172, 3) := by decide +kernel
theorem dX8_jobsDone_10 : decode cX8_jobsDone 10 = .ok (.ireturn, 1) := by decide +kernel
theorem dX8_kindOfJob_0 : decode cX8_kindOfJob 0 = .ok (.aload_n 0, 1) := by decide +kernel
theorem dX8_kindOfJob_1 : decode cX8_kindOfJob 1 = .ok (.iload_n 1, 1) := by decide +kernel
theorem dX8_kindOfJob_2 : decode cX8_kindOfJob 2 = .ok (.invokevirtual 175, 3) := by decide +kernel
theorem dX8_kindOfJob_5 : decode cX8_kindOfJob 5 = .ok (.aload_n 0, 1) := by decide +kernel
theorem dX8_kindOfJob_6 : decode cX8_kindOfJob 6 = .ok (.getfield 58, 3) := by decide +kernel
theorem dX8_kindOfJob_9 : decode cX8_kindOfJob 9 = .ok (.getfield 163, 3) := by decide +kernel
theorem dX8_kindOfJob_12 : decode cX8_kindOfJob 12 = .ok (.iload_n 1, 1) := by decide +kernel
theorem dX8_kindOfJob_13 : decode cX8_kindOfJob 13 = .ok (.invokevirtual 178, 3) := by decide +kernel
theorem dX8_kindOfJob_16 : decode cX8_kindOfJob 16 = .ok (.ireturn, 1) := by decide +kernel
theorem dX8_mirrorOfJob_0 : decode cX8_mirrorOfJob 0 = .ok (.aload_n 0, 1) := by decide +kernel
theorem dX8_mirrorOfJob_1 : decode cX8_mirrorOfJob 1 = .ok (.iload_n 1, 1) := by decide +kernel
theorem dX8_mirrorOfJob_2 : decode cX8_mirrorOfJob 2 = .ok (.invokevirtual 175, 3) := by decide +kernel
theorem dX8_mirrorOfJob_5 : decode cX8_mirrorOfJob 5 = .ok (.aload_n 0, 1) := by decide +kernel
theorem dX8_mirrorOfJob_6 : decode cX8_mirrorOfJob 6 = .ok (.getfield 58, 3) := by decide +kernel
theorem dX8_mirrorOfJob_9 : decode cX8_mirrorOfJob 9 = .ok (.getfield 163, 3) := by decide +kernel
theorem dX8_mirrorOfJob_12 : decode cX8_mirrorOfJob 12 = .ok (.iload_n 1, 1) := by decide +kernel
theorem dX8_mirrorOfJob_13 : decode cX8_mirrorOfJob 13 = .ok (.invokevirtual 181, 3) := by decide +kernel
theorem dX8_mirrorOfJob_16 : decode cX8_mirrorOfJob 16 = .ok (.ireturn, 1) := by decide +kernel
theorem dX8_minutesToGo_0 : decode cX8_minutesToGo 0 = .ok (.aload_n 0, 1) := by decide +kernel
theorem dX8_minutesToGo_1 : decode cX8_minutesToGo 1 = .ok (.getfield 58, 3) := by decide +kernel
theorem dX8_minutesToGo_4 : decode cX8_minutesToGo 4 = .ok (.getfield 163, 3) := by decide +kernel
theorem dX8_minutesToGo_7 : decode cX8_minutesToGo 7 = .ok (.getfield 182, 3) := by decide +kernel
theorem dX8_minutesToGo_10 : decode cX8_minutesToGo 10 = .ok (.ireturn, 1) := by decide +kernel
theorem dX8_orderJob_0 : decode cX8_orderJob 0 = .ok (.aload_n 0, 1) := by decide +kernel
theorem dX8_orderJob_1 : decode cX8_orderJob 1 = .ok (.iload_n 1, 1) := by decide +kernel
theorem dX8_orderJob_2 : decode cX8_orderJob 2 = .ok (.invokevirtual 142, 3) := by decide +kernel
theorem dX8_orderJob_5 : decode cX8_orderJob 5 = .ok (.iload_n 2, 1) := by decide +kernel
theorem dX8_orderJob_6 : decode cX8_orderJob 6 = .ok (.ifCond .lt 8, 3) := by decide +kernel
theorem dX8_orderJob_9 : decode cX8_orderJob 9 = .ok (.iload_n 2, 1) := by decide +kernel
theorem dX8_orderJob_10 : decode cX8_orderJob 10 = .ok (.iconst 2, 1) := by decide +kernel
theorem dX8_orderJob_11 : decode cX8_orderJob 11 = .ok (.if_icmp .le 13, 3) := by decide +kernel
theorem dX8_orderJob_14 : decode cX8_orderJob 14 = .ok (.new 83, 3) := by decide +kernel
theorem dX8_orderJob_17 : decode cX8_orderJob 17 = .ok (.dup, 1) := by decide +kernel
theorem dX8_orderJob_18 : decode cX8_orderJob 18 = .ok (.ldc 185, 2) := by decide +kernel
theorem dX8_orderJob_20 : decode cX8_orderJob 20 = .ok (.invokespecial 87, 3) := by decide +kernel
theorem dX8_orderJob_23 : decode cX8_orderJob 23 = .ok (.athrow, 1) := by decide +kernel
theorem dX8_orderJob_24 : decode cX8_orderJob 24 = .ok (.aload_n 0, 1) := by decide +kernel
theorem dX8_orderJob_25 : decode cX8_orderJob 25 = .ok (.getfield 58, 3) := by decide +kernel
theorem dX8_orderJob_28 : decode cX8_orderJob 28 = .ok (.getfield 163, 3) := by decide +kernel
theorem dX8_orderJob_31 : decode cX8_orderJob 31 = .ok (.iload_n 2, 1) := by decide +kernel
theorem dX8_orderJob_32 : decode cX8_orderJob 32 = .ok (.iload_n 1, 1) := by decide +kernel
theorem dX8_orderJob_33 : decode cX8_orderJob 33 = .ok (.invokevirtual 187, 3) := by decide +kernel
theorem dX8_orderJob_36 : decode cX8_orderJob 36 = .ok (.ifCond .ne 13, 3) := by decide +kernel
theorem dX8_orderJob_39 : decode cX8_orderJob 39 = .ok (.new 72, 3) := by decide +kernel
theorem dX8_orderJob_42 : decode cX8_orderJob 42 = .ok (.dup, 1) := by decide +kernel
theorem dX8_orderJob_43 : decode cX8_orderJob 43 = .ok (.ldc 191, 2) := by decide +kernel
theorem dX8_orderJob_45 : decode cX8_orderJob 45 = .ok (.invokespecial 76, 3) := by decide +kernel
theorem dX8_orderJob_48 : decode cX8_orderJob 48 = .ok (.athrow, 1) := by decide +kernel
theorem dX8_orderJob_49 : decode cX8_orderJob 49 = .ok (.aload_n 0, 1) := by decide +kernel
theorem dX8_orderJob_50 : decode cX8_orderJob 50 = .ok (.getfield 58, 3) := by decide +kernel
theorem dX8_orderJob_53 : decode cX8_orderJob 53 = .ok (.getfield 163, 3) := by decide +kernel
theorem dX8_orderJob_56 : decode cX8_orderJob 56 = .ok (.iload_n 2, 1) := by decide +kernel
theorem dX8_orderJob_57 : decode cX8_orderJob 57 = .ok (.iload_n 1, 1) := by decide +kernel
theorem dX8_orderJob_58 : decode cX8_orderJob 58 = .ok (.invokevirtual 193, 3) := by decide +kernel
theorem dX8_orderJob_61 : decode cX8_orderJob 61 = .ok (.aload_n 0, 1) := by decide +kernel
theorem dX8_orderJob_62 : decode cX8_orderJob 62 = .ok (.getfield 58, 3) := by decide +kernel
theorem dX8_orderJob_65 : decode cX8_orderJob 65 = .ok (.getfield 163, 3) := by decide +kernel
theorem dX8_orderJob_68 : decode cX8_orderJob 68 = .ok (.getfield 167, 3) := by decide +kernel
theorem dX8_orderJob_71 : decode cX8_orderJob 71 = .ok (.ireturn, 1) := by decide +kernel
theorem dX8_cancelJob_0 : decode cX8_cancelJob 0 = .ok (.aload_n 0, 1) := by decide +kernel
theorem dX8_cancelJob_1 : decode cX8_cancelJob 1 = .ok (.iload_n 1, 1) := by decide +kernel
theorem dX8_cancelJob_2 : decode cX8_cancelJob 2 = .ok (.invokevirtual 175, 3) := by decide +kernel
theorem dX8_cancelJob_5 : decode cX8_cancelJob 5 = .ok (.aload_n 0, 1) := by decide +kernel
theorem dX8_cancelJob_6 : decode cX8_cancelJob 6 = .ok (.getfield 58, 3) := by decide +kernel
theorem dX8_cancelJob_9 : decode cX8_cancelJob 9 = .ok (.getfield 163, 3) := by decide +kernel
theorem dX8_cancelJob_12 : decode cX8_cancelJob 12 = .ok (.iload_n 1, 1) := by decide +kernel
theorem dX8_cancelJob_13 : decode cX8_cancelJob 13 = .ok (.invokevirtual 181, 3) := by decide +kernel
theorem dX8_cancelJob_16 : decode cX8_cancelJob 16 = .ok (.istore_n 2, 1) := by decide +kernel
theorem dX8_cancelJob_17 : decode cX8_cancelJob 17 = .ok (.aload_n 0, 1) := by decide +kernel
theorem dX8_cancelJob_18 : decode cX8_cancelJob 18 = .ok (.getfield 58, 3) := by decide +kernel
theorem dX8_cancelJob_21 : decode cX8_cancelJob 21 = .ok (.iload_n 1, 1) := by decide +kernel
theorem dX8_cancelJob_22 : decode cX8_cancelJob 22 = .ok (.invokevirtual 197, 3) := by decide +kernel
theorem dX8_cancelJob_25 : decode cX8_cancelJob 25 = .ok (.iload_n 2, 1) := by decide +kernel
theorem dX8_cancelJob_26 : decode cX8_cancelJob 26 = .ok (.ireturn, 1) := by decide +kernel
theorem dX8_turnMirror_0 : decode cX8_turnMirror 0 = .ok (.aload_n 0, 1) := by decide +kernel
theorem dX8_turnMirror_1 : decode cX8_turnMirror 1 = .ok (.iload_n 1, 1) := by decide +kernel
theorem dX8_turnMirror_2 : decode cX8_turnMirror 2 = .ok (.invokevirtual 142, 3) := by decide +kernel
theorem dX8_turnMirror_5 : decode cX8_turnMirror 5 = .ok (.iload_n 2, 1) := by decide +kernel
theorem dX8_turnMirror_6 : decode cX8_turnMirror 6 = .ok (.bipush (-90), 2) := by decide +kernel
theorem dX8_turnMirror_8 : decode cX8_turnMirror 8 = .ok (.if_icmp .lt 9, 3) := by decide +kernel
theorem dX8_turnMirror_11 : decode cX8_turnMirror 11 = .ok (.iload_n 2, 1) := by decide +kernel
theorem dX8_turnMirror_12 : decode cX8_turnMirror 12 = .ok (.bipush 90, 2) := by decide +kernel
theorem dX8_turnMirror_14 : decode cX8_turnMirror 14 = .ok (.if_icmp .le 13, 3) := by decide +kernel
theorem dX8_turnMirror_17 : decode cX8_turnMirror 17 = .ok (.new 83, 3) := by decide +kernel
theorem dX8_turnMirror_20 : decode cX8_turnMirror 20 = .ok (.dup, 1) := by decide +kernel
theorem dX8_turnMirror_21 : decode cX8_turnMirror 21 = .ok (.ldc 200, 2) := by decide +kernel
theorem dX8_turnMirror_23 : decode cX8_turnMirror 23 = .ok (.invokespecial 87, 3) := by decide +kernel
theorem dX8_turnMirror_26 : decode cX8_turnMirror 26 = .ok (.athrow, 1) := by decide +kernel
theorem dX8_turnMirror_27 : decode cX8_turnMirror 27 = .ok (.aload_n 0, 1) := by decide +kernel
theorem dX8_turnMirror_28 : decode cX8_turnMirror 28 = .ok (.getfield 58, 3) := by decide +kernel
theorem dX8_turnMirror_31 : decode cX8_turnMirror 31 = .ok (.getfield 112, 3) := by decide +kernel
theorem dX8_turnMirror_34 : decode cX8_turnMirror 34 = .ok (.sipush 130, 3) := by decide +kernel
theorem dX8_turnMirror_37 : decode cX8_turnMirror 37 = .ok (.iload_n 1, 1) := by decide +kernel
theorem dX8_turnMirror_38 : decode cX8_turnMirror 38 = .ok (.invokevirtual 145, 3) := by decide +kernel
theorem dX8_turnMirror_41 : decode cX8_turnMirror 41 = .ok (.istore_n 3, 1) := by decide +kernel
theorem dX8_turnMirror_42 : decode cX8_turnMirror 42 = .ok (.aload_n 0, 1) := by decide +kernel
theorem dX8_turnMirror_43 : decode cX8_turnMirror 43 = .ok (.getfield 58, 3) := by decide +kernel
theorem dX8_turnMirror_46 : decode cX8_turnMirror 46 = .ok (.getfield 112, 3) := by decide +kernel
theorem dX8_turnMirror_49 : decode cX8_turnMirror 49 = .ok (.iload_n 1, 1) := by decide +kernel
theorem dX8_turnMirror_50 : decode cX8_turnMirror 50 = .ok (.iload_n 2, 1) := by decide +kernel
theorem dX8_turnMirror_51 : decode cX8_turnMirror 51 = .ok (.invokevirtual 202, 3) := by decide +kernel
theorem dX8_turnMirror_54 : decode cX8_turnMirror 54 = .ok (.iload_n 3, 1) := by decide +kernel
theorem dX8_turnMirror_55 : decode cX8_turnMirror 55 = .ok (.ireturn, 1) := by decide +kernel
theorem dX8_dustMirror_0 : decode cX8_dustMirror 0 = .ok (.aload_n 0, 1) := by decide +kernel
theorem dX8_dustMirror_1 : decode cX8_dustMirror 1 = .ok (.iload_n 1, 1) := by decide +kernel
theorem dX8_dustMirror_2 : decode cX8_dustMirror 2 = .ok (.invokevirtual 142, 3) := by decide +kernel
theorem dX8_dustMirror_5 : decode cX8_dustMirror 5 = .ok (.iload_n 2, 1) := by decide +kernel
theorem dX8_dustMirror_6 : decode cX8_dustMirror 6 = .ok (.ifCond .lt 9, 3) := by decide +kernel
theorem dX8_dustMirror_9 : decode cX8_dustMirror 9 = .ok (.iload_n 2, 1) := by decide +kernel
theorem dX8_dustMirror_10 : decode cX8_dustMirror 10 = .ok (.bipush 100, 2) := by decide +kernel
theorem dX8_dustMirror_12 : decode cX8_dustMirror 12 = .ok (.if_icmp .le 13, 3) := by decide +kernel
theorem dX8_dustMirror_15 : decode cX8_dustMirror 15 = .ok (.new 83, 3) := by decide +kernel
theorem dX8_dustMirror_18 : decode cX8_dustMirror 18 = .ok (.dup, 1) := by decide +kernel
theorem dX8_dustMirror_19 : decode cX8_dustMirror 19 = .ok (.ldc 205, 2) := by decide +kernel
theorem dX8_dustMirror_21 : decode cX8_dustMirror 21 = .ok (.invokespecial 87, 3) := by decide +kernel
theorem dX8_dustMirror_24 : decode cX8_dustMirror 24 = .ok (.athrow, 1) := by decide +kernel
theorem dX8_dustMirror_25 : decode cX8_dustMirror 25 = .ok (.aload_n 0, 1) := by decide +kernel
theorem dX8_dustMirror_26 : decode cX8_dustMirror 26 = .ok (.getfield 58, 3) := by decide +kernel
theorem dX8_dustMirror_29 : decode cX8_dustMirror 29 = .ok (.getfield 112, 3) := by decide +kernel
theorem dX8_dustMirror_32 : decode cX8_dustMirror 32 = .ok (.iload_n 1, 1) := by decide +kernel
theorem dX8_dustMirror_33 : decode cX8_dustMirror 33 = .ok (.iload_n 2, 1) := by decide +kernel
theorem dX8_dustMirror_34 : decode cX8_dustMirror 34 = .ok (.bipush 100, 2) := by decide +kernel
theorem dX8_dustMirror_36 : decode cX8_dustMirror 36 = .ok (.invokevirtual 207, 3) := by decide +kernel
theorem dX8_dustMirror_39 : decode cX8_dustMirror 39 = .ok (.aload_n 0, 1) := by decide +kernel
theorem dX8_dustMirror_40 : decode cX8_dustMirror 40 = .ok (.getfield 58, 3) := by decide +kernel
theorem dX8_dustMirror_43 : decode cX8_dustMirror 43 = .ok (.getfield 112, 3) := by decide +kernel
theorem dX8_dustMirror_46 : decode cX8_dustMirror 46 = .ok (.sipush 129, 3) := by decide +kernel
theorem dX8_dustMirror_49 : decode cX8_dustMirror 49 = .ok (.iload_n 1, 1) := by decide +kernel
theorem dX8_dustMirror_50 : decode cX8_dustMirror 50 = .ok (.invokevirtual 145, 3) := by decide +kernel
theorem dX8_dustMirror_53 : decode cX8_dustMirror 53 = .ok (.ireturn, 1) := by decide +kernel
theorem dX8_moveMirror_0 : decode cX8_moveMirror 0 = .ok (.aload_n 0, 1) := by decide +kernel
theorem dX8_moveMirror_1 : decode cX8_moveMirror 1 = .ok (.iload_n 1, 1) := by decide +kernel
theorem dX8_moveMirror_2 : decode cX8_moveMirror 2 = .ok (.invokevirtual 142, 3) := by decide +kernel
theorem dX8_moveMirror_5 : decode cX8_moveMirror 5 = .ok (.iload_n 2, 1) := by decide +kernel
theorem dX8_moveMirror_6 : decode cX8_moveMirror 6 = .ok (.ifCond .lt 17, 3) := by decide +kernel
theorem dX8_moveMirror_9 : decode cX8_moveMirror 9 = .ok (.iload_n 2, 1) := by decide +kernel
theorem dX8_moveMirror_10 : decode cX8_moveMirror 10 = .ok (.aload_n 0, 1) := by decide +kernel
theorem dX8_moveMirror_11 : decode cX8_moveMirror 11 = .ok (.getfield 58, 3) := by decide +kernel
theorem dX8_moveMirror_14 : decode cX8_moveMirror 14 = .ok (.getfield 112, 3) := by decide +kernel
theorem dX8_moveMirror_17 : decode cX8_moveMirror 17 = .ok (.getfield 116, 3) := by decide +kernel
theorem dX8_moveMirror_20 : decode cX8_moveMirror 20 = .ok (.if_icmp .lt 13, 3) := by decide +kernel
theorem dX8_moveMirror_23 : decode cX8_moveMirror 23 = .ok (.new 155, 3) := by decide +kernel
theorem dX8_moveMirror_26 : decode cX8_moveMirror 26 = .ok (.dup, 1) := by decide +kernel
theorem dX8_moveMirror_27 : decode cX8_moveMirror 27 = .ok (.ldc 157, 2) := by decide +kernel
theorem dX8_moveMirror_29 : decode cX8_moveMirror 29 = .ok (.invokespecial 159, 3) := by decide +kernel
theorem dX8_moveMirror_32 : decode cX8_moveMirror 32 = .ok (.athrow, 1) := by decide +kernel
theorem dX8_moveMirror_33 : decode cX8_moveMirror 33 = .ok (.aload_n 0, 1) := by decide +kernel
theorem dX8_moveMirror_34 : decode cX8_moveMirror 34 = .ok (.getfield 58, 3) := by decide +kernel
theorem dX8_moveMirror_37 : decode cX8_moveMirror 37 = .ok (.getfield 112, 3) := by decide +kernel
theorem dX8_moveMirror_40 : decode cX8_moveMirror 40 = .ok (.iload_n 1, 1) := by decide +kernel
theorem dX8_moveMirror_41 : decode cX8_moveMirror 41 = .ok (.invokevirtual 149, 3) := by decide +kernel
theorem dX8_moveMirror_44 : decode cX8_moveMirror 44 = .ok (.istore_n 3, 1) := by decide +kernel
theorem dX8_moveMirror_45 : decode cX8_moveMirror 45 = .ok (.aload_n 0, 1) := by decide +kernel
theorem dX8_moveMirror_46 : decode cX8_moveMirror 46 = .ok (.getfield 58, 3) := by decide +kernel
theorem dX8_moveMirror_49 : decode cX8_moveMirror 49 = .ok (.getfield 112, 3) := by decide +kernel
theorem dX8_moveMirror_52 : decode cX8_moveMirror 52 = .ok (.iload_n 1, 1) := by decide +kernel
theorem dX8_moveMirror_53 : decode cX8_moveMirror 53 = .ok (.iload_n 2, 1) := by decide +kernel
theorem dX8_moveMirror_54 : decode cX8_moveMirror 54 = .ok (.invokevirtual 211, 3) := by decide +kernel
theorem dX8_moveMirror_57 : decode cX8_moveMirror 57 = .ok (.iload_n 3, 1) := by decide +kernel
theorem dX8_moveMirror_58 : decode cX8_moveMirror 58 = .ok (.ireturn, 1) := by decide +kernel
theorem dX8_passMinutes_0 : decode cX8_passMinutes 0 = .ok (.iload_n 1, 1) := by decide +kernel
theorem dX8_passMinutes_1 : decode cX8_passMinutes 1 = .ok (.invokestatic 214, 3) := by decide +kernel
theorem dX8_passMinutes_4 : decode cX8_passMinutes 4 = .ok (.aload_n 0, 1) := by decide +kernel
theorem dX8_passMinutes_5 : decode cX8_passMinutes 5 = .ok (.getfield 58, 3) := by decide +kernel
theorem dX8_passMinutes_8 : decode cX8_passMinutes 8 = .ok (.getfield 163, 3) := by decide +kernel
theorem dX8_passMinutes_11 : decode cX8_passMinutes 11 = .ok (.getfield 172, 3) := by decide +kernel
theorem dX8_passMinutes_14 : decode cX8_passMinutes 14 = .ok (.istore_n 2, 1) := by decide +kernel
theorem dX8_passMinutes_15 : decode cX8_passMinutes 15 = .ok (.aload_n 0, 1) := by decide +kernel
theorem dX8_passMinutes_16 : decode cX8_passMinutes 16 = .ok (.getfield 58, 3) := by decide +kernel
theorem dX8_passMinutes_19 : decode cX8_passMinutes 19 = .ok (.iload_n 1, 1) := by decide +kernel
theorem dX8_passMinutes_20 : decode cX8_passMinutes 20 = .ok (.invokevirtual 217, 3) := by decide +kernel
theorem dX8_passMinutes_23 : decode cX8_passMinutes 23 = .ok (.aload_n 0, 1) := by decide +kernel
theorem dX8_passMinutes_24 : decode cX8_passMinutes 24 = .ok (.getfield 58, 3) := by decide +kernel
theorem dX8_passMinutes_27 : decode cX8_passMinutes 27 = .ok (.getfield 163, 3) := by decide +kernel
theorem dX8_passMinutes_30 : decode cX8_passMinutes 30 = .ok (.getfield 172, 3) := by decide +kernel
theorem dX8_passMinutes_33 : decode cX8_passMinutes 33 = .ok (.iload_n 2, 1) := by decide +kernel
theorem dX8_passMinutes_34 : decode cX8_passMinutes 34 = .ok (.isub, 1) := by decide +kernel
theorem dX8_passMinutes_35 : decode cX8_passMinutes 35 = .ok (.ireturn, 1) := by decide +kernel
theorem dX8_lightAfter_0 : decode cX8_lightAfter 0 = .ok (.iload_n 1, 1) := by decide +kernel
theorem dX8_lightAfter_1 : decode cX8_lightAfter 1 = .ok (.invokestatic 214, 3) := by decide +kernel
theorem dX8_lightAfter_4 : decode cX8_lightAfter 4 = .ok (.aload_n 0, 1) := by decide +kernel
theorem dX8_lightAfter_5 : decode cX8_lightAfter 5 = .ok (.getfield 62, 3) := by decide +kernel
theorem dX8_lightAfter_8 : decode cX8_lightAfter 8 = .ok (.aload_n 0, 1) := by decide +kernel
theorem dX8_lightAfter_9 : decode cX8_lightAfter 9 = .ok (.getfield 58, 3) := by decide +kernel
theorem dX8_lightAfter_12 : decode cX8_lightAfter 12 = .ok (.invokevirtual 220, 3) := by decide +kernel
theorem dX8_lightAfter_15 : decode cX8_lightAfter 15 = .ok (.aload_n 0, 1) := by decide +kernel
theorem dX8_lightAfter_16 : decode cX8_lightAfter 16 = .ok (.getfield 62, 3) := by decide +kernel
theorem dX8_lightAfter_19 : decode cX8_lightAfter 19 = .ok (.iload_n 1, 1) := by decide +kernel
theorem dX8_lightAfter_20 : decode cX8_lightAfter 20 = .ok (.invokevirtual 217, 3) := by decide +kernel
theorem dX8_lightAfter_23 : decode cX8_lightAfter 23 = .ok (.aload_n 0, 1) := by decide +kernel
theorem dX8_lightAfter_24 : decode cX8_lightAfter 24 = .ok (.getfield 62, 3) := by decide +kernel
theorem dX8_lightAfter_27 : decode cX8_lightAfter 27 = .ok (.getfield 112, 3) := by decide +kernel
theorem dX8_lightAfter_30 : decode cX8_lightAfter 30 = .ok (.invokevirtual 127, 3) := by decide +kernel
theorem dX8_lightAfter_33 : decode cX8_lightAfter 33 = .ok (.ireturn, 1) := by decide +kernel
theorem dX8_minutesUntilSeen_0 : decode cX8_minutesUntilSeen 0 = .ok (.aload_n 0, 1) := by decide +kernel
theorem dX8_minutesUntilSeen_1 : decode cX8_minutesUntilSeen 1 = .ok (.getfield 62, 3) := by decide +kernel
theorem dX8_minutesUntilSeen_4 : decode cX8_minutesUntilSeen 4 = .ok (.aload_n 0, 1) := by decide +kernel
theorem dX8_minutesUntilSeen_5 : decode cX8_minutesUntilSeen 5 = .ok (.getfield 58, 3) := by decide +kernel
theorem dX8_minutesUntilSeen_8 : decode cX8_minutesUntilSeen 8 = .ok (.invokevirtual 220, 3) := by decide +kernel
theorem dX8_minutesUntilSeen_11 : decode cX8_minutesUntilSeen 11 = .ok (.iconst 0, 1) := by decide +kernel
theorem dX8_minutesUntilSeen_12 : decode cX8_minutesUntilSeen 12 = .ok (.istore_n 1, 1) := by decide +kernel
theorem dX8_minutesUntilSeen_13 : decode cX8_minutesUntilSeen 13 = .ok (.iload_n 1, 1) := by decide +kernel
theorem dX8_minutesUntilSeen_14 : decode cX8_minutesUntilSeen 14 = .ok (.bipush 100, 2) := by decide +kernel
theorem dX8_minutesUntilSeen_16 : decode cX8_minutesUntilSeen 16 = .ok (.if_icmp .gt 32, 3) := by decide +kernel
theorem dX8_minutesUntilSeen_19 : decode cX8_minutesUntilSeen 19 = .ok (.aload_n 0, 1) := by decide +kernel
theorem dX8_minutesUntilSeen_20 : decode cX8_minutesUntilSeen 20 = .ok (.getfield 62, 3) := by decide +kernel
theorem dX8_minutesUntilSeen_23 : decode cX8_minutesUntilSeen 23 = .ok (.getfield 112, 3) := by decide +kernel
theorem dX8_minutesUntilSeen_26 : decode cX8_minutesUntilSeen 26 = .ok (.invokevirtual 133, 3) := by decide +kernel
theorem dX8_minutesUntilSeen_29 : decode cX8_minutesUntilSeen 29 = .ok (.ifCond .eq 5, 3) := by decide +kernel
theorem dX8_minutesUntilSeen_32 : decode cX8_minutesUntilSeen 32 = .ok (.iload_n 1, 1) := by decide +kernel
theorem dX8_minutesUntilSeen_33 : decode cX8_minutesUntilSeen 33 = .ok (.ireturn, 1) := by decide +kernel
theorem dX8_minutesUntilSeen_34 : decode cX8_minutesUntilSeen 34 = .ok (.aload_n 0, 1) := by decide +kernel
theorem dX8_minutesUntilSeen_35 : decode cX8_minutesUntilSeen 35 = .ok (.getfield 62, 3) := by decide +kernel
theorem dX8_minutesUntilSeen_38 : decode cX8_minutesUntilSeen 38 = .ok (.iconst 1, 1) := by decide +kernel
theorem dX8_minutesUntilSeen_39 : decode cX8_minutesUntilSeen 39 = .ok (.invokevirtual 217, 3) := by decide +kernel
theorem dX8_minutesUntilSeen_42 : decode cX8_minutesUntilSeen 42 = .ok (.iinc 1 1, 3) := by decide +kernel
theorem dX8_minutesUntilSeen_45 : decode cX8_minutesUntilSeen 45 = .ok (.goto (-32), 3) := by decide +kernel
theorem dX8_minutesUntilSeen_48 : decode cX8_minutesUntilSeen 48 = .ok (.iconst (-1), 1) := by decide +kernel
theorem dX8_minutesUntilSeen_49 : decode cX8_minutesUntilSeen 49 = .ok (.ireturn, 1) := by decide +kernel
theorem dX8_minutesUntilDone_0 : decode cX8_minutesUntilDone 0 = .ok (.aload_n 0, 1) := by decide +kernel
theorem dX8_minutesUntilDone_1 : decode cX8_minutesUntilDone 1 = .ok (.iload_n 1, 1) := by decide +kernel
theorem dX8_minutesUntilDone_2 : decode cX8_minutesUntilDone 2 = .ok (.invokevirtual 175, 3) := by decide +kernel
theorem dX8_minutesUntilDone_5 : decode cX8_minutesUntilDone 5 = .ok (.aload_n 0, 1) := by decide +kernel
theorem dX8_minutesUntilDone_6 : decode cX8_minutesUntilDone 6 = .ok (.getfield 62, 3) := by decide +kernel
theorem dX8_minutesUntilDone_9 : decode cX8_minutesUntilDone 9 = .ok (.aload_n 0, 1) := by decide +kernel
theorem dX8_minutesUntilDone_10 : decode cX8_minutesUntilDone 10 = .ok (.getfield 58, 3) := by decide +kernel
theorem dX8_minutesUntilDone_13 : decode cX8_minutesUntilDone 13 = .ok (.invokevirtual 220, 3) := by decide +kernel
theorem dX8_minutesUntilDone_16 : decode cX8_minutesUntilDone 16 = .ok (.aload_n 0, 1) := by decide +kernel
theorem dX8_minutesUntilDone_17 : decode cX8_minutesUntilDone 17 = .ok (.getfield 58, 3) := by decide +kernel
theorem dX8_minutesUntilDone_20 : decode cX8_minutesUntilDone 20 = .ok (.getfield 163, 3) := by decide +kernel
theorem dX8_minutesUntilDone_23 : decode cX8_minutesUntilDone 23 = .ok (.getfield 172, 3) := by decide +kernel
theorem dX8_minutesUntilDone_26 : decode cX8_minutesUntilDone 26 = .ok (.iload_n 1, 1) := by decide +kernel
theorem dX8_minutesUntilDone_27 : decode cX8_minutesUntilDone 27 = .ok (.iadd, 1) := by decide +kernel
theorem dX8_minutesUntilDone_28 : decode cX8_minutesUntilDone 28 = .ok (.iconst 1, 1) := by decide +kernel
theorem dX8_minutesUntilDone_29 : decode cX8_minutesUntilDone 29 = .ok (.iadd, 1) := by decide +kernel
theorem dX8_minutesUntilDone_30 : decode cX8_minutesUntilDone 30 = .ok (.istore_n 2, 1) := by decide +kernel
theorem dX8_minutesUntilDone_31 : decode cX8_minutesUntilDone 31 = .ok (.iconst 1, 1) := by decide +kernel
theorem dX8_minutesUntilDone_32 : decode cX8_minutesUntilDone 32 = .ok (.istore_n 3, 1) := by decide +kernel
theorem dX8_minutesUntilDone_33 : decode cX8_minutesUntilDone 33 = .ok (.iload_n 3, 1) := by decide +kernel
theorem dX8_minutesUntilDone_34 : decode cX8_minutesUntilDone 34 = .ok (.sipush 300, 3) := by decide +kernel
theorem dX8_minutesUntilDone_37 : decode cX8_minutesUntilDone 37 = .ok (.if_icmp .gt 33, 3) := by decide +kernel
theorem dX8_minutesUntilDone_40 : decode cX8_minutesUntilDone 40 = .ok (.aload_n 0, 1) := by decide +kernel
theorem dX8_minutesUntilDone_41 : decode cX8_minutesUntilDone 41 = .ok (.getfield 62, 3) := by decide +kernel
theorem dX8_minutesUntilDone_44 : decode cX8_minutesUntilDone 44 = .ok (.iconst 1, 1) := by decide +kernel
theorem dX8_minutesUntilDone_45 : decode cX8_minutesUntilDone 45 = .ok (.invokevirtual 217, 3) := by decide +kernel
theorem dX8_minutesUntilDone_48 : decode cX8_minutesUntilDone 48 = .ok (.aload_n 0, 1) := by decide +kernel
theorem dX8_minutesUntilDone_49 : decode cX8_minutesUntilDone 49 = .ok (.getfield 62, 3) := by decide +kernel
theorem dX8_minutesUntilDone_52 : decode cX8_minutesUntilDone 52 = .ok (.getfield 163, 3) := by decide +kernel
theorem dX8_minutesUntilDone_55 : decode cX8_minutesUntilDone 55 = .ok (.getfield 172, 3) := by decide +kernel
theorem dX8_minutesUntilDone_58 : decode cX8_minutesUntilDone 58 = .ok (.iload_n 2, 1) := by decide +kernel
theorem dX8_minutesUntilDone_59 : decode cX8_minutesUntilDone 59 = .ok (.if_icmp .lt 5, 3) := by decide +kernel
theorem dX8_minutesUntilDone_62 : decode cX8_minutesUntilDone 62 = .ok (.iload_n 3, 1) := by decide +kernel
theorem dX8_minutesUntilDone_63 : decode cX8_minutesUntilDone 63 = .ok (.ireturn, 1) := by decide +kernel
theorem dX8_minutesUntilDone_64 : decode cX8_minutesUntilDone 64 = .ok (.iinc 3 1, 3) := by decide +kernel
theorem dX8_minutesUntilDone_67 : decode cX8_minutesUntilDone 67 = .ok (.goto (-34), 3) := by decide +kernel
theorem dX8_minutesUntilDone_70 : decode cX8_minutesUntilDone 70 = .ok (.iconst (-1), 1) := by decide +kernel
theorem dX8_minutesUntilDone_71 : decode cX8_minutesUntilDone 71 = .ok (.ireturn, 1) := by decide +kernel
theorem dX8_bestToClean_0 : decode cX8_bestToClean 0 = .ok (.iconst (-1), 1) := by decide +kernel
theorem dX8_bestToClean_1 : decode cX8_bestToClean 1 = .ok (.istore_n 1, 1) := by decide +kernel
theorem dX8_bestToClean_2 : decode cX8_bestToClean 2 = .ok (.aload_n 0, 1) := by decide +kernel
theorem dX8_bestToClean_3 : decode cX8_bestToClean 3 = .ok (.getfield 58, 3) := by decide +kernel
theorem dX8_bestToClean_6 : decode cX8_bestToClean 6 = .ok (.getfield 112, 3) := by decide +kernel
theorem dX8_bestToClean_9 : decode cX8_bestToClean 9 = .ok (.invokevirtual 127, 3) := by decide +kernel
theorem dX8_bestToClean_12 : decode cX8_bestToClean 12 = .ok (.istore_n 2, 1) := by decide +kernel
theorem dX8_bestToClean_13 : decode cX8_bestToClean 13 = .ok (.iconst 0, 1) := by decide +kernel
theorem dX8_bestToClean_14 : decode cX8_bestToClean 14 = .ok (.istore_n 3, 1) := by decide +kernel
theorem dX8_bestToClean_15 : decode cX8_bestToClean 15 = .ok (.iload_n 3, 1) := by decide +kernel
theorem dX8_bestToClean_16 : decode cX8_bestToClean 16 = .ok (.aload_n 0, 1) := by decide +kernel
theorem dX8_bestToClean_17 : decode cX8_bestToClean 17 = .ok (.getfield 58, 3) := by decide +kernel
theorem dX8_bestToClean_20 : decode cX8_bestToClean 20 = .ok (.getfield 112, 3) := by decide +kernel
theorem dX8_bestToClean_23 : decode cX8_bestToClean 23 = .ok (.getfield 116, 3) := by decide +kernel
theorem dX8_bestToClean_26 : decode cX8_bestToClean 26 = .ok (.if_icmp .ge 60, 3) := by decide +kernel
theorem dX8_bestToClean_29 : decode cX8_bestToClean 29 = .ok (.aload_n 0, 1) := by decide +kernel
theorem dX8_bestToClean_30 : decode cX8_bestToClean 30 = .ok (.getfield 62, 3) := by decide +kernel
theorem dX8_bestToClean_33 : decode cX8_bestToClean 33 = .ok (.getfield 112, 3) := by decide +kernel
theorem dX8_bestToClean_36 : decode cX8_bestToClean 36 = .ok (.aload_n 0, 1) := by decide +kernel
theorem dX8_bestToClean_37 : decode cX8_bestToClean 37 = .ok (.getfield 58, 3) := by decide +kernel
theorem dX8_bestToClean_40 : decode cX8_bestToClean 40 = .ok (.getfield 112, 3) := by decide +kernel
theorem dX8_bestToClean_43 : decode cX8_bestToClean 43 = .ok (.invokevirtual 224, 3) := by decide +kernel
theorem dX8_bestToClean_46 : decode cX8_bestToClean 46 = .ok (.aload_n 0, 1) := by decide +kernel
theorem dX8_bestToClean_47 : decode cX8_bestToClean 47 = .ok (.getfield 62, 3) := by decide +kernel
theorem dX8_bestToClean_50 : decode cX8_bestToClean 50 = .ok (.getfield 112, 3) := by decide +kernel
theorem dX8_bestToClean_53 : decode cX8_bestToClean 53 = .ok (.iload_n 3, 1) := by decide +kernel
theorem dX8_bestToClean_54 : decode cX8_bestToClean 54 = .ok (.invokevirtual 227, 3) := by decide +kernel
theorem dX8_bestToClean_57 : decode cX8_bestToClean 57 = .ok (.aload_n 0, 1) := by decide +kernel
theorem dX8_bestToClean_58 : decode cX8_bestToClean 58 = .ok (.getfield 62, 3) := by decide +kernel
theorem dX8_bestToClean_61 : decode cX8_bestToClean 61 = .ok (.getfield 112, 3) := by decide +kernel
theorem dX8_bestToClean_64 : decode cX8_bestToClean 64 = .ok (.invokevirtual 127, 3) := by decide +kernel
theorem dX8_bestToClean_67 : decode cX8_bestToClean 67 = .ok (.istore 4, 2) := by decide +kernel
theorem dX8_bestToClean_69 : decode cX8_bestToClean 69 = .ok (.iload 4, 2) := by decide +kernel
theorem dX8_bestToClean_71 : decode cX8_bestToClean 71 = .ok (.iload_n 2, 1) := by decide +kernel
theorem dX8_bestToClean_72 : decode cX8_bestToClean 72 = .ok (.if_icmp .le 8, 3) := by decide +kernel
theorem dX8_bestToClean_75 : decode cX8_bestToClean 75 = .ok (.iload 4, 2) := by decide +kernel
theorem dX8_bestToClean_77 : decode cX8_bestToClean 77 = .ok (.istore_n 2, 1) := by decide +kernel
theorem dX8_bestToClean_78 : decode cX8_bestToClean 78 = .ok (.iload_n 3, 1) := by decide +kernel
theorem dX8_bestToClean_79 : decode cX8_bestToClean 79 = .ok (.istore_n 1, 1) := by decide +kernel
theorem dX8_bestToClean_80 : decode cX8_bestToClean 80 = .ok (.iinc 3 1, 3) := by decide +kernel
theorem dX8_bestToClean_83 : decode cX8_bestToClean 83 = .ok (.goto (-68), 3) := by decide +kernel
theorem dX8_bestToClean_86 : decode cX8_bestToClean 86 = .ok (.iload_n 1, 1) := by decide +kernel
theorem dX8_bestToClean_87 : decode cX8_bestToClean 87 = .ok (.ireturn, 1) := by decide +kernel
theorem dX8_bestOffset_0 : decode cX8_bestOffset 0 = .ok (.aload_n 0, 1) := by decide +kernel
theorem dX8_bestOffset_1 : decode cX8_bestOffset 1 = .ok (.iload_n 1, 1) := by decide +kernel
theorem dX8_bestOffset_2 : decode cX8_bestOffset 2 = .ok (.invokevirtual 142, 3) := by decide +kernel
theorem dX8_bestOffset_5 : decode cX8_bestOffset 5 = .ok (.aload_n 0, 1) := by decide +kernel
theorem dX8_bestOffset_6 : decode cX8_bestOffset 6 = .ok (.getfield 62, 3) := by decide +kernel
theorem dX8_bestOffset_9 : decode cX8_bestOffset 9 = .ok (.getfield 112, 3) := by decide +kernel
theorem dX8_bestOffset_12 : decode cX8_bestOffset 12 = .ok (.aload_n 0, 1) := by decide +kernel
theorem dX8_bestOffset_13 : decode cX8_bestOffset 13 = .ok (.getfield 58, 3) := by decide +kernel
theorem dX8_bestOffset_16 : decode cX8_bestOffset 16 = .ok (.getfield 112, 3) := by decide +kernel
theorem dX8_bestOffset_19 : decode cX8_bestOffset 19 = .ok (.invokevirtual 224, 3) := by decide +kernel
theorem dX8_bestOffset_22 : decode cX8_bestOffset 22 = .ok (.iconst 0, 1) := by decide +kernel
theorem dX8_bestOffset_23 : decode cX8_bestOffset 23 = .ok (.istore_n 2, 1) := by decide +kernel
theorem dX8_bestOffset_24 : decode cX8_bestOffset 24 = .ok (.aload_n 0, 1) := by decide +kernel
theorem dX8_bestOffset_25 : decode cX8_bestOffset 25 = .ok (.iload_n 1, 1) := by decide +kernel
theorem dX8_bestOffset_26 : decode cX8_bestOffset 26 = .ok (.iconst 0, 1) := by decide +kernel
theorem dX8_bestOffset_27 : decode cX8_bestOffset 27 = .ok (.invokevirtual 230, 3) := by decide +kernel
theorem dX8_bestOffset_30 : decode cX8_bestOffset 30 = .ok (.istore_n 3, 1) := by decide +kernel
theorem dX8_bestOffset_31 : decode cX8_bestOffset 31 = .ok (.iconst 1, 1) := by decide +kernel
theorem dX8_bestOffset_32 : decode cX8_bestOffset 32 = .ok (.istore 4, 2) := by decide +kernel
theorem dX8_bestOffset_34 : decode cX8_bestOffset 34 = .ok (.iload 4, 2) := by decide +kernel
theorem dX8_bestOffset_36 : decode cX8_bestOffset 36 = .ok (.bipush 90, 2) := by decide +kernel
theorem dX8_bestOffset_38 : decode cX8_bestOffset 38 = .ok (.if_icmp .gt 53, 3) := by decide +kernel
theorem dX8_bestOffset_41 : decode cX8_bestOffset 41 = .ok (.aload_n 0, 1) := by decide +kernel
theorem dX8_bestOffset_42 : decode cX8_bestOffset 42 = .ok (.iload_n 1, 1) := by decide +kernel
theorem dX8_bestOffset_43 : decode cX8_bestOffset 43 = .ok (.iload 4, 2) := by decide +kernel
theorem dX8_bestOffset_45 : decode cX8_bestOffset 45 = .ok (.invokevirtual 230, 3) := by decide +kernel
theorem dX8_bestOffset_48 : decode cX8_bestOffset 48 = .ok (.istore 5, 2) := by decide +kernel
theorem dX8_bestOffset_50 : decode cX8_bestOffset 50 = .ok (.iload 5, 2) := by decide +kernel
theorem dX8_bestOffset_52 : decode cX8_bestOffset 52 = .ok (.iload_n 3, 1) := by decide +kernel
theorem dX8_bestOffset_53 : decode cX8_bestOffset 53 = .ok (.if_icmp .le 9, 3) := by decide +kernel
theorem dX8_bestOffset_56 : decode cX8_bestOffset 56 = .ok (.iload 5, 2) := by decide +kernel
theorem dX8_bestOffset_58 : decode cX8_bestOffset 58 = .ok (.istore_n 3, 1) := by decide +kernel
theorem dX8_bestOffset_59 : decode cX8_bestOffset 59 = .ok (.iload 4, 2) := by decide +kernel
theorem dX8_bestOffset_61 : decode cX8_bestOffset 61 = .ok (.istore_n 2, 1) := by decide +kernel
theorem dX8_bestOffset_62 : decode cX8_bestOffset 62 = .ok (.aload_n 0, 1) := by decide +kernel
theorem dX8_bestOffset_63 : decode cX8_bestOffset 63 = .ok (.iload_n 1, 1) := by decide +kernel
theorem dX8_bestOffset_64 : decode cX8_bestOffset 64 = .ok (.iload 4, 2) := by decide +kernel
theorem dX8_bestOffset_66 : decode cX8_bestOffset 66 = .ok (.ineg, 1) := by decide +kernel
theorem dX8_bestOffset_67 : decode cX8_bestOffset 67 = .ok (.invokevirtual 230, 3) := by decide +kernel
theorem dX8_bestOffset_70 : decode cX8_bestOffset 70 = .ok (.istore 6, 2) := by decide +kernel
theorem dX8_bestOffset_72 : decode cX8_bestOffset 72 = .ok (.iload 6, 2) := by decide +kernel
theorem dX8_bestOffset_74 : decode cX8_bestOffset 74 = .ok (.iload_n 3, 1) := by decide +kernel
theorem dX8_bestOffset_75 : decode cX8_bestOffset 75 = .ok (.if_icmp .le 10, 3) := by decide +kernel
theorem dX8_bestOffset_78 : decode cX8_bestOffset 78 = .ok (.iload 6, 2) := by decide +kernel
theorem dX8_bestOffset_80 : decode cX8_bestOffset 80 = .ok (.istore_n 3, 1) := by decide +kernel
theorem dX8_bestOffset_81 : decode cX8_bestOffset 81 = .ok (.iload 4, 2) := by decide +kernel
theorem dX8_bestOffset_83 : decode cX8_bestOffset 83 = .ok (.ineg, 1) := by decide +kernel
theorem dX8_bestOffset_84 : decode cX8_bestOffset 84 = .ok (.istore_n 2, 1) := by decide +kernel
theorem dX8_bestOffset_85 : decode cX8_bestOffset 85 = .ok (.iinc 4 1, 3) := by decide +kernel
theorem dX8_bestOffset_88 : decode cX8_bestOffset 88 = .ok (.goto (-54), 3) := by decide +kernel
theorem dX8_bestOffset_91 : decode cX8_bestOffset 91 = .ok (.iload_n 2, 1) := by decide +kernel
theorem dX8_bestOffset_92 : decode cX8_bestOffset 92 = .ok (.ireturn, 1) := by decide +kernel
theorem dX8_meanClarity_0 : decode cX8_meanClarity 0 = .ok (.aload_n 0, 1) := by decide +kernel
theorem dX8_meanClarity_1 : decode cX8_meanClarity 1 = .ok (.getfield 58, 3) := by decide +kernel
theorem dX8_meanClarity_4 : decode cX8_meanClarity 4 = .ok (.getfield 112, 3) := by decide +kernel
theorem dX8_meanClarity_7 : decode cX8_meanClarity 7 = .ok (.getfield 116, 3) := by decide +kernel
theorem dX8_meanClarity_10 : decode cX8_meanClarity 10 = .ok (.istore_n 1, 1) := by decide +kernel
theorem dX8_meanClarity_11 : decode cX8_meanClarity 11 = .ok (.iload_n 1, 1) := by decide +kernel
theorem dX8_meanClarity_12 : decode cX8_meanClarity 12 = .ok (.ifCond .ne 5, 3) := by decide +kernel
theorem dX8_meanClarity_15 : decode cX8_meanClarity 15 = .ok (.dconst 0, 1) := by decide +kernel
theorem dX8_meanClarity_16 : decode cX8_meanClarity 16 = .ok (.dreturn, 1) := by decide +kernel
theorem dX8_meanClarity_17 : decode cX8_meanClarity 17 = .ok (.iconst 0, 1) := by decide +kernel
theorem dX8_meanClarity_18 : decode cX8_meanClarity 18 = .ok (.istore_n 2, 1) := by decide +kernel
theorem dX8_meanClarity_19 : decode cX8_meanClarity 19 = .ok (.iconst 0, 1) := by decide +kernel
theorem dX8_meanClarity_20 : decode cX8_meanClarity 20 = .ok (.istore_n 3, 1) := by decide +kernel
theorem dX8_meanClarity_21 : decode cX8_meanClarity 21 = .ok (.iload_n 3, 1) := by decide +kernel
theorem dX8_meanClarity_22 : decode cX8_meanClarity 22 = .ok (.iload_n 1, 1) := by decide +kernel
theorem dX8_meanClarity_23 : decode cX8_meanClarity 23 = .ok (.if_icmp .ge 26, 3) := by decide +kernel
theorem dX8_meanClarity_26 : decode cX8_meanClarity 26 = .ok (.iload_n 2, 1) := by decide +kernel
theorem dX8_meanClarity_27 : decode cX8_meanClarity 27 = .ok (.aload_n 0, 1) := by decide +kernel
theorem dX8_meanClarity_28 : decode cX8_meanClarity 28 = .ok (.getfield 58, 3) := by decide +kernel
theorem dX8_meanClarity_31 : decode cX8_meanClarity 31 = .ok (.getfield 112, 3) := by decide +kernel
theorem dX8_meanClarity_34 : decode cX8_meanClarity 34 = .ok (.sipush 129, 3) := by decide +kernel
theorem dX8_meanClarity_37 : decode cX8_meanClarity 37 = .ok (.iload_n 3, 1) := by decide +kernel
theorem dX8_meanClarity_38 : decode cX8_meanClarity 38 = .ok (.invokevirtual 145, 3) := by decide +kernel
theorem dX8_meanClarity_41 : decode cX8_meanClarity 41 = .ok (.iadd, 1) := by decide +kernel
theorem dX8_meanClarity_42 : decode cX8_meanClarity 42 = .ok (.istore_n 2, 1) := by decide +kernel
theorem dX8_meanClarity_43 : decode cX8_meanClarity 43 = .ok (.iinc 3 1, 3) := by decide +kernel
theorem dX8_meanClarity_46 : decode cX8_meanClarity 46 = .ok (.goto (-25), 3) := by decide +kernel
theorem dX8_meanClarity_49 : decode cX8_meanClarity 49 = .ok (.iload_n 2, 1) := by decide +kernel
theorem dX8_meanClarity_50 : decode cX8_meanClarity 50 = .ok (.i2d, 1) := by decide +kernel
theorem dX8_meanClarity_51 : decode cX8_meanClarity 51 = .ok (.iload_n 1, 1) := by decide +kernel
theorem dX8_meanClarity_52 : decode cX8_meanClarity 52 = .ok (.i2d, 1) := by decide +kernel
theorem dX8_meanClarity_53 : decode cX8_meanClarity 53 = .ok (.ddiv, 1) := by decide +kernel
theorem dX8_meanClarity_54 : decode cX8_meanClarity 54 = .ok (.dreturn, 1) := by decide +kernel
theorem dX8_digest_0 : decode cX8_digest 0 = .ok (.ldc2_w 233, 3) := by decide +kernel
theorem dX8_digest_3 : decode cX8_digest 3 = .ok (.lstore_n 1, 1) := by decide +kernel
theorem dX8_digest_4 : decode cX8_digest 4 = .ok (.lload_n 1, 1) := by decide +kernel
theorem dX8_digest_5 : decode cX8_digest 5 = .ok (.ldc2_w 235, 3) := by decide +kernel
theorem dX8_digest_8 : decode cX8_digest 8 = .ok (.lmul, 1) := by decide +kernel
theorem dX8_digest_9 : decode cX8_digest 9 = .ok (.aload_n 0, 1) := by decide +kernel
theorem dX8_digest_10 : decode cX8_digest 10 = .ok (.invokevirtual 237, 3) := by decide +kernel
theorem dX8_digest_13 : decode cX8_digest 13 = .ok (.i2l, 1) := by decide +kernel
theorem dX8_digest_14 : decode cX8_digest 14 = .ok (.ladd, 1) := by decide +kernel
theorem dX8_digest_15 : decode cX8_digest 15 = .ok (.lstore_n 1, 1) := by decide +kernel
theorem dX8_digest_16 : decode cX8_digest 16 = .ok (.lload_n 1, 1) := by decide +kernel
theorem dX8_digest_17 : decode cX8_digest 17 = .ok (.ldc2_w 235, 3) := by decide +kernel
theorem dX8_digest_20 : decode cX8_digest 20 = .ok (.lmul, 1) := by decide +kernel
theorem dX8_digest_21 : decode cX8_digest 21 = .ok (.aload_n 0, 1) := by decide +kernel
theorem dX8_digest_22 : decode cX8_digest 22 = .ok (.invokevirtual 240, 3) := by decide +kernel
theorem dX8_digest_25 : decode cX8_digest 25 = .ok (.i2l, 1) := by decide +kernel
theorem dX8_digest_26 : decode cX8_digest 26 = .ok (.ladd, 1) := by decide +kernel
theorem dX8_digest_27 : decode cX8_digest 27 = .ok (.lstore_n 1, 1) := by decide +kernel
theorem dX8_digest_28 : decode cX8_digest 28 = .ok (.lload_n 1, 1) := by decide +kernel
theorem dX8_digest_29 : decode cX8_digest 29 = .ok (.ldc2_w 235, 3) := by decide +kernel
theorem dX8_digest_32 : decode cX8_digest 32 = .ok (.lmul, 1) := by decide +kernel
theorem dX8_digest_33 : decode cX8_digest 33 = .ok (.aload_n 0, 1) := by decide +kernel
theorem dX8_digest_34 : decode cX8_digest 34 = .ok (.invokevirtual 242, 3) := by decide +kernel
theorem dX8_digest_37 : decode cX8_digest 37 = .ok (.i2l, 1) := by decide +kernel
theorem dX8_digest_38 : decode cX8_digest 38 = .ok (.ladd, 1) := by decide +kernel
theorem dX8_digest_39 : decode cX8_digest 39 = .ok (.lstore_n 1, 1) := by decide +kernel
theorem dX8_digest_40 : decode cX8_digest 40 = .ok (.lload_n 1, 1) := by decide +kernel
theorem dX8_digest_41 : decode cX8_digest 41 = .ok (.ldc2_w 235, 3) := by decide +kernel
theorem dX8_digest_44 : decode cX8_digest 44 = .ok (.lmul, 1) := by decide +kernel
theorem dX8_digest_45 : decode cX8_digest 45 = .ok (.aload_n 0, 1) := by decide +kernel
theorem dX8_digest_46 : decode cX8_digest 46 = .ok (.invokevirtual 245, 3) := by decide +kernel
theorem dX8_digest_49 : decode cX8_digest 49 = .ok (.i2l, 1) := by decide +kernel
theorem dX8_digest_50 : decode cX8_digest 50 = .ok (.ladd, 1) := by decide +kernel
theorem dX8_digest_51 : decode cX8_digest 51 = .ok (.lstore_n 1, 1) := by decide +kernel
theorem dX8_digest_52 : decode cX8_digest 52 = .ok (.lload_n 1, 1) := by decide +kernel
theorem dX8_digest_53 : decode cX8_digest 53 = .ok (.ldc2_w 235, 3) := by decide +kernel
theorem dX8_digest_56 : decode cX8_digest 56 = .ok (.lmul, 1) := by decide +kernel
theorem dX8_digest_57 : decode cX8_digest 57 = .ok (.aload_n 0, 1) := by decide +kernel
theorem dX8_digest_58 : decode cX8_digest 58 = .ok (.invokevirtual 248, 3) := by decide +kernel
theorem dX8_digest_61 : decode cX8_digest 61 = .ok (.i2l, 1) := by decide +kernel
theorem dX8_digest_62 : decode cX8_digest 62 = .ok (.ladd, 1) := by decide +kernel
theorem dX8_digest_63 : decode cX8_digest 63 = .ok (.lstore_n 1, 1) := by decide +kernel
theorem dX8_digest_64 : decode cX8_digest 64 = .ok (.lload_n 1, 1) := by decide +kernel
theorem dX8_digest_65 : decode cX8_digest 65 = .ok (.ldc2_w 235, 3) := by decide +kernel
theorem dX8_digest_68 : decode cX8_digest 68 = .ok (.lmul, 1) := by decide +kernel
theorem dX8_digest_69 : decode cX8_digest 69 = .ok (.aload_n 0, 1) := by decide +kernel
theorem dX8_digest_70 : decode cX8_digest 70 = .ok (.invokevirtual 251, 3) := by decide +kernel
theorem dX8_digest_73 : decode cX8_digest 73 = .ok (.i2l, 1) := by decide +kernel
theorem dX8_digest_74 : decode cX8_digest 74 = .ok (.ladd, 1) := by decide +kernel
theorem dX8_digest_75 : decode cX8_digest 75 = .ok (.lstore_n 1, 1) := by decide +kernel
theorem dX8_digest_76 : decode cX8_digest 76 = .ok (.lload_n 1, 1) := by decide +kernel
theorem dX8_digest_77 : decode cX8_digest 77 = .ok (.ldc2_w 235, 3) := by decide +kernel
theorem dX8_digest_80 : decode cX8_digest 80 = .ok (.lmul, 1) := by decide +kernel
theorem dX8_digest_81 : decode cX8_digest 81 = .ok (.aload_n 0, 1) := by decide +kernel
theorem dX8_digest_82 : decode cX8_digest 82 = .ok (.invokevirtual 254, 3) := by decide +kernel
theorem dX8_digest_85 : decode cX8_digest 85 = .ok (.ifCond .eq 7, 3) := by decide +kernel
theorem dX8_digest_88 : decode cX8_digest 88 = .ok (.iconst 1, 1) := by decide +kernel
theorem dX8_digest_89 : decode cX8_digest 89 = .ok (.goto 4, 3) := by decide +kernel
theorem dX8_digest_92 : decode cX8_digest 92 = .ok (.iconst 0, 1) := by decide +kernel
theorem dX8_digest_93 : decode cX8_digest 93 = .ok (.i2l, 1) := by decide +kernel
theorem dX8_digest_94 : decode cX8_digest 94 = .ok (.ladd, 1) := by decide +kernel
theorem dX8_digest_95 : decode cX8_digest 95 = .ok (.lstore_n 1, 1) := by decide +kernel
theorem dX8_digest_96 : decode cX8_digest 96 = .ok (.iconst 0, 1) := by decide +kernel
theorem dX8_digest_97 : decode cX8_digest 97 = .ok (.istore_n 3, 1) := by decide +kernel
theorem dX8_digest_98 : decode cX8_digest 98 = .ok (.iload_n 3, 1) := by decide +kernel
theorem dX8_digest_99 : decode cX8_digest 99 = .ok (.aload_n 0, 1) := by decide +kernel
theorem dX8_digest_100 : decode cX8_digest 100 = .ok (.getfield 58, 3) := by decide +kernel
theorem dX8_digest_103 : decode cX8_digest 103 = .ok (.getfield 112, 3) := by decide +kernel
theorem dX8_digest_106 : decode cX8_digest 106 = .ok (.getfield 116, 3) := by decide +kernel
theorem dX8_digest_109 : decode cX8_digest 109 = .ok (.if_icmp .ge 16, 3) := by decide +kernel
theorem dX8_digest_112 : decode cX8_digest 112 = .ok (.aload_n 0, 1) := by decide +kernel
theorem dX8_digest_113 : decode cX8_digest 113 = .ok (.lload_n 1, 1) := by decide +kernel
theorem dX8_digest_114 : decode cX8_digest 114 = .ok (.iload_n 3, 1) := by decide +kernel
theorem dX8_digest_115 : decode cX8_digest 115 = .ok (.invokevirtual 257, 3) := by decide +kernel
theorem dX8_digest_118 : decode cX8_digest 118 = .ok (.lstore_n 1, 1) := by decide +kernel
theorem dX8_digest_119 : decode cX8_digest 119 = .ok (.iinc 3 1, 3) := by decide +kernel
theorem dX8_digest_122 : decode cX8_digest 122 = .ok (.goto (-24), 3) := by decide +kernel
theorem dX8_digest_125 : decode cX8_digest 125 = .ok (.lload_n 1, 1) := by decide +kernel
theorem dX8_digest_126 : decode cX8_digest 126 = .ok (.ldc2_w 235, 3) := by decide +kernel
theorem dX8_digest_129 : decode cX8_digest 129 = .ok (.lmul, 1) := by decide +kernel
theorem dX8_digest_130 : decode cX8_digest 130 = .ok (.aload_n 0, 1) := by decide +kernel
theorem dX8_digest_131 : decode cX8_digest 131 = .ok (.invokevirtual 261, 3) := by decide +kernel
theorem dX8_digest_134 : decode cX8_digest 134 = .ok (.i2l, 1) := by decide +kernel
theorem dX8_digest_135 : decode cX8_digest 135 = .ok (.ladd, 1) := by decide +kernel
theorem dX8_digest_136 : decode cX8_digest 136 = .ok (.lstore_n 1, 1) := by decide +kernel
theorem dX8_digest_137 : decode cX8_digest 137 = .ok (.lload_n 1, 1) := by decide +kernel
theorem dX8_digest_138 : decode cX8_digest 138 = .ok (.ldc2_w 235, 3) := by decide +kernel
theorem dX8_digest_141 : decode cX8_digest 141 = .ok (.lmul, 1) := by decide +kernel
theorem dX8_digest_142 : decode cX8_digest 142 = .ok (.aload_n 0, 1) := by decide +kernel
theorem dX8_digest_143 : decode cX8_digest 143 = .ok (.invokevirtual 264, 3) := by decide +kernel
theorem dX8_digest_146 : decode cX8_digest 146 = .ok (.i2l, 1) := by decide +kernel
theorem dX8_digest_147 : decode cX8_digest 147 = .ok (.ladd, 1) := by decide +kernel
theorem dX8_digest_148 : decode cX8_digest 148 = .ok (.lstore_n 1, 1) := by decide +kernel
theorem dX8_digest_149 : decode cX8_digest 149 = .ok (.lload_n 1, 1) := by decide +kernel
theorem dX8_digest_150 : decode cX8_digest 150 = .ok (.ldc2_w 235, 3) := by decide +kernel
theorem dX8_digest_153 : decode cX8_digest 153 = .ok (.lmul, 1) := by decide +kernel
theorem dX8_digest_154 : decode cX8_digest 154 = .ok (.aload_n 0, 1) := by decide +kernel
theorem dX8_digest_155 : decode cX8_digest 155 = .ok (.invokevirtual 267, 3) := by decide +kernel
theorem dX8_digest_158 : decode cX8_digest 158 = .ok (.i2l, 1) := by decide +kernel
theorem dX8_digest_159 : decode cX8_digest 159 = .ok (.ladd, 1) := by decide +kernel
theorem dX8_digest_160 : decode cX8_digest 160 = .ok (.lstore_n 1, 1) := by decide +kernel
theorem dX8_digest_161 : decode cX8_digest 161 = .ok (.iconst 0, 1) := by decide +kernel
theorem dX8_digest_162 : decode cX8_digest 162 = .ok (.istore_n 3, 1) := by decide +kernel
theorem dX8_digest_163 : decode cX8_digest 163 = .ok (.iload_n 3, 1) := by decide +kernel
theorem dX8_digest_164 : decode cX8_digest 164 = .ok (.aload_n 0, 1) := by decide +kernel
theorem dX8_digest_165 : decode cX8_digest 165 = .ok (.getfield 58, 3) := by decide +kernel
theorem dX8_digest_168 : decode cX8_digest 168 = .ok (.getfield 163, 3) := by decide +kernel
theorem dX8_digest_171 : decode cX8_digest 171 = .ok (.getfield 167, 3) := by decide +kernel
theorem dX8_digest_174 : decode cX8_digest 174 = .ok (.if_icmp .ge 47, 3) := by decide +kernel
theorem dX8_digest_177 : decode cX8_digest 177 = .ok (.lload_n 1, 1) := by decide +kernel
theorem dX8_digest_178 : decode cX8_digest 178 = .ok (.ldc2_w 235, 3) := by decide +kernel
theorem dX8_digest_181 : decode cX8_digest 181 = .ok (.lmul, 1) := by decide +kernel
theorem dX8_digest_182 : decode cX8_digest 182 = .ok (.aload_n 0, 1) := by decide +kernel
theorem dX8_digest_183 : decode cX8_digest 183 = .ok (.getfield 58, 3) := by decide +kernel
theorem dX8_digest_186 : decode cX8_digest 186 = .ok (.getfield 163, 3) := by decide +kernel
theorem dX8_digest_189 : decode cX8_digest 189 = .ok (.iload_n 3, 1) := by decide +kernel
theorem dX8_digest_190 : decode cX8_digest 190 = .ok (.invokevirtual 178, 3) := by decide +kernel
theorem dX8_digest_193 : decode cX8_digest 193 = .ok (.i2l, 1) := by decide +kernel
theorem dX8_digest_194 : decode cX8_digest 194 = .ok (.ladd, 1) := by decide +kernel
theorem dX8_digest_195 : decode cX8_digest 195 = .ok (.lstore_n 1, 1) := by decide +kernel
theorem dX8_digest_196 : decode cX8_digest 196 = .ok (.lload_n 1, 1) := by decide +kernel
theorem dX8_digest_197 : decode cX8_digest 197 = .ok (.ldc2_w 235, 3) := by decide +kernel
theorem dX8_digest_200 : decode cX8_digest 200 = .ok (.lmul, 1) := by decide +kernel
theorem dX8_digest_201 : decode cX8_digest 201 = .ok (.aload_n 0, 1) := by decide +kernel
theorem dX8_digest_202 : decode cX8_digest 202 = .ok (.getfield 58, 3) := by decide +kernel
theorem dX8_digest_205 : decode cX8_digest 205 = .ok (.getfield 163, 3) := by decide +kernel
theorem dX8_digest_208 : decode cX8_digest 208 = .ok (.iload_n 3, 1) := by decide +kernel
theorem dX8_digest_209 : decode cX8_digest 209 = .ok (.invokevirtual 181, 3) := by decide +kernel
theorem dX8_digest_212 : decode cX8_digest 212 = .ok (.i2l, 1) := by decide +kernel
theorem dX8_digest_213 : decode cX8_digest 213 = .ok (.ladd, 1) := by decide +kernel
theorem dX8_digest_214 : decode cX8_digest 214 = .ok (.lstore_n 1, 1) := by decide +kernel
theorem dX8_digest_215 : decode cX8_digest 215 = .ok (.iinc 3 1, 3) := by decide +kernel
theorem dX8_digest_218 : decode cX8_digest 218 = .ok (.goto (-55), 3) := by decide +kernel
theorem dX8_digest_221 : decode cX8_digest 221 = .ok (.lload_n 1, 1) := by decide +kernel
theorem dX8_digest_222 : decode cX8_digest 222 = .ok (.lreturn, 1) := by decide +kernel
theorem dX8_digestOfMirror_0 : decode cX8_digestOfMirror 0 = .ok (.lload_n 1, 1) := by decide +kernel
theorem dX8_digestOfMirror_1 : decode cX8_digestOfMirror 1 = .ok (.lstore 4, 2) := by decide +kernel
theorem dX8_digestOfMirror_3 : decode cX8_digestOfMirror 3 = .ok (.lload 4, 2) := by decide +kernel
theorem dX8_digestOfMirror_5 : decode cX8_digestOfMirror 5 = .ok (.ldc2_w 235, 3) := by decide +kernel
theorem dX8_digestOfMirror_8 : decode cX8_digestOfMirror 8 = .ok (.lmul, 1) := by decide +kernel
theorem dX8_digestOfMirror_9 : decode cX8_digestOfMirror 9 = .ok (.aload_n 0, 1) := by decide +kernel
theorem dX8_digestOfMirror_10 : decode cX8_digestOfMirror 10 = .ok (.getfield 58, 3) := by decide +kernel
theorem dX8_digestOfMirror_13 : decode cX8_digestOfMirror 13 = .ok (.getfield 112, 3) := by decide +kernel
theorem dX8_digestOfMirror_16 : decode cX8_digestOfMirror 16 = .ok (.sipush 129, 3) := by decide +kernel
theorem dX8_digestOfMirror_19 : decode cX8_digestOfMirror 19 = .ok (.iload_n 3, 1) := by decide +kernel
theorem dX8_digestOfMirror_20 : decode cX8_digestOfMirror 20 = .ok (.invokevirtual 145, 3) := by decide +kernel
theorem dX8_digestOfMirror_23 : decode cX8_digestOfMirror 23 = .ok (.i2l, 1) := by decide +kernel
theorem dX8_digestOfMirror_24 : decode cX8_digestOfMirror 24 = .ok (.ladd, 1) := by decide +kernel
theorem dX8_digestOfMirror_25 : decode cX8_digestOfMirror 25 = .ok (.lstore 4, 2) := by decide +kernel
theorem dX8_digestOfMirror_27 : decode cX8_digestOfMirror 27 = .ok (.lload 4, 2) := by decide +kernel
theorem dX8_digestOfMirror_29 : decode cX8_digestOfMirror 29 = .ok (.ldc2_w 235, 3) := by decide +kernel
theorem dX8_digestOfMirror_32 : decode cX8_digestOfMirror 32 = .ok (.lmul, 1) := by decide +kernel
theorem dX8_digestOfMirror_33 : decode cX8_digestOfMirror 33 = .ok (.aload_n 0, 1) := by decide +kernel
theorem dX8_digestOfMirror_34 : decode cX8_digestOfMirror 34 = .ok (.getfield 58, 3) := by decide +kernel
theorem dX8_digestOfMirror_37 : decode cX8_digestOfMirror 37 = .ok (.getfield 112, 3) := by decide +kernel
theorem dX8_digestOfMirror_40 : decode cX8_digestOfMirror 40 = .ok (.sipush 145, 3) := by decide +kernel
theorem dX8_digestOfMirror_43 : decode cX8_digestOfMirror 43 = .ok (.iload_n 3, 1) := by decide +kernel
theorem dX8_digestOfMirror_44 : decode cX8_digestOfMirror 44 = .ok (.invokevirtual 145, 3) := by decide +kernel
theorem dX8_digestOfMirror_47 : decode cX8_digestOfMirror 47 = .ok (.i2l, 1) := by decide +kernel
theorem dX8_digestOfMirror_48 : decode cX8_digestOfMirror 48 = .ok (.ladd, 1) := by decide +kernel
theorem dX8_digestOfMirror_49 : decode cX8_digestOfMirror 49 = .ok (.lstore 4, 2) := by decide +kernel
theorem dX8_digestOfMirror_51 : decode cX8_digestOfMirror 51 = .ok (.lload 4, 2) := by decide +kernel
theorem dX8_digestOfMirror_53 : decode cX8_digestOfMirror 53 = .ok (.ldc2_w 235, 3) := by decide +kernel
theorem dX8_digestOfMirror_56 : decode cX8_digestOfMirror 56 = .ok (.lmul, 1) := by decide +kernel
theorem dX8_digestOfMirror_57 : decode cX8_digestOfMirror 57 = .ok (.aload_n 0, 1) := by decide +kernel
theorem dX8_digestOfMirror_58 : decode cX8_digestOfMirror 58 = .ok (.getfield 58, 3) := by decide +kernel
theorem dX8_digestOfMirror_61 : decode cX8_digestOfMirror 61 = .ok (.getfield 112, 3) := by decide +kernel
theorem dX8_digestOfMirror_64 : decode cX8_digestOfMirror 64 = .ok (.sipush 130, 3) := by decide +kernel
theorem dX8_digestOfMirror_67 : decode cX8_digestOfMirror 67 = .ok (.iload_n 3, 1) := by decide +kernel
theorem dX8_digestOfMirror_68 : decode cX8_digestOfMirror 68 = .ok (.invokevirtual 145, 3) := by decide +kernel
theorem dX8_digestOfMirror_71 : decode cX8_digestOfMirror 71 = .ok (.i2l, 1) := by decide +kernel
theorem dX8_digestOfMirror_72 : decode cX8_digestOfMirror 72 = .ok (.ladd, 1) := by decide +kernel
theorem dX8_digestOfMirror_73 : decode cX8_digestOfMirror 73 = .ok (.lstore 4, 2) := by decide +kernel
theorem dX8_digestOfMirror_75 : decode cX8_digestOfMirror 75 = .ok (.lload 4, 2) := by decide +kernel
theorem dX8_digestOfMirror_77 : decode cX8_digestOfMirror 77 = .ok (.ldc2_w 235, 3) := by decide +kernel
theorem dX8_digestOfMirror_80 : decode cX8_digestOfMirror 80 = .ok (.lmul, 1) := by decide +kernel
theorem dX8_digestOfMirror_81 : decode cX8_digestOfMirror 81 = .ok (.aload_n 0, 1) := by decide +kernel
theorem dX8_digestOfMirror_82 : decode cX8_digestOfMirror 82 = .ok (.getfield 58, 3) := by decide +kernel
theorem dX8_digestOfMirror_85 : decode cX8_digestOfMirror 85 = .ok (.getfield 112, 3) := by decide +kernel
theorem dX8_digestOfMirror_88 : decode cX8_digestOfMirror 88 = .ok (.iload_n 3, 1) := by decide +kernel
theorem dX8_digestOfMirror_89 : decode cX8_digestOfMirror 89 = .ok (.invokevirtual 149, 3) := by decide +kernel
theorem dX8_digestOfMirror_92 : decode cX8_digestOfMirror 92 = .ok (.i2l, 1) := by decide +kernel
theorem dX8_digestOfMirror_93 : decode cX8_digestOfMirror 93 = .ok (.ladd, 1) := by decide +kernel
theorem dX8_digestOfMirror_94 : decode cX8_digestOfMirror 94 = .ok (.lstore 4, 2) := by decide +kernel
theorem dX8_digestOfMirror_96 : decode cX8_digestOfMirror 96 = .ok (.lload 4, 2) := by decide +kernel
theorem dX8_digestOfMirror_98 : decode cX8_digestOfMirror 98 = .ok (.ldc2_w 235, 3) := by decide +kernel
theorem dX8_digestOfMirror_101 : decode cX8_digestOfMirror 101 = .ok (.lmul, 1) := by decide +kernel
theorem dX8_digestOfMirror_102 : decode cX8_digestOfMirror 102 = .ok (.aload_n 0, 1) := by decide +kernel
theorem dX8_digestOfMirror_103 : decode cX8_digestOfMirror 103 = .ok (.getfield 58, 3) := by decide +kernel
theorem dX8_digestOfMirror_106 : decode cX8_digestOfMirror 106 = .ok (.getfield 112, 3) := by decide +kernel
theorem dX8_digestOfMirror_109 : decode cX8_digestOfMirror 109 = .ok (.sipush 141, 3) := by decide +kernel
theorem dX8_digestOfMirror_112 : decode cX8_digestOfMirror 112 = .ok (.iload_n 3, 1) := by decide +kernel
theorem dX8_digestOfMirror_113 : decode cX8_digestOfMirror 113 = .ok (.invokevirtual 145, 3) := by decide +kernel
theorem dX8_digestOfMirror_116 : decode cX8_digestOfMirror 116 = .ok (.i2l, 1) := by decide +kernel
theorem dX8_digestOfMirror_117 : decode cX8_digestOfMirror 117 = .ok (.ladd, 1) := by decide +kernel
theorem dX8_digestOfMirror_118 : decode cX8_digestOfMirror 118 = .ok (.lstore 4, 2) := by decide +kernel
theorem dX8_digestOfMirror_120 : decode cX8_digestOfMirror 120 = .ok (.lload 4, 2) := by decide +kernel
theorem dX8_digestOfMirror_122 : decode cX8_digestOfMirror 122 = .ok (.ldc2_w 235, 3) := by decide +kernel
theorem dX8_digestOfMirror_125 : decode cX8_digestOfMirror 125 = .ok (.lmul, 1) := by decide +kernel
theorem dX8_digestOfMirror_126 : decode cX8_digestOfMirror 126 = .ok (.aload_n 0, 1) := by decide +kernel
theorem dX8_digestOfMirror_127 : decode cX8_digestOfMirror 127 = .ok (.getfield 58, 3) := by decide +kernel
theorem dX8_digestOfMirror_130 : decode cX8_digestOfMirror 130 = .ok (.getfield 112, 3) := by decide +kernel
theorem dX8_digestOfMirror_133 : decode cX8_digestOfMirror 133 = .ok (.sipush 143, 3) := by decide +kernel
theorem dX8_digestOfMirror_136 : decode cX8_digestOfMirror 136 = .ok (.iload_n 3, 1) := by decide +kernel
theorem dX8_digestOfMirror_137 : decode cX8_digestOfMirror 137 = .ok (.invokevirtual 145, 3) := by decide +kernel
theorem dX8_digestOfMirror_140 : decode cX8_digestOfMirror 140 = .ok (.i2l, 1) := by decide +kernel
theorem dX8_digestOfMirror_141 : decode cX8_digestOfMirror 141 = .ok (.ladd, 1) := by decide +kernel
theorem dX8_digestOfMirror_142 : decode cX8_digestOfMirror 142 = .ok (.lstore 4, 2) := by decide +kernel
theorem dX8_digestOfMirror_144 : decode cX8_digestOfMirror 144 = .ok (.lload 4, 2) := by decide +kernel
theorem dX8_digestOfMirror_146 : decode cX8_digestOfMirror 146 = .ok (.ldc2_w 235, 3) := by decide +kernel
theorem dX8_digestOfMirror_149 : decode cX8_digestOfMirror 149 = .ok (.lmul, 1) := by decide +kernel
theorem dX8_digestOfMirror_150 : decode cX8_digestOfMirror 150 = .ok (.aload_n 0, 1) := by decide +kernel
theorem dX8_digestOfMirror_151 : decode cX8_digestOfMirror 151 = .ok (.getfield 58, 3) := by decide +kernel
theorem dX8_digestOfMirror_154 : decode cX8_digestOfMirror 154 = .ok (.getfield 112, 3) := by decide +kernel
theorem dX8_digestOfMirror_157 : decode cX8_digestOfMirror 157 = .ok (.sipush 144, 3) := by decide +kernel
theorem dX8_digestOfMirror_160 : decode cX8_digestOfMirror 160 = .ok (.iload_n 3, 1) := by decide +kernel
theorem dX8_digestOfMirror_161 : decode cX8_digestOfMirror 161 = .ok (.invokevirtual 145, 3) := by decide +kernel
theorem dX8_digestOfMirror_164 : decode cX8_digestOfMirror 164 = .ok (.i2l, 1) := by decide +kernel
theorem dX8_digestOfMirror_165 : decode cX8_digestOfMirror 165 = .ok (.ladd, 1) := by decide +kernel
theorem dX8_digestOfMirror_166 : decode cX8_digestOfMirror 166 = .ok (.lstore 4, 2) := by decide +kernel
theorem dX8_digestOfMirror_168 : decode cX8_digestOfMirror 168 = .ok (.lload 4, 2) := by decide +kernel
theorem dX8_digestOfMirror_170 : decode cX8_digestOfMirror 170 = .ok (.ldc2_w 235, 3) := by decide +kernel
theorem dX8_digestOfMirror_173 : decode cX8_digestOfMirror 173 = .ok (.lmul, 1) := by decide +kernel
theorem dX8_digestOfMirror_174 : decode cX8_digestOfMirror 174 = .ok (.aload_n 0, 1) := by decide +kernel
theorem dX8_digestOfMirror_175 : decode cX8_digestOfMirror 175 = .ok (.getfield 58, 3) := by decide +kernel
theorem dX8_digestOfMirror_178 : decode cX8_digestOfMirror 178 = .ok (.getfield 112, 3) := by decide +kernel
theorem dX8_digestOfMirror_181 : decode cX8_digestOfMirror 181 = .ok (.getfield 152, 3) := by decide +kernel
theorem dX8_digestOfMirror_184 : decode cX8_digestOfMirror 184 = .ok (.iload_n 3, 1) := by decide +kernel
theorem dX8_digestOfMirror_185 : decode cX8_digestOfMirror 185 = .ok (.if_icmp .ne 7, 3) := by decide +kernel
theorem dX8_digestOfMirror_188 : decode cX8_digestOfMirror 188 = .ok (.iconst 1, 1) := by decide +kernel
theorem dX8_digestOfMirror_189 : decode cX8_digestOfMirror 189 = .ok (.goto 4, 3) := by decide +kernel
theorem dX8_digestOfMirror_192 : decode cX8_digestOfMirror 192 = .ok (.iconst 0, 1) := by decide +kernel
theorem dX8_digestOfMirror_193 : decode cX8_digestOfMirror 193 = .ok (.i2l, 1) := by decide +kernel
theorem dX8_digestOfMirror_194 : decode cX8_digestOfMirror 194 = .ok (.ladd, 1) := by decide +kernel
theorem dX8_digestOfMirror_195 : decode cX8_digestOfMirror 195 = .ok (.lstore 4, 2) := by decide +kernel
theorem dX8_digestOfMirror_197 : decode cX8_digestOfMirror 197 = .ok (.lload 4, 2) := by decide +kernel
theorem dX8_digestOfMirror_199 : decode cX8_digestOfMirror 199 = .ok (.lreturn, 1) := by decide +kernel
theorem dX8_lightIfTurned_0 : decode cX8_lightIfTurned 0 = .ok (.aload_n 0, 1) := by decide +kernel
theorem dX8_lightIfTurned_1 : decode cX8_lightIfTurned 1 = .ok (.getfield 62, 3) := by decide +kernel
theorem dX8_lightIfTurned_4 : decode cX8_lightIfTurned 4 = .ok (.getfield 112, 3) := by decide +kernel
theorem dX8_lightIfTurned_7 : decode cX8_lightIfTurned 7 = .ok (.iload_n 1, 1) := by decide +kernel
theorem dX8_lightIfTurned_8 : decode cX8_lightIfTurned 8 = .ok (.iload_n 2, 1) := by decide +kernel
theorem dX8_lightIfTurned_9 : decode cX8_lightIfTurned 9 = .ok (.invokevirtual 202, 3) := by decide +kernel
theorem dX8_lightIfTurned_12 : decode cX8_lightIfTurned 12 = .ok (.aload_n 0, 1) := by decide +kernel
theorem dX8_lightIfTurned_13 : decode cX8_lightIfTurned 13 = .ok (.getfield 62, 3) := by decide +kernel
theorem dX8_lightIfTurned_16 : decode cX8_lightIfTurned 16 = .ok (.getfield 112, 3) := by decide +kernel
theorem dX8_lightIfTurned_19 : decode cX8_lightIfTurned 19 = .ok (.invokevirtual 127, 3) := by decide +kernel
theorem dX8_lightIfTurned_22 : decode cX8_lightIfTurned 22 = .ok (.ireturn, 1) := by decide +kernel
theorem dX8_checkMirror_0 : decode cX8_checkMirror 0 = .ok (.iload_n 1, 1) := by decide +kernel
theorem dX8_checkMirror_1 : decode cX8_checkMirror 1 = .ok (.ifCond .lt 17, 3) := by decide +kernel
theorem dX8_checkMirror_4 : decode cX8_checkMirror 4 = .ok (.iload_n 1, 1) := by decide +kernel
theorem dX8_checkMirror_5 : decode cX8_checkMirror 5 = .ok (.aload_n 0, 1) := by decide +kernel
theorem dX8_checkMirror_6 : decode cX8_checkMirror 6 = .ok (.getfield 58, 3) := by decide +kernel
theorem dX8_checkMirror_9 : decode cX8_checkMirror 9 = .ok (.getfield 112, 3) := by decide +kernel
theorem dX8_checkMirror_12 : decode cX8_checkMirror 12 = .ok (.getfield 116, 3) := by decide +kernel
theorem dX8_checkMirror_15 : decode cX8_checkMirror 15 = .ok (.if_icmp .lt 14, 3) := by decide +kernel
theorem dX8_checkMirror_18 : decode cX8_checkMirror 18 = .ok (.new 155, 3) := by decide +kernel
theorem dX8_checkMirror_21 : decode cX8_checkMirror 21 = .ok (.dup, 1) := by decide +kernel
theorem dX8_checkMirror_22 : decode cX8_checkMirror 22 = .ok (.ldc_w 270, 3) := by decide +kernel
theorem dX8_checkMirror_25 : decode cX8_checkMirror 25 = .ok (.invokespecial 159, 3) := by decide +kernel
theorem dX8_checkMirror_28 : decode cX8_checkMirror 28 = .ok (.athrow, 1) := by decide +kernel
theorem dX8_checkMirror_29 : decode cX8_checkMirror 29 = .ok (.return_, 1) := by decide +kernel
theorem dX8_checkJob_0 : decode cX8_checkJob 0 = .ok (.iload_n 1, 1) := by decide +kernel
theorem dX8_checkJob_1 : decode cX8_checkJob 1 = .ok (.ifCond .lt 17, 3) := by decide +kernel
theorem dX8_checkJob_4 : decode cX8_checkJob 4 = .ok (.iload_n 1, 1) := by decide +kernel
theorem dX8_checkJob_5 : decode cX8_checkJob 5 = .ok (.aload_n 0, 1) := by decide +kernel
theorem dX8_checkJob_6 : decode cX8_checkJob 6 = .ok (.getfield 58, 3) := by decide +kernel
theorem dX8_checkJob_9 : decode cX8_checkJob 9 = .ok (.getfield 163, 3) := by decide +kernel
theorem dX8_checkJob_12 : decode cX8_checkJob 12 = .ok (.getfield 167, 3) := by decide +kernel
theorem dX8_checkJob_15 : decode cX8_checkJob 15 = .ok (.if_icmp .lt 14, 3) := by decide +kernel
theorem dX8_checkJob_18 : decode cX8_checkJob 18 = .ok (.new 155, 3) := by decide +kernel
theorem dX8_checkJob_21 : decode cX8_checkJob 21 = .ok (.dup, 1) := by decide +kernel
theorem dX8_checkJob_22 : decode cX8_checkJob 22 = .ok (.ldc_w 272, 3) := by decide +kernel
theorem dX8_checkJob_25 : decode cX8_checkJob 25 = .ok (.invokespecial 159, 3) := by decide +kernel
theorem dX8_checkJob_28 : decode cX8_checkJob 28 = .ok (.athrow, 1) := by decide +kernel
theorem dX8_checkJob_29 : decode cX8_checkJob 29 = .ok (.return_, 1) := by decide +kernel
theorem dX8_checkMinutes_0 : decode cX8_checkMinutes 0 = .ok (.iload_n 0, 1) := by decide +kernel
theorem dX8_checkMinutes_1 : decode cX8_checkMinutes 1 = .ok (.iconst 1, 1) := by decide +kernel
theorem dX8_checkMinutes_2 : decode cX8_checkMinutes 2 = .ok (.if_icmp .lt 9, 3) := by decide +kernel
theorem dX8_checkMinutes_5 : decode cX8_checkMinutes 5 = .ok (.iload_n 0, 1) := by decide +kernel
theorem dX8_checkMinutes_6 : decode cX8_checkMinutes 6 = .ok (.bipush 100, 2) := by decide +kernel
theorem dX8_checkMinutes_8 : decode cX8_checkMinutes 8 = .ok (.if_icmp .le 14, 3) := by decide +kernel
theorem dX8_checkMinutes_11 : decode cX8_checkMinutes 11 = .ok (.new 83, 3) := by decide +kernel
theorem dX8_checkMinutes_14 : decode cX8_checkMinutes 14 = .ok (.dup, 1) := by decide +kernel
theorem dX8_checkMinutes_15 : decode cX8_checkMinutes 15 = .ok (.ldc_w 274, 3) := by decide +kernel
theorem dX8_checkMinutes_18 : decode cX8_checkMinutes 18 = .ok (.invokespecial 87, 3) := by decide +kernel
theorem dX8_checkMinutes_21 : decode cX8_checkMinutes 21 = .ok (.athrow, 1) := by decide +kernel
theorem dX8_checkMinutes_22 : decode cX8_checkMinutes 22 = .ok (.return_, 1) := by decide +kernel
theorem dX8_isOrder_0 : decode cX8_isOrder 0 = .ok (.iload_n 0, 1) := by decide +kernel
theorem dX8_isOrder_1 : decode cX8_isOrder 1 = .ok (.sipush 133, 3) := by decide +kernel
theorem dX8_isOrder_4 : decode cX8_isOrder 4 = .ok (.if_icmp .eq 31, 3) := by decide +kernel
theorem dX8_isOrder_7 : decode cX8_isOrder 7 = .ok (.iload_n 0, 1) := by decide +kernel
theorem dX8_isOrder_8 : decode cX8_isOrder 8 = .ok (.sipush 135, 3) := by decide +kernel
theorem dX8_isOrder_11 : decode cX8_isOrder 11 = .ok (.if_icmp .eq 24, 3) := by decide +kernel
theorem dX8_isOrder_14 : decode cX8_isOrder 14 = .ok (.iload_n 0, 1) := by decide +kernel
theorem dX8_isOrder_15 : decode cX8_isOrder 15 = .ok (.sipush 136, 3) := by decide +kernel
theorem dX8_isOrder_18 : decode cX8_isOrder 18 = .ok (.if_icmp .eq 17, 3) := by decide +kernel
theorem dX8_isOrder_21 : decode cX8_isOrder 21 = .ok (.iload_n 0, 1) := by decide +kernel
theorem dX8_isOrder_22 : decode cX8_isOrder 22 = .ok (.sipush 137, 3) := by decide +kernel
theorem dX8_isOrder_25 : decode cX8_isOrder 25 = .ok (.if_icmp .eq 10, 3) := by decide +kernel
theorem dX8_isOrder_28 : decode cX8_isOrder 28 = .ok (.iload_n 0, 1) := by decide +kernel
theorem dX8_isOrder_29 : decode cX8_isOrder 29 = .ok (.sipush 138, 3) := by decide +kernel
theorem dX8_isOrder_32 : decode cX8_isOrder 32 = .ok (.if_icmp .ne 7, 3) := by decide +kernel
theorem dX8_isOrder_35 : decode cX8_isOrder 35 = .ok (.iconst 1, 1) := by decide +kernel
theorem dX8_isOrder_36 : decode cX8_isOrder 36 = .ok (.goto 4, 3) := by decide +kernel
theorem dX8_isOrder_39 : decode cX8_isOrder 39 = .ok (.iconst 0, 1) := by decide +kernel
theorem dX8_isOrder_40 : decode cX8_isOrder 40 = .ok (.ireturn, 1) := by decide +kernel
theorem dX8_isOrderBySum_0 : decode cX8_isOrderBySum 0 = .ok (.iload_n 0, 1) := by decide +kernel
theorem dX8_isOrderBySum_1 : decode cX8_isOrderBySum 1 = .ok (.sipush 133, 3) := by decide +kernel
theorem dX8_isOrderBySum_4 : decode cX8_isOrderBySum 4 = .ok (.if_icmp .eq 10, 3) := by decide +kernel
theorem dX8_isOrderBySum_7 : decode cX8_isOrderBySum 7 = .ok (.iload_n 0, 1) := by decide +kernel
theorem dX8_isOrderBySum_8 : decode cX8_isOrderBySum 8 = .ok (.sipush 135, 3) := by decide +kernel
theorem dX8_isOrderBySum_11 : decode cX8_isOrderBySum 11 = .ok (.if_icmp .ne 7, 3) := by decide +kernel
theorem dX8_isOrderBySum_14 : decode cX8_isOrderBySum 14 = .ok (.iconst 1, 1) := by decide +kernel
theorem dX8_isOrderBySum_15 : decode cX8_isOrderBySum 15 = .ok (.goto 4, 3) := by decide +kernel
theorem dX8_isOrderBySum_18 : decode cX8_isOrderBySum 18 = .ok (.iconst 0, 1) := by decide +kernel
theorem dX8_isOrderBySum_19 : decode cX8_isOrderBySum 19 = .ok (.ireturn, 1) := by decide +kernel
theorem dX8_hold_0 : decode cX8_hold 0 = .ok (.iload_n 2, 1) := by decide +kernel
theorem dX8_hold_1 : decode cX8_hold 1 = .ok (.i2l, 1) := by decide +kernel
theorem dX8_hold_2 : decode cX8_hold 2 = .ok (.iload_n 3, 1) := by decide +kernel
theorem dX8_hold_3 : decode cX8_hold 3 = .ok (.i2l, 1) := by decide +kernel
theorem dX8_hold_4 : decode cX8_hold 4 = .ok (.lload_n 0, 1) := by decide +kernel
theorem dX8_hold_5 : decode cX8_hold 5 = .ok (.invokestatic 276, 3) := by decide +kernel
theorem dX8_hold_8 : decode cX8_hold 8 = .ok (.invokestatic 282, 3) := by decide +kernel
theorem dX8_hold_11 : decode cX8_hold 11 = .ok (.l2i, 1) := by decide +kernel
theorem dX8_hold_12 : decode cX8_hold 12 = .ok (.ireturn, 1) := by decide +kernel
end
section
theorem dX9_init_0 : decode cX9_init 0 = .ok (.aload_n 0, 1) := by decide +kernel
theorem dX9_init_1 : decode cX9_init 1 = .ok (.invokespecial 3, 3) := by decide +kernel
theorem dX9_init_4 : decode cX9_init 4 = .ok (.aload_n 0, 1) := by decide +kernel
theorem dX9_init_5 : decode cX9_init 5 = .ok (.bipush 10, 2) := by decide +kernel
theorem dX9_init_7 : decode cX9_init 7 = .ok (.newarray .int, 2) := by decide +kernel
theorem dX9_init_9 : decode cX9_init 9 = .ok (.putfield 9, 3) := by decide +kernel
theorem dX9_init_12 : decode cX9_init 12 = .ok (.aload_n 0, 1) := by decide +kernel
theorem dX9_init_13 : decode cX9_init 13 = .ok (.bipush 10, 2) := by decide +kernel
theorem dX9_init_15 : decode cX9_init 15 = .ok (.newarray .int, 2) := by decide +kernel
theorem dX9_init_17 : decode cX9_init 17 = .ok (.putfield 15, 3) := by decide +kernel
theorem dX9_init_20 : decode cX9_init 20 = .ok (.aload_n 0, 1) := by decide +kernel
theorem dX9_init_21 : decode cX9_init 21 = .ok (.bipush 10, 2) := by decide +kernel
theorem dX9_init_23 : decode cX9_init 23 = .ok (.newarray .int, 2) := by decide +kernel
theorem dX9_init_25 : decode cX9_init 25 = .ok (.putfield 18, 3) := by decide +kernel
theorem dX9_init_28 : decode cX9_init 28 = .ok (.aload_n 0, 1) := by decide +kernel
theorem dX9_init_29 : decode cX9_init 29 = .ok (.bipush 10, 2) := by decide +kernel
theorem dX9_init_31 : decode cX9_init 31 = .ok (.newarray .int, 2) := by decide +kernel
theorem dX9_init_33 : decode cX9_init 33 = .ok (.putfield 21, 3) := by decide +kernel
theorem dX9_init_36 : decode cX9_init 36 = .ok (.aload_n 0, 1) := by decide +kernel
theorem dX9_init_37 : decode cX9_init 37 = .ok (.bipush 12, 2) := by decide +kernel
theorem dX9_init_39 : decode cX9_init 39 = .ok (.newarray .int, 2) := by decide +kernel
theorem dX9_init_41 : decode cX9_init 41 = .ok (.putfield 24, 3) := by decide +kernel
theorem dX9_init_44 : decode cX9_init 44 = .ok (.aload_n 0, 1) := by decide +kernel
theorem dX9_init_45 : decode cX9_init 45 = .ok (.bipush 12, 2) := by decide +kernel
theorem dX9_init_47 : decode cX9_init 47 = .ok (.newarray .int, 2) := by decide +kernel
theorem dX9_init_49 : decode cX9_init 49 = .ok (.putfield 27, 3) := by decide +kernel
theorem dX9_init_52 : decode cX9_init 52 = .ok (.return_, 1) := by decide +kernel
theorem dX9_become_0 : decode cX9_become 0 = .ok (.aload_n 1, 1) := by decide +kernel
theorem dX9_become_1 : decode cX9_become 1 = .ok (.getfield 9, 3) := by decide +kernel
theorem dX9_become_4 : decode cX9_become 4 = .ok (.aload_n 0, 1) := by decide +kernel
theorem dX9_become_5 : decode cX9_become 5 = .ok (.getfield 9, 3) := by decide +kernel
theorem dX9_become_8 : decode cX9_become 8 = .ok (.invokestatic 30, 3) := by decide +kernel
theorem dX9_become_11 : decode cX9_become 11 = .ok (.aload_n 1, 1) := by decide +kernel
theorem dX9_become_12 : decode cX9_become 12 = .ok (.getfield 15, 3) := by decide +kernel
theorem dX9_become_15 : decode cX9_become 15 = .ok (.aload_n 0, 1) := by decide +kernel
theorem dX9_become_16 : decode cX9_become 16 = .ok (.getfield 15, 3) := by decide +kernel
theorem dX9_become_19 : decode cX9_become 19 = .ok (.invokestatic 30, 3) := by decide +kernel
theorem dX9_become_22 : decode cX9_become 22 = .ok (.aload_n 1, 1) := by decide +kernel
theorem dX9_become_23 : decode cX9_become 23 = .ok (.getfield 18, 3) := by decide +kernel
theorem dX9_become_26 : decode cX9_become 26 = .ok (.aload_n 0, 1) := by decide +kernel
theorem dX9_become_27 : decode cX9_become 27 = .ok (.getfield 18, 3) := by decide +kernel
theorem dX9_become_30 : decode cX9_become 30 = .ok (.invokestatic 30, 3) := by decide +kernel
theorem dX9_become_33 : decode cX9_become 33 = .ok (.aload_n 1, 1) := by decide +kernel
theorem dX9_become_34 : decode cX9_become 34 = .ok (.getfield 21, 3) := by decide +kernel
theorem dX9_become_37 : decode cX9_become 37 = .ok (.aload_n 0, 1) := by decide +kernel
theorem dX9_become_38 : decode cX9_become 38 = .ok (.getfield 21, 3) := by decide +kernel
theorem dX9_become_41 : decode cX9_become 41 = .ok (.invokestatic 30, 3) := by decide +kernel
theorem dX9_become_44 : decode cX9_become 44 = .ok (.aload_n 1, 1) := by decide +kernel
theorem dX9_become_45 : decode cX9_become 45 = .ok (.getfield 24, 3) := by decide +kernel
theorem dX9_become_48 : decode cX9_become 48 = .ok (.aload_n 0, 1) := by decide +kernel
theorem dX9_become_49 : decode cX9_become 49 = .ok (.getfield 24, 3) := by decide +kernel
theorem dX9_become_52 : decode cX9_become 52 = .ok (.invokestatic 30, 3) := by decide +kernel
theorem dX9_become_55 : decode cX9_become 55 = .ok (.aload_n 1, 1) := by decide +kernel
theorem dX9_become_56 : decode cX9_become 56 = .ok (.getfield 27, 3) := by decide +kernel
theorem dX9_become_59 : decode cX9_become 59 = .ok (.aload_n 0, 1) := by decide +kernel
theorem dX9_become_60 : decode cX9_become 60 = .ok (.getfield 27, 3) := by decide +kernel
theorem dX9_become_63 : decode cX9_become 63 = .ok (.invokestatic 30, 3) := by decide +kernel
theorem dX9_become_66 : decode cX9_become 66 = .ok (.aload_n 0, 1) := by decide +kernel
theorem dX9_become_67 : decode cX9_become 67 = .ok (.aload_n 1, 1) := by decide +kernel
theorem dX9_become_68 : decode cX9_become 68 = .ok (.getfield 36, 3) := by decide +kernel
theorem dX9_become_71 : decode cX9_become 71 = .ok (.putfield 36, 3) := by decide +kernel
theorem dX9_become_74 : decode cX9_become 74 = .ok (.aload_n 0, 1) := by decide +kernel
theorem dX9_become_75 : decode cX9_become 75 = .ok (.aload_n 1, 1) := by decide +kernel
theorem dX9_become_76 : decode cX9_become 76 = .ok (.getfield 40, 3) := by decide +kernel
theorem dX9_become_79 : decode cX9_become 79 = .ok (.putfield 40, 3) := by decide +kernel
theorem dX9_become_82 : decode cX9_become 82 = .ok (.aload_n 0, 1) := by decide +kernel
theorem dX9_become_83 : decode cX9_become 83 = .ok (.aload_n 1, 1) := by decide +kernel
theorem dX9_become_84 : decode cX9_become 84 = .ok (.getfield 43, 3) := by decide +kernel
theorem dX9_become_87 : decode cX9_become 87 = .ok (.putfield 43, 3) := by decide +kernel
theorem dX9_become_90 : decode cX9_become 90 = .ok (.aload_n 0, 1) := by decide +kernel
theorem dX9_become_91 : decode cX9_become 91 = .ok (.aload_n 1, 1) := by decide +kernel
theorem dX9_become_92 : decode cX9_become 92 = .ok (.getfield 46, 3) := by decide +kernel
theorem dX9_become_95 : decode cX9_become 95 = .ok (.putfield 46, 3) := by decide +kernel
theorem dX9_become_98 : decode cX9_become 98 = .ok (.return_, 1) := by decide +kernel
theorem dX9_begin_0 : decode cX9_begin 0 = .ok (.iconst 0, 1) := by decide +kernel
theorem dX9_begin_1 : decode cX9_begin 1 = .ok (.istore_n 2, 1) := by decide +kernel
theorem dX9_begin_2 : decode cX9_begin 2 = .ok (.iload_n 2, 1) := by decide +kernel
theorem dX9_begin_3 : decode cX9_begin 3 = .ok (.aload_n 1, 1) := by decide +kernel
theorem dX9_begin_4 : decode cX9_begin 4 = .ok (.getfield 49, 3) := by decide +kernel
theorem dX9_begin_7 : decode cX9_begin 7 = .ok (.if_icmp .ge 48, 3) := by decide +kernel
theorem dX9_begin_10 : decode cX9_begin 10 = .ok (.aload_n 0, 1) := by decide +kernel
theorem dX9_begin_11 : decode cX9_begin 11 = .ok (.getfield 9, 3) := by decide +kernel
theorem dX9_begin_14 : decode cX9_begin 14 = .ok (.iload_n 2, 1) := by decide +kernel
theorem dX9_begin_15 : decode cX9_begin 15 = .ok (.aload_n 1, 1) := by decide +kernel
theorem dX9_begin_16 : decode cX9_begin 16 = .ok (.getfield 52, 3) := by decide +kernel
theorem dX9_begin_19 : decode cX9_begin 19 = .ok (.iload_n 2, 1) := by decide +kernel
theorem dX9_begin_20 : decode cX9_begin 20 = .ok (.iaload, 1) := by decide +kernel
theorem dX9_begin_21 : decode cX9_begin 21 = .ok (.iastore, 1) := by decide +kernel
theorem dX9_begin_22 : decode cX9_begin 22 = .ok (.aload_n 0, 1) := by decide +kernel
theorem dX9_begin_23 : decode cX9_begin 23 = .ok (.getfield 15, 3) := by decide +kernel
theorem dX9_begin_26 : decode cX9_begin 26 = .ok (.iload_n 2, 1) := by decide +kernel
theorem dX9_begin_27 : decode cX9_begin 27 = .ok (.bipush 100, 2) := by decide +kernel
theorem dX9_begin_29 : decode cX9_begin 29 = .ok (.iastore, 1) := by decide +kernel
theorem dX9_begin_30 : decode cX9_begin 30 = .ok (.aload_n 0, 1) := by decide +kernel
theorem dX9_begin_31 : decode cX9_begin 31 = .ok (.getfield 18, 3) := by decide +kernel
theorem dX9_begin_34 : decode cX9_begin 34 = .ok (.iload_n 2, 1) := by decide +kernel
theorem dX9_begin_35 : decode cX9_begin 35 = .ok (.aload_n 1, 1) := by decide +kernel
theorem dX9_begin_36 : decode cX9_begin 36 = .ok (.getfield 53, 3) := by decide +kernel
theorem dX9_begin_39 : decode cX9_begin 39 = .ok (.iload_n 2, 1) := by decide +kernel
theorem dX9_begin_40 : decode cX9_begin 40 = .ok (.iaload, 1) := by decide +kernel
theorem dX9_begin_41 : decode cX9_begin 41 = .ok (.iastore, 1) := by decide +kernel
theorem dX9_begin_42 : decode cX9_begin 42 = .ok (.aload_n 0, 1) := by decide +kernel
theorem dX9_begin_43 : decode cX9_begin 43 = .ok (.getfield 21, 3) := by decide +kernel
theorem dX9_begin_46 : decode cX9_begin 46 = .ok (.iload_n 2, 1) := by decide +kernel
theorem dX9_begin_47 : decode cX9_begin 47 = .ok (.iload_n 2, 1) := by decide +kernel
theorem dX9_begin_48 : decode cX9_begin 48 = .ok (.iastore, 1) := by decide +kernel
theorem dX9_begin_49 : decode cX9_begin 49 = .ok (.iinc 2 1, 3) := by decide +kernel
theorem dX9_begin_52 : decode cX9_begin 52 = .ok (.goto (-50), 3) := by decide +kernel
theorem dX9_begin_55 : decode cX9_begin 55 = .ok (.aload_n 0, 1) := by decide +kernel
theorem dX9_begin_56 : decode cX9_begin 56 = .ok (.iconst 0, 1) := by decide +kernel
theorem dX9_begin_57 : decode cX9_begin 57 = .ok (.putfield 36, 3) := by decide +kernel
theorem dX9_begin_60 : decode cX9_begin 60 = .ok (.aload_n 0, 1) := by decide +kernel
theorem dX9_begin_61 : decode cX9_begin 61 = .ok (.iconst 0, 1) := by decide +kernel
theorem dX9_begin_62 : decode cX9_begin 62 = .ok (.putfield 40, 3) := by decide +kernel
theorem dX9_begin_65 : decode cX9_begin 65 = .ok (.aload_n 0, 1) := by decide +kernel
theorem dX9_begin_66 : decode cX9_begin 66 = .ok (.iconst 0, 1) := by decide +kernel
theorem dX9_begin_67 : decode cX9_begin 67 = .ok (.putfield 43, 3) := by decide +kernel
theorem dX9_begin_70 : decode cX9_begin 70 = .ok (.aload_n 0, 1) := by decide +kernel
theorem dX9_begin_71 : decode cX9_begin 71 = .ok (.iconst 0, 1) := by decide +kernel
theorem dX9_begin_72 : decode cX9_begin 72 = .ok (.putfield 46, 3) := by decide +kernel
theorem dX9_begin_75 : decode cX9_begin 75 = .ok (.return_, 1) := by decide +kernel
theorem dX9_isCovered_0 : decode cX9_isCovered 0 = .ok (.aload_n 0, 1) := by decide +kernel
theorem dX9_isCovered_1 : decode cX9_isCovered 1 = .ok (.getfield 40, 3) := by decide +kernel
theorem dX9_isCovered_4 : decode cX9_isCovered 4 = .ok (.ifCond .le 17, 3) := by decide +kernel
theorem dX9_isCovered_7 : decode cX9_isCovered 7 = .ok (.aload_n 0, 1) := by decide +kernel
theorem dX9_isCovered_8 : decode cX9_isCovered 8 = .ok (.getfield 27, 3) := by decide +kernel
theorem dX9_isCovered_11 : decode cX9_isCovered 11 = .ok (.iconst 0, 1) := by decide +kernel
theorem dX9_isCovered_12 : decode cX9_isCovered 12 = .ok (.iaload, 1) := by decide +kernel
theorem dX9_isCovered_13 : decode cX9_isCovered 13 = .ok (.iload_n 1, 1) := by decide +kernel
theorem dX9_isCovered_14 : decode cX9_isCovered 14 = .ok (.if_icmp .ne 7, 3) := by decide +kernel
theorem dX9_isCovered_17 : decode cX9_isCovered 17 = .ok (.iconst 1, 1) := by decide +kernel
theorem dX9_isCovered_18 : decode cX9_isCovered 18 = .ok (.goto 4, 3) := by decide +kernel
theorem dX9_isCovered_21 : decode cX9_isCovered 21 = .ok (.iconst 0, 1) := by decide +kernel
theorem dX9_isCovered_22 : decode cX9_isCovered 22 = .ok (.ireturn, 1) := by decide +kernel
theorem dX9_find_0 : decode cX9_find 0 = .ok (.iconst 0, 1) := by decide +kernel
theorem dX9_find_1 : decode cX9_find 1 = .ok (.istore_n 3, 1) := by decide +kernel
theorem dX9_find_2 : decode cX9_find 2 = .ok (.iload_n 3, 1) := by decide +kernel
theorem dX9_find_3 : decode cX9_find 3 = .ok (.aload_n 0, 1) := by decide +kernel
theorem dX9_find_4 : decode cX9_find 4 = .ok (.getfield 36, 3) := by decide +kernel
theorem dX9_find_7 : decode cX9_find 7 = .ok (.if_icmp .ge 31, 3) := by decide +kernel
theorem dX9_find_10 : decode cX9_find 10 = .ok (.aload_n 0, 1) := by decide +kernel
theorem dX9_find_11 : decode cX9_find 11 = .ok (.getfield 24, 3) := by decide +kernel
theorem dX9_find_14 : decode cX9_find 14 = .ok (.iload_n 3, 1) := by decide +kernel
theorem dX9_find_15 : decode cX9_find 15 = .ok (.iaload, 1) := by decide +kernel
theorem dX9_find_16 : decode cX9_find 16 = .ok (.iload_n 1, 1) := by decide +kernel
theorem dX9_find_17 : decode cX9_find 17 = .ok (.if_icmp .ne 15, 3) := by decide +kernel
theorem dX9_find_20 : decode cX9_find 20 = .ok (.aload_n 0, 1) := by decide +kernel
theorem dX9_find_21 : decode cX9_find 21 = .ok (.getfield 27, 3) := by decide +kernel
theorem dX9_find_24 : decode cX9_find 24 = .ok (.iload_n 3, 1) := by decide +kernel
theorem dX9_find_25 : decode cX9_find 25 = .ok (.iaload, 1) := by decide +kernel
theorem dX9_find_26 : decode cX9_find 26 = .ok (.iload_n 2, 1) := by decide +kernel
theorem dX9_find_27 : decode cX9_find 27 = .ok (.if_icmp .ne 5, 3) := by decide +kernel
theorem dX9_find_30 : decode cX9_find 30 = .ok (.iload_n 3, 1) := by decide +kernel
theorem dX9_find_31 : decode cX9_find 31 = .ok (.ireturn, 1) := by decide +kernel
theorem dX9_find_32 : decode cX9_find 32 = .ok (.iinc 3 1, 3) := by decide +kernel
theorem dX9_find_35 : decode cX9_find 35 = .ok (.goto (-33), 3) := by decide +kernel
theorem dX9_find_38 : decode cX9_find 38 = .ok (.iconst (-1), 1) := by decide +kernel
theorem dX9_find_39 : decode cX9_find 39 = .ok (.ireturn, 1) := by decide +kernel
theorem dX9_order_0 : decode cX9_order 0 = .ok (.aload_n 0, 1) := by decide +kernel
theorem dX9_order_1 : decode cX9_order 1 = .ok (.getfield 36, 3) := by decide +kernel
theorem dX9_order_4 : decode cX9_order 4 = .ok (.bipush 12, 2) := by decide +kernel
theorem dX9_order_6 : decode cX9_order 6 = .ok (.if_icmp .eq 13, 3) := by decide +kernel
theorem dX9_order_9 : decode cX9_order 9 = .ok (.aload_n 0, 1) := by decide +kernel
theorem dX9_order_10 : decode cX9_order 10 = .ok (.iload_n 1, 1) := by decide +kernel
theorem dX9_order_11 : decode cX9_order 11 = .ok (.iload_n 2, 1) := by decide +kernel
theorem dX9_order_12 : decode cX9_order 12 = .ok (.invokevirtual 54, 3) := by decide +kernel
theorem dX9_order_15 : decode cX9_order 15 = .ok (.iconst (-1), 1) := by decide +kernel
theorem dX9_order_16 : decode cX9_order 16 = .ok (.if_icmp .eq 5, 3) := by decide +kernel
theorem dX9_order_19 : decode cX9_order 19 = .ok (.iconst 0, 1) := by decide +kernel
theorem dX9_order_20 : decode cX9_order 20 = .ok (.ireturn, 1) := by decide +kernel
theorem dX9_order_21 : decode cX9_order 21 = .ok (.aload_n 0, 1) := by decide +kernel
theorem dX9_order_22 : decode cX9_order 22 = .ok (.getfield 24, 3) := by decide +kernel
theorem dX9_order_25 : decode cX9_order 25 = .ok (.aload_n 0, 1) := by decide +kernel
theorem dX9_order_26 : decode cX9_order 26 = .ok (.getfield 36, 3) := by decide +kernel
theorem dX9_order_29 : decode cX9_order 29 = .ok (.iload_n 1, 1) := by decide +kernel
theorem dX9_order_30 : decode cX9_order 30 = .ok (.iastore, 1) := by decide +kernel
theorem dX9_order_31 : decode cX9_order 31 = .ok (.aload_n 0, 1) := by decide +kernel
theorem dX9_order_32 : decode cX9_order 32 = .ok (.getfield 27, 3) := by decide +kernel
theorem dX9_order_35 : decode cX9_order 35 = .ok (.aload_n 0, 1) := by decide +kernel
theorem dX9_order_36 : decode cX9_order 36 = .ok (.getfield 36, 3) := by decide +kernel
theorem dX9_order_39 : decode cX9_order 39 = .ok (.iload_n 2, 1) := by decide +kernel
theorem dX9_order_40 : decode cX9_order 40 = .ok (.iastore, 1) := by decide +kernel
theorem dX9_order_41 : decode cX9_order 41 = .ok (.aload_n 0, 1) := by decide +kernel
theorem dX9_order_42 : decode cX9_order 42 = .ok (.dup, 1) := by decide +kernel
theorem dX9_order_43 : decode cX9_order 43 = .ok (.getfield 36, 3) := by decide +kernel
theorem dX9_order_46 : decode cX9_order 46 = .ok (.iconst 1, 1) := by decide +kernel
theorem dX9_order_47 : decode cX9_order 47 = .ok (.iadd, 1) := by decide +kernel
theorem dX9_order_48 : decode cX9_order 48 = .ok (.putfield 36, 3) := by decide +kernel
theorem dX9_order_51 : decode cX9_order 51 = .ok (.iconst 1, 1) := by decide +kernel
theorem dX9_order_52 : decode cX9_order 52 = .ok (.ireturn, 1) := by decide +kernel
theorem dX9_take_0 : decode cX9_take 0 = .ok (.aload_n 0, 1) := by decide +kernel
theorem dX9_take_1 : decode cX9_take 1 = .ok (.getfield 27, 3) := by decide +kernel
theorem dX9_take_4 : decode cX9_take 4 = .ok (.iload_n 1, 1) := by decide +kernel
theorem dX9_take_5 : decode cX9_take 5 = .ok (.iaload, 1) := by decide +kernel
theorem dX9_take_6 : decode cX9_take 6 = .ok (.istore_n 2, 1) := by decide +kernel
theorem dX9_take_7 : decode cX9_take 7 = .ok (.aload_n 0, 1) := by decide +kernel
theorem dX9_take_8 : decode cX9_take 8 = .ok (.dup, 1) := by decide +kernel
theorem dX9_take_9 : decode cX9_take 9 = .ok (.getfield 36, 3) := by decide +kernel
theorem dX9_take_12 : decode cX9_take 12 = .ok (.iconst 1, 1) := by decide +kernel
theorem dX9_take_13 : decode cX9_take 13 = .ok (.isub, 1) := by decide +kernel
theorem dX9_take_14 : decode cX9_take 14 = .ok (.putfield 36, 3) := by decide +kernel
theorem dX9_take_17 : decode cX9_take 17 = .ok (.iload_n 1, 1) := by decide +kernel
theorem dX9_take_18 : decode cX9_take 18 = .ok (.istore_n 3, 1) := by decide +kernel
theorem dX9_take_19 : decode cX9_take 19 = .ok (.iload_n 3, 1) := by decide +kernel
theorem dX9_take_20 : decode cX9_take 20 = .ok (.aload_n 0, 1) := by decide +kernel
theorem dX9_take_21 : decode cX9_take 21 = .ok (.getfield 36, 3) := by decide +kernel
theorem dX9_take_24 : decode cX9_take 24 = .ok (.if_icmp .ge 37, 3) := by decide +kernel
theorem dX9_take_27 : decode cX9_take 27 = .ok (.aload_n 0, 1) := by decide +kernel
theorem dX9_take_28 : decode cX9_take 28 = .ok (.getfield 24, 3) := by decide +kernel
theorem dX9_take_31 : decode cX9_take 31 = .ok (.iload_n 3, 1) := by decide +kernel
theorem dX9_take_32 : decode cX9_take 32 = .ok (.aload_n 0, 1) := by decide +kernel
theorem dX9_take_33 : decode cX9_take 33 = .ok (.getfield 24, 3) := by decide +kernel
theorem dX9_take_36 : decode cX9_take 36 = .ok (.iload_n 3, 1) := by decide +kernel
theorem dX9_take_37 : decode cX9_take 37 = .ok (.iconst 1, 1) := by decide +kernel
theorem dX9_take_38 : decode cX9_take 38 = .ok (.iadd, 1) := by decide +kernel
theorem dX9_take_39 : decode cX9_take 39 = .ok (.iaload, 1) := by decide +kernel
theorem dX9_take_40 : decode cX9_take 40 = .ok (.iastore, 1) := by decide +kernel
theorem dX9_take_41 : decode cX9_take 41 = .ok (.aload_n 0, 1) := by decide +kernel
theorem dX9_take_42 : decode cX9_take 42 = .ok (.getfield 27, 3) := by decide +kernel
theorem dX9_take_45 : decode cX9_take 45 = .ok (.iload_n 3, 1) := by decide +kernel
theorem dX9_take_46 : decode cX9_take 46 = .ok (.aload_n 0, 1) := by decide +kernel
theorem dX9_take_47 : decode cX9_take 47 = .ok (.getfield 27, 3) := by decide +kernel
theorem dX9_take_50 : decode cX9_take 50 = .ok (.iload_n 3, 1) := by decide +kernel
theorem dX9_take_51 : decode cX9_take 51 = .ok (.iconst 1, 1) := by decide +kernel
theorem dX9_take_52 : decode cX9_take 52 = .ok (.iadd, 1) := by decide +kernel
theorem dX9_take_53 : decode cX9_take 53 = .ok (.iaload, 1) := by decide +kernel
theorem dX9_take_54 : decode cX9_take 54 = .ok (.iastore, 1) := by decide +kernel
theorem dX9_take_55 : decode cX9_take 55 = .ok (.iinc 3 1, 3) := by decide +kernel
theorem dX9_take_58 : decode cX9_take 58 = .ok (.goto (-39), 3) := by decide +kernel
theorem dX9_take_61 : decode cX9_take 61 = .ok (.iload_n 1, 1) := by decide +kernel
theorem dX9_take_62 : decode cX9_take 62 = .ok (.ifCond .ne 8, 3) := by decide +kernel
theorem dX9_take_65 : decode cX9_take 65 = .ok (.aload_n 0, 1) := by decide +kernel
theorem dX9_take_66 : decode cX9_take 66 = .ok (.iconst 0, 1) := by decide +kernel
theorem dX9_take_67 : decode cX9_take 67 = .ok (.putfield 40, 3) := by decide +kernel
theorem dX9_take_70 : decode cX9_take 70 = .ok (.iload_n 2, 1) := by decide +kernel
theorem dX9_take_71 : decode cX9_take 71 = .ok (.ireturn, 1) := by decide +kernel
theorem dX9_clean_0 : decode cX9_clean 0 = .ok (.aload_n 0, 1) := by decide +kernel
theorem dX9_clean_1 : decode cX9_clean 1 = .ok (.getfield 9, 3) := by decide +kernel
theorem dX9_clean_4 : decode cX9_clean 4 = .ok (.iload_n 1, 1) := by decide +kernel
theorem dX9_clean_5 : decode cX9_clean 5 = .ok (.aload_n 0, 1) := by decide +kernel
theorem dX9_clean_6 : decode cX9_clean 6 = .ok (.getfield 9, 3) := by decide +kernel
theorem dX9_clean_9 : decode cX9_clean 9 = .ok (.iload_n 1, 1) := by decide +kernel
theorem dX9_clean_10 : decode cX9_clean 10 = .ok (.iaload, 1) := by decide +kernel
theorem dX9_clean_11 : decode cX9_clean 11 = .ok (.aload_n 0, 1) := by decide +kernel
theorem dX9_clean_12 : decode cX9_clean 12 = .ok (.getfield 15, 3) := by decide +kernel
theorem dX9_clean_15 : decode cX9_clean 15 = .ok (.iload_n 1, 1) := by decide +kernel
theorem dX9_clean_16 : decode cX9_clean 16 = .ok (.iaload, 1) := by decide +kernel
theorem dX9_clean_17 : decode cX9_clean 17 = .ok (.invokestatic 58, 3) := by decide +kernel
theorem dX9_clean_20 : decode cX9_clean 20 = .ok (.iastore, 1) := by decide +kernel
theorem dX9_clean_21 : decode cX9_clean 21 = .ok (.return_, 1) := by decide +kernel
theorem dX9_takes_0 : decode cX9_takes 0 = .ok (.aload_n 0, 1) := by decide +kernel
theorem dX9_takes_1 : decode cX9_takes 1 = .ok (.getfield 27, 3) := by decide +kernel
theorem dX9_takes_4 : decode cX9_takes 4 = .ok (.iconst 0, 1) := by decide +kernel
theorem dX9_takes_5 : decode cX9_takes 5 = .ok (.iaload, 1) := by decide +kernel
theorem dX9_takes_6 : decode cX9_takes 6 = .ok (.istore_n 1, 1) := by decide +kernel
theorem dX9_takes_7 : decode cX9_takes 7 = .ok (.aload_n 0, 1) := by decide +kernel
theorem dX9_takes_8 : decode cX9_takes 8 = .ok (.getfield 24, 3) := by decide +kernel
theorem dX9_takes_11 : decode cX9_takes 11 = .ok (.iconst 0, 1) := by decide +kernel
theorem dX9_takes_12 : decode cX9_takes 12 = .ok (.iaload, 1) := by decide +kernel
theorem dX9_takes_13 : decode cX9_takes 13 = .ok (.ifCond .ne 18, 3) := by decide +kernel
theorem dX9_takes_16 : decode cX9_takes 16 = .ok (.bipush 100, 2) := by decide +kernel
theorem dX9_takes_18 : decode cX9_takes 18 = .ok (.aload_n 0, 1) := by decide +kernel
theorem dX9_takes_19 : decode cX9_takes 19 = .ok (.getfield 9, 3) := by decide +kernel
theorem dX9_takes_22 : decode cX9_takes 22 = .ok (.iload_n 1, 1) := by decide +kernel
theorem dX9_takes_23 : decode cX9_takes 23 = .ok (.iaload, 1) := by decide +kernel
theorem dX9_takes_24 : decode cX9_takes 24 = .ok (.isub, 1) := by decide +kernel
theorem dX9_takes_25 : decode cX9_takes 25 = .ok (.bipush 10, 2) := by decide +kernel
theorem dX9_takes_27 : decode cX9_takes 27 = .ok (.idiv, 1) := by decide +kernel
theorem dX9_takes_28 : decode cX9_takes 28 = .ok (.iconst 1, 1) := by decide +kernel
theorem dX9_takes_29 : decode cX9_takes 29 = .ok (.iadd, 1) := by decide +kernel
theorem dX9_takes_30 : decode cX9_takes 30 = .ok (.ireturn, 1) := by decide +kernel
theorem dX9_takes_31 : decode cX9_takes 31 = .ok (.aload_n 0, 1) := by decide +kernel
theorem dX9_takes_32 : decode cX9_takes 32 = .ok (.getfield 24, 3) := by decide +kernel
theorem dX9_takes_35 : decode cX9_takes 35 = .ok (.iconst 0, 1) := by decide +kernel
theorem dX9_takes_36 : decode cX9_takes 36 = .ok (.iaload, 1) := by decide +kernel
theorem dX9_takes_37 : decode cX9_takes 37 = .ok (.iconst 1, 1) := by decide +kernel
theorem dX9_takes_38 : decode cX9_takes 38 = .ok (.if_icmp .ne 19, 3) := by decide +kernel
theorem dX9_takes_41 : decode cX9_takes 41 = .ok (.aload_n 0, 1) := by decide +kernel
theorem dX9_takes_42 : decode cX9_takes 42 = .ok (.getfield 18, 3) := by decide +kernel
theorem dX9_takes_45 : decode cX9_takes 45 = .ok (.iload_n 1, 1) := by decide +kernel
theorem dX9_takes_46 : decode cX9_takes 46 = .ok (.iaload, 1) := by decide +kernel
theorem dX9_takes_47 : decode cX9_takes 47 = .ok (.invokestatic 63, 3) := by decide +kernel
theorem dX9_takes_50 : decode cX9_takes 50 = .ok (.iconst 5, 1) := by decide +kernel
theorem dX9_takes_51 : decode cX9_takes 51 = .ok (.idiv, 1) := by decide +kernel
theorem dX9_takes_52 : decode cX9_takes 52 = .ok (.iconst 1, 1) := by decide +kernel
theorem dX9_takes_53 : decode cX9_takes 53 = .ok (.iadd, 1) := by decide +kernel
theorem dX9_takes_54 : decode cX9_takes 54 = .ok (.goto 5, 3) := by decide +kernel
theorem dX9_takes_57 : decode cX9_takes 57 = .ok (.bipush 20, 2) := by decide +kernel
theorem dX9_takes_59 : decode cX9_takes 59 = .ok (.ireturn, 1) := by decide +kernel
theorem dX9_works_0 : decode cX9_works 0 = .ok (.aload_n 0, 1) := by decide +kernel
theorem dX9_works_1 : decode cX9_works 1 = .ok (.getfield 36, 3) := by decide +kernel
theorem dX9_works_4 : decode cX9_works 4 = .ok (.ifCond .ne 5, 3) := by decide +kernel
theorem dX9_works_7 : decode cX9_works 7 = .ok (.iconst 0, 1) := by decide +kernel
theorem dX9_works_8 : decode cX9_works 8 = .ok (.ireturn, 1) := by decide +kernel
theorem dX9_works_9 : decode cX9_works 9 = .ok (.aload_n 0, 1) := by decide +kernel
theorem dX9_works_10 : decode cX9_works 10 = .ok (.getfield 40, 3) := by decide +kernel
theorem dX9_works_13 : decode cX9_works 13 = .ok (.ifCond .ne 11, 3) := by decide +kernel
theorem dX9_works_16 : decode cX9_works 16 = .ok (.aload_n 0, 1) := by decide +kernel
theorem dX9_works_17 : decode cX9_works 17 = .ok (.aload_n 0, 1) := by decide +kernel
theorem dX9_works_18 : decode cX9_works 18 = .ok (.invokevirtual 67, 3) := by decide +kernel
theorem dX9_works_21 : decode cX9_works 21 = .ok (.putfield 40, 3) := by decide +kernel
theorem dX9_works_24 : decode cX9_works 24 = .ok (.aload_n 0, 1) := by decide +kernel
theorem dX9_works_25 : decode cX9_works 25 = .ok (.dup, 1) := by decide +kernel
theorem dX9_works_26 : decode cX9_works 26 = .ok (.getfield 40, 3) := by decide +kernel
theorem dX9_works_29 : decode cX9_works 29 = .ok (.iconst 1, 1) := by decide +kernel
theorem dX9_works_30 : decode cX9_works 30 = .ok (.isub, 1) := by decide +kernel
theorem dX9_works_31 : decode cX9_works 31 = .ok (.putfield 40, 3) := by decide +kernel
theorem dX9_works_34 : decode cX9_works 34 = .ok (.aload_n 0, 1) := by decide +kernel
theorem dX9_works_35 : decode cX9_works 35 = .ok (.getfield 40, 3) := by decide +kernel
theorem dX9_works_38 : decode cX9_works 38 = .ok (.ifCond .le 5, 3) := by decide +kernel
theorem dX9_works_41 : decode cX9_works 41 = .ok (.iconst 0, 1) := by decide +kernel
theorem dX9_works_42 : decode cX9_works 42 = .ok (.ireturn, 1) := by decide +kernel
theorem dX9_works_43 : decode cX9_works 43 = .ok (.aload_n 0, 1) := by decide +kernel
theorem dX9_works_44 : decode cX9_works 44 = .ok (.getfield 24, 3) := by decide +kernel
theorem dX9_works_47 : decode cX9_works 47 = .ok (.iconst 0, 1) := by decide +kernel
theorem dX9_works_48 : decode cX9_works 48 = .ok (.iaload, 1) := by decide +kernel
theorem dX9_works_49 : decode cX9_works 49 = .ok (.istore_n 1, 1) := by decide +kernel
theorem dX9_works_50 : decode cX9_works 50 = .ok (.aload_n 0, 1) := by decide +kernel
theorem dX9_works_51 : decode cX9_works 51 = .ok (.iconst 0, 1) := by decide +kernel
theorem dX9_works_52 : decode cX9_works 52 = .ok (.invokevirtual 71, 3) := by decide +kernel
theorem dX9_works_55 : decode cX9_works 55 = .ok (.istore_n 2, 1) := by decide +kernel
theorem dX9_works_56 : decode cX9_works 56 = .ok (.aload_n 0, 1) := by decide +kernel
theorem dX9_works_57 : decode cX9_works 57 = .ok (.dup, 1) := by decide +kernel
theorem dX9_works_58 : decode cX9_works 58 = .ok (.getfield 46, 3) := by decide +kernel
theorem dX9_works_61 : decode cX9_works 61 = .ok (.iconst 1, 1) := by decide +kernel
theorem dX9_works_62 : decode cX9_works 62 = .ok (.iadd, 1) := by decide +kernel
theorem dX9_works_63 : decode cX9_works 63 = .ok (.putfield 46, 3) := by decide +kernel
theorem dX9_works_66 : decode cX9_works 66 = .ok (.iload_n 1, 1) := by decide +kernel
theorem dX9_works_67 : decode cX9_works 67 = .ok (.ifCond .ne 28, 3) := by decide +kernel
theorem dX9_works_70 : decode cX9_works 70 = .ok (.aload_n 0, 1) := by decide +kernel
theorem dX9_works_71 : decode cX9_works 71 = .ok (.iload_n 2, 1) := by decide +kernel
theorem dX9_works_72 : decode cX9_works 72 = .ok (.invokevirtual 74, 3) := by decide +kernel
theorem dX9_works_75 : decode cX9_works 75 = .ok (.aload_n 0, 1) := by decide +kernel
theorem dX9_works_76 : decode cX9_works 76 = .ok (.getfield 15, 3) := by decide +kernel
theorem dX9_works_79 : decode cX9_works 79 = .ok (.iload_n 2, 1) := by decide +kernel
theorem dX9_works_80 : decode cX9_works 80 = .ok (.iconst 0, 1) := by decide +kernel
theorem dX9_works_81 : decode cX9_works 81 = .ok (.aload_n 0, 1) := by decide +kernel
theorem dX9_works_82 : decode cX9_works 82 = .ok (.getfield 15, 3) := by decide +kernel
theorem dX9_works_85 : decode cX9_works 85 = .ok (.iload_n 2, 1) := by decide +kernel
theorem dX9_works_86 : decode cX9_works 86 = .ok (.iaload, 1) := by decide +kernel
theorem dX9_works_87 : decode cX9_works 87 = .ok (.iconst 1, 1) := by decide +kernel
theorem dX9_works_88 : decode cX9_works 88 = .ok (.isub, 1) := by decide +kernel
theorem dX9_works_89 : decode cX9_works 89 = .ok (.invokestatic 58, 3) := by decide +kernel
theorem dX9_works_92 : decode cX9_works 92 = .ok (.iastore, 1) := by decide +kernel
theorem dX9_works_93 : decode cX9_works 93 = .ok (.iconst 1, 1) := by decide +kernel
theorem dX9_works_94 : decode cX9_works 94 = .ok (.ireturn, 1) := by decide +kernel
theorem dX9_works_95 : decode cX9_works 95 = .ok (.aload_n 0, 1) := by decide +kernel
theorem dX9_works_96 : decode cX9_works 96 = .ok (.getfield 18, 3) := by decide +kernel
theorem dX9_works_99 : decode cX9_works 99 = .ok (.iload_n 2, 1) := by decide +kernel
theorem dX9_works_100 : decode cX9_works 100 = .ok (.iconst 0, 1) := by decide +kernel
theorem dX9_works_101 : decode cX9_works 101 = .ok (.iastore, 1) := by decide +kernel
theorem dX9_works_102 : decode cX9_works 102 = .ok (.iload_n 1, 1) := by decide +kernel
theorem dX9_works_103 : decode cX9_works 103 = .ok (.iconst 2, 1) := by decide +kernel
theorem dX9_works_104 : decode cX9_works 104 = .ok (.if_icmp .ne 19, 3) := by decide +kernel
theorem dX9_works_107 : decode cX9_works 107 = .ok (.aload_n 0, 1) := by decide +kernel
theorem dX9_works_108 : decode cX9_works 108 = .ok (.getfield 9, 3) := by decide +kernel
theorem dX9_works_111 : decode cX9_works 111 = .ok (.iload_n 2, 1) := by decide +kernel
theorem dX9_works_112 : decode cX9_works 112 = .ok (.bipush 100, 2) := by decide +kernel
theorem dX9_works_114 : decode cX9_works 114 = .ok (.iastore, 1) := by decide +kernel
theorem dX9_works_115 : decode cX9_works 115 = .ok (.aload_n 0, 1) := by decide +kernel
theorem dX9_works_116 : decode cX9_works 116 = .ok (.getfield 15, 3) := by decide +kernel
theorem dX9_works_119 : decode cX9_works 119 = .ok (.iload_n 2, 1) := by decide +kernel
theorem dX9_works_120 : decode cX9_works 120 = .ok (.bipush 100, 2) := by decide +kernel
theorem dX9_works_122 : decode cX9_works 122 = .ok (.iastore, 1) := by decide +kernel
theorem dX9_works_123 : decode cX9_works 123 = .ok (.iconst 1, 1) := by decide +kernel
theorem dX9_works_124 : decode cX9_works 124 = .ok (.ireturn, 1) := by decide +kernel
theorem dX10_init_0 : decode cX10_init 0 = .ok (.aload_n 0, 1) := by decide +kernel
theorem dX10_init_1 : decode cX10_init 1 = .ok (.invokespecial 3, 3) := by decide +kernel
theorem dX10_init_4 : decode cX10_init 4 = .ok (.aload_n 0, 1) := by decide +kernel
theorem dX10_init_5 : decode cX10_init 5 = .ok (.bipush 60, 2) := by decide +kernel
theorem dX10_init_7 : decode cX10_init 7 = .ok (.putfield 9, 3) := by decide +kernel
theorem dX10_init_10 : decode cX10_init 10 = .ok (.aload_n 0, 1) := by decide +kernel
theorem dX10_init_11 : decode cX10_init 11 = .ok (.sipush 1000, 3) := by decide +kernel
theorem dX10_init_14 : decode cX10_init 14 = .ok (.putfield 15, 3) := by decide +kernel
theorem dX10_init_17 : decode cX10_init 17 = .ok (.aload_n 0, 1) := by decide +kernel
theorem dX10_init_18 : decode cX10_init 18 = .ok (.bipush 11, 2) := by decide +kernel
theorem dX10_init_20 : decode cX10_init 20 = .ok (.newarray .int, 2) := by decide +kernel
theorem dX10_init_22 : decode cX10_init 22 = .ok (.putfield 18, 3) := by decide +kernel
theorem dX10_init_25 : decode cX10_init 25 = .ok (.aload_n 0, 1) := by decide +kernel
theorem dX10_init_26 : decode cX10_init 26 = .ok (.bipush 11, 2) := by decide +kernel
theorem dX10_init_28 : decode cX10_init 28 = .ok (.newarray .int, 2) := by decide +kernel
theorem dX10_init_30 : decode cX10_init 30 = .ok (.putfield 22, 3) := by decide +kernel
theorem dX10_init_33 : decode cX10_init 33 = .ok (.aload_n 0, 1) := by decide +kernel
theorem dX10_init_34 : decode cX10_init 34 = .ok (.bipush 17, 2) := by decide +kernel
theorem dX10_init_36 : decode cX10_init 36 = .ok (.newarray .int, 2) := by decide +kernel
theorem dX10_init_38 : decode cX10_init 38 = .ok (.putfield 25, 3) := by decide +kernel
theorem dX10_init_41 : decode cX10_init 41 = .ok (.aload_n 0, 1) := by decide +kernel
theorem dX10_init_42 : decode cX10_init 42 = .ok (.bipush 17, 2) := by decide +kernel
theorem dX10_init_44 : decode cX10_init 44 = .ok (.newarray .int, 2) := by decide +kernel
theorem dX10_init_46 : decode cX10_init 46 = .ok (.putfield 28, 3) := by decide +kernel
theorem dX10_init_49 : decode cX10_init 49 = .ok (.aload_n 0, 1) := by decide +kernel
theorem dX10_init_50 : decode cX10_init 50 = .ok (.bipush 17, 2) := by decide +kernel
theorem dX10_init_52 : decode cX10_init 52 = .ok (.newarray .int, 2) := by decide +kernel
theorem dX10_init_54 : decode cX10_init 54 = .ok (.putfield 31, 3) := by decide +kernel
theorem dX10_init_57 : decode cX10_init 57 = .ok (.aload_n 0, 1) := by decide +kernel
theorem dX10_init_58 : decode cX10_init 58 = .ok (.bipush 17, 2) := by decide +kernel
theorem dX10_init_60 : decode cX10_init 60 = .ok (.newarray .int, 2) := by decide +kernel
theorem dX10_init_62 : decode cX10_init 62 = .ok (.putfield 34, 3) := by decide +kernel
theorem dX10_init_65 : decode cX10_init 65 = .ok (.aload_n 0, 1) := by decide +kernel
theorem dX10_init_66 : decode cX10_init 66 = .ok (.bipush 17, 2) := by decide +kernel
theorem dX10_init_68 : decode cX10_init 68 = .ok (.newarray .int, 2) := by decide +kernel
theorem dX10_init_70 : decode cX10_init 70 = .ok (.putfield 37, 3) := by decide +kernel
theorem dX10_init_73 : decode cX10_init 73 = .ok (.aload_n 0, 1) := by decide +kernel
theorem dX10_init_74 : decode cX10_init 74 = .ok (.bipush 17, 2) := by decide +kernel
theorem dX10_init_76 : decode cX10_init 76 = .ok (.newarray .int, 2) := by decide +kernel
theorem dX10_init_78 : decode cX10_init 78 = .ok (.putfield 40, 3) := by decide +kernel
theorem dX10_init_81 : decode cX10_init 81 = .ok (.aload_n 0, 1) := by decide +kernel
theorem dX10_init_82 : decode cX10_init 82 = .ok (.sipush 800, 3) := by decide +kernel
theorem dX10_init_85 : decode cX10_init 85 = .ok (.newarray .int, 2) := by decide +kernel
theorem dX10_init_87 : decode cX10_init 87 = .ok (.putfield 43, 3) := by decide +kernel
theorem dX10_init_90 : decode cX10_init 90 = .ok (.aload_n 0, 1) := by decide +kernel
theorem dX10_init_91 : decode cX10_init 91 = .ok (.sipush 800, 3) := by decide +kernel
theorem dX10_init_94 : decode cX10_init 94 = .ok (.newarray .int, 2) := by decide +kernel
theorem dX10_init_96 : decode cX10_init 96 = .ok (.putfield 46, 3) := by decide +kernel
theorem dX10_init_99 : decode cX10_init 99 = .ok (.aload_n 0, 1) := by decide +kernel
theorem dX10_init_100 : decode cX10_init 100 = .ok (.sipush 800, 3) := by decide +kernel
theorem dX10_init_103 : decode cX10_init 103 = .ok (.newarray .int, 2) := by decide +kernel
theorem dX10_init_105 : decode cX10_init 105 = .ok (.putfield 49, 3) := by decide +kernel
theorem dX10_init_108 : decode cX10_init 108 = .ok (.return_, 1) := by decide +kernel
theorem dX10_begin_0 : decode cX10_begin 0 = .ok (.aload_n 0, 1) := by decide +kernel
theorem dX10_begin_1 : decode cX10_begin 1 = .ok (.iconst 0, 1) := by decide +kernel
theorem dX10_begin_2 : decode cX10_begin 2 = .ok (.putfield 52, 3) := by decide +kernel
theorem dX10_begin_5 : decode cX10_begin 5 = .ok (.aload_n 0, 1) := by decide +kernel
theorem dX10_begin_6 : decode cX10_begin 6 = .ok (.bipush 60, 2) := by decide +kernel
theorem dX10_begin_8 : decode cX10_begin 8 = .ok (.putfield 9, 3) := by decide +kernel
theorem dX10_begin_11 : decode cX10_begin 11 = .ok (.aload_n 0, 1) := by decide +kernel
theorem dX10_begin_12 : decode cX10_begin 12 = .ok (.sipush 1000, 3) := by decide +kernel
theorem dX10_begin_15 : decode cX10_begin 15 = .ok (.putfield 15, 3) := by decide +kernel
theorem dX10_begin_18 : decode cX10_begin 18 = .ok (.aload_n 0, 1) := by decide +kernel
theorem dX10_begin_19 : decode cX10_begin 19 = .ok (.iconst 0, 1) := by decide +kernel
theorem dX10_begin_20 : decode cX10_begin 20 = .ok (.putfield 55, 3) := by decide +kernel
theorem dX10_begin_23 : decode cX10_begin 23 = .ok (.aload_n 0, 1) := by decide +kernel
theorem dX10_begin_24 : decode cX10_begin 24 = .ok (.iconst 0, 1) := by decide +kernel
theorem dX10_begin_25 : decode cX10_begin 25 = .ok (.putfield 58, 3) := by decide +kernel
theorem dX10_begin_28 : decode cX10_begin 28 = .ok (.return_, 1) := by decide +kernel
theorem dX10_copy_0 : decode cX10_copy 0 = .ok (.aload_n 0, 1) := by decide +kernel
theorem dX10_copy_1 : decode cX10_copy 1 = .ok (.iconst 0, 1) := by decide +kernel
theorem dX10_copy_2 : decode cX10_copy 2 = .ok (.aload_n 1, 1) := by decide +kernel
theorem dX10_copy_3 : decode cX10_copy 3 = .ok (.iconst 0, 1) := by decide +kernel
theorem dX10_copy_4 : decode cX10_copy 4 = .ok (.aload_n 1, 1) := by decide +kernel
theorem dX10_copy_5 : decode cX10_copy 5 = .ok (.arraylength, 1) := by decide +kernel
theorem dX10_copy_6 : decode cX10_copy 6 = .ok (.invokestatic 61, 3) := by decide +kernel
theorem dX10_copy_9 : decode cX10_copy 9 = .ok (.return_, 1) := by decide +kernel
theorem dX10_become_0 : decode cX10_become 0 = .ok (.aload_n 0, 1) := by decide +kernel
theorem dX10_become_1 : decode cX10_become 1 = .ok (.aload_n 1, 1) := by decide +kernel
theorem dX10_become_2 : decode cX10_become 2 = .ok (.getfield 52, 3) := by decide +kernel
theorem dX10_become_5 : decode cX10_become 5 = .ok (.putfield 52, 3) := by decide +kernel
theorem dX10_become_8 : decode cX10_become 8 = .ok (.aload_n 0, 1) := by decide +kernel
theorem dX10_become_9 : decode cX10_become 9 = .ok (.aload_n 1, 1) := by decide +kernel
theorem dX10_become_10 : decode cX10_become 10 = .ok (.getfield 9, 3) := by decide +kernel
theorem dX10_become_13 : decode cX10_become 13 = .ok (.putfield 9, 3) := by decide +kernel
theorem dX10_become_16 : decode cX10_become 16 = .ok (.aload_n 0, 1) := by decide +kernel
theorem dX10_become_17 : decode cX10_become 17 = .ok (.aload_n 1, 1) := by decide +kernel
theorem dX10_become_18 : decode cX10_become 18 = .ok (.getfield 15, 3) := by decide +kernel
theorem dX10_become_21 : decode cX10_become 21 = .ok (.putfield 15, 3) := by decide +kernel
theorem dX10_become_24 : decode cX10_become 24 = .ok (.aload_n 0, 1) := by decide +kernel
theorem dX10_become_25 : decode cX10_become 25 = .ok (.aload_n 1, 1) := by decide +kernel
theorem dX10_become_26 : decode cX10_become 26 = .ok (.getfield 55, 3) := by decide +kernel
theorem dX10_become_29 : decode cX10_become 29 = .ok (.putfield 55, 3) := by decide +kernel
theorem dX10_become_32 : decode cX10_become 32 = .ok (.aload_n 0, 1) := by decide +kernel
theorem dX10_become_33 : decode cX10_become 33 = .ok (.aload_n 1, 1) := by decide +kernel
theorem dX10_become_34 : decode cX10_become 34 = .ok (.getfield 58, 3) := by decide +kernel
theorem dX10_become_37 : decode cX10_become 37 = .ok (.putfield 58, 3) := by decide +kernel
theorem dX10_become_40 : decode cX10_become 40 = .ok (.aload_n 1, 1) := by decide +kernel
theorem dX10_become_41 : decode cX10_become 41 = .ok (.getfield 18, 3) := by decide +kernel
theorem dX10_become_44 : decode cX10_become 44 = .ok (.aload_n 0, 1) := by decide +kernel
theorem dX10_become_45 : decode cX10_become 45 = .ok (.getfield 18, 3) := by decide +kernel
theorem dX10_become_48 : decode cX10_become 48 = .ok (.invokestatic 67, 3) := by decide +kernel
theorem dX10_become_51 : decode cX10_become 51 = .ok (.aload_n 1, 1) := by decide +kernel
theorem dX10_become_52 : decode cX10_become 52 = .ok (.getfield 22, 3) := by decide +kernel
theorem dX10_become_55 : decode cX10_become 55 = .ok (.aload_n 0, 1) := by decide +kernel
theorem dX10_become_56 : decode cX10_become 56 = .ok (.getfield 22, 3) := by decide +kernel
theorem dX10_become_59 : decode cX10_become 59 = .ok (.invokestatic 67, 3) := by decide +kernel
theorem dX10_become_62 : decode cX10_become 62 = .ok (.aload_n 1, 1) := by decide +kernel
theorem dX10_become_63 : decode cX10_become 63 = .ok (.getfield 25, 3) := by decide +kernel
theorem dX10_become_66 : decode cX10_become 66 = .ok (.aload_n 0, 1) := by decide +kernel
theorem dX10_become_67 : decode cX10_become 67 = .ok (.getfield 25, 3) := by decide +kernel
theorem dX10_become_70 : decode cX10_become 70 = .ok (.invokestatic 67, 3) := by decide +kernel
theorem dX10_become_73 : decode cX10_become 73 = .ok (.aload_n 1, 1) := by decide +kernel
theorem dX10_become_74 : decode cX10_become 74 = .ok (.getfield 28, 3) := by decide +kernel
theorem dX10_become_77 : decode cX10_become 77 = .ok (.aload_n 0, 1) := by decide +kernel
theorem dX10_become_78 : decode cX10_become 78 = .ok (.getfield 28, 3) := by decide +kernel
theorem dX10_become_81 : decode cX10_become 81 = .ok (.invokestatic 67, 3) := by decide +kernel
theorem dX10_become_84 : decode cX10_become 84 = .ok (.aload_n 1, 1) := by decide +kernel
theorem dX10_become_85 : decode cX10_become 85 = .ok (.getfield 31, 3) := by decide +kernel
theorem dX10_become_88 : decode cX10_become 88 = .ok (.aload_n 0, 1) := by decide +kernel
theorem dX10_become_89 : decode cX10_become 89 = .ok (.getfield 31, 3) := by decide +kernel
theorem dX10_become_92 : decode cX10_become 92 = .ok (.invokestatic 67, 3) := by decide +kernel
theorem dX10_become_95 : decode cX10_become 95 = .ok (.aload_n 1, 1) := by decide +kernel
theorem dX10_become_96 : decode cX10_become 96 = .ok (.getfield 34, 3) := by decide +kernel
theorem dX10_become_99 : decode cX10_become 99 = .ok (.aload_n 0, 1) := by decide +kernel
theorem dX10_become_100 : decode cX10_become 100 = .ok (.getfield 34, 3) := by decide +kernel
theorem dX10_become_103 : decode cX10_become 103 = .ok (.invokestatic 67, 3) := by decide +kernel
theorem dX10_become_106 : decode cX10_become 106 = .ok (.aload_n 1, 1) := by decide +kernel
theorem dX10_become_107 : decode cX10_become 107 = .ok (.getfield 37, 3) := by decide +kernel
theorem dX10_become_110 : decode cX10_become 110 = .ok (.aload_n 0, 1) := by decide +kernel
theorem dX10_become_111 : decode cX10_become 111 = .ok (.getfield 37, 3) := by decide +kernel
theorem dX10_become_114 : decode cX10_become 114 = .ok (.invokestatic 67, 3) := by decide +kernel
theorem dX10_become_117 : decode cX10_become 117 = .ok (.aload_n 1, 1) := by decide +kernel
theorem dX10_become_118 : decode cX10_become 118 = .ok (.getfield 40, 3) := by decide +kernel
theorem dX10_become_121 : decode cX10_become 121 = .ok (.aload_n 0, 1) := by decide +kernel
theorem dX10_become_122 : decode cX10_become 122 = .ok (.getfield 40, 3) := by decide +kernel
theorem dX10_become_125 : decode cX10_become 125 = .ok (.invokestatic 67, 3) := by decide +kernel
theorem dX10_become_128 : decode cX10_become 128 = .ok (.aload_n 1, 1) := by decide +kernel
theorem dX10_become_129 : decode cX10_become 129 = .ok (.getfield 43, 3) := by decide +kernel
theorem dX10_become_132 : decode cX10_become 132 = .ok (.aload_n 0, 1) := by decide +kernel
theorem dX10_become_133 : decode cX10_become 133 = .ok (.getfield 43, 3) := by decide +kernel
theorem dX10_become_136 : decode cX10_become 136 = .ok (.invokestatic 67, 3) := by decide +kernel
theorem dX10_become_139 : decode cX10_become 139 = .ok (.aload_n 1, 1) := by decide +kernel
theorem dX10_become_140 : decode cX10_become 140 = .ok (.getfield 46, 3) := by decide +kernel
theorem dX10_become_143 : decode cX10_become 143 = .ok (.aload_n 0, 1) := by decide +kernel
theorem dX10_become_144 : decode cX10_become 144 = .ok (.getfield 46, 3) := by decide +kernel
theorem dX10_become_147 : decode cX10_become 147 = .ok (.invokestatic 67, 3) := by decide +kernel
theorem dX10_become_150 : decode cX10_become 150 = .ok (.aload_n 1, 1) := by decide +kernel
theorem dX10_become_151 : decode cX10_become 151 = .ok (.getfield 49, 3) := by decide +kernel
theorem dX10_become_154 : decode cX10_become 154 = .ok (.aload_n 0, 1) := by decide +kernel
theorem dX10_become_155 : decode cX10_become 155 = .ok (.getfield 49, 3) := by decide +kernel
theorem dX10_become_158 : decode cX10_become 158 = .ok (.invokestatic 67, 3) := by decide +kernel
theorem dX10_become_161 : decode cX10_become 161 = .ok (.return_, 1) := by decide +kernel
theorem dX11_init_0 : decode cX11_init 0 = .ok (.aload_n 0, 1) := by decide +kernel
theorem dX11_init_1 : decode cX11_init 1 = .ok (.invokespecial 1, 3) := by decide +kernel
theorem dX11_init_4 : decode cX11_init 4 = .ok (.aload_n 0, 1) := by decide +kernel
theorem dX11_init_5 : decode cX11_init 5 = .ok (.sipush 2000, 3) := by decide +kernel
theorem dX11_init_8 : decode cX11_init 8 = .ok (.newarray .int, 2) := by decide +kernel
theorem dX11_init_10 : decode cX11_init 10 = .ok (.putfield 9, 3) := by decide +kernel
theorem dX11_init_13 : decode cX11_init 13 = .ok (.aload_n 0, 1) := by decide +kernel
theorem dX11_init_14 : decode cX11_init 14 = .ok (.iconst (-1), 1) := by decide +kernel
theorem dX11_init_15 : decode cX11_init 15 = .ok (.putfield 13, 3) := by decide +kernel
theorem dX11_init_18 : decode cX11_init 18 = .ok (.aload_n 0, 1) := by decide +kernel
theorem dX11_init_19 : decode cX11_init 19 = .ok (.sipush 402, 3) := by decide +kernel
theorem dX11_init_22 : decode cX11_init 22 = .ok (.newarray .int, 2) := by decide +kernel
theorem dX11_init_24 : decode cX11_init 24 = .ok (.putfield 17, 3) := by decide +kernel
theorem dX11_init_27 : decode cX11_init 27 = .ok (.aload_n 0, 1) := by decide +kernel
theorem dX11_init_28 : decode cX11_init 28 = .ok (.sipush 402, 3) := by decide +kernel
theorem dX11_init_31 : decode cX11_init 31 = .ok (.newarray .int, 2) := by decide +kernel
theorem dX11_init_33 : decode cX11_init 33 = .ok (.putfield 20, 3) := by decide +kernel
theorem dX11_init_36 : decode cX11_init 36 = .ok (.aload_n 0, 1) := by decide +kernel
theorem dX11_init_37 : decode cX11_init 37 = .ok (.sipush 402, 3) := by decide +kernel
theorem dX11_init_40 : decode cX11_init 40 = .ok (.newarray .int, 2) := by decide +kernel
theorem dX11_init_42 : decode cX11_init 42 = .ok (.putfield 23, 3) := by decide +kernel
theorem dX11_init_45 : decode cX11_init 45 = .ok (.aload_n 0, 1) := by decide +kernel
theorem dX11_init_46 : decode cX11_init 46 = .ok (.sipush 402, 3) := by decide +kernel
theorem dX11_init_49 : decode cX11_init 49 = .ok (.newarray .int, 2) := by decide +kernel
theorem dX11_init_51 : decode cX11_init 51 = .ok (.putfield 26, 3) := by decide +kernel
theorem dX11_init_54 : decode cX11_init 54 = .ok (.aload_n 0, 1) := by decide +kernel
theorem dX11_init_55 : decode cX11_init 55 = .ok (.bipush 10, 2) := by decide +kernel
theorem dX11_init_57 : decode cX11_init 57 = .ok (.newarray .int, 2) := by decide +kernel
theorem dX11_init_59 : decode cX11_init 59 = .ok (.putfield 29, 3) := by decide +kernel
theorem dX11_init_62 : decode cX11_init 62 = .ok (.aload_n 0, 1) := by decide +kernel
theorem dX11_init_63 : decode cX11_init 63 = .ok (.new 32, 3) := by decide +kernel
theorem dX11_init_66 : decode cX11_init 66 = .ok (.dup, 1) := by decide +kernel
theorem dX11_init_67 : decode cX11_init 67 = .ok (.invokespecial 34, 3) := by decide +kernel
theorem dX11_init_70 : decode cX11_init 70 = .ok (.putfield 35, 3) := by decide +kernel
theorem dX11_init_73 : decode cX11_init 73 = .ok (.aload_n 0, 1) := by decide +kernel
theorem dX11_init_74 : decode cX11_init 74 = .ok (.new 32, 3) := by decide +kernel
theorem dX11_init_77 : decode cX11_init 77 = .ok (.dup, 1) := by decide +kernel
theorem dX11_init_78 : decode cX11_init 78 = .ok (.invokespecial 34, 3) := by decide +kernel
theorem dX11_init_81 : decode cX11_init 81 = .ok (.putfield 39, 3) := by decide +kernel
theorem dX11_init_84 : decode cX11_init 84 = .ok (.aload_n 0, 1) := by decide +kernel
theorem dX11_init_85 : decode cX11_init 85 = .ok (.sipush 800, 3) := by decide +kernel
theorem dX11_init_88 : decode cX11_init 88 = .ok (.newarray .int, 2) := by decide +kernel
theorem dX11_init_90 : decode cX11_init 90 = .ok (.putfield 42, 3) := by decide +kernel
theorem dX11_init_93 : decode cX11_init 93 = .ok (.aload_n 0, 1) := by decide +kernel
theorem dX11_init_94 : decode cX11_init 94 = .ok (.new 45, 3) := by decide +kernel
theorem dX11_init_97 : decode cX11_init 97 = .ok (.dup, 1) := by decide +kernel
theorem dX11_init_98 : decode cX11_init 98 = .ok (.invokespecial 47, 3) := by decide +kernel
theorem dX11_init_101 : decode cX11_init 101 = .ok (.putfield 48, 3) := by decide +kernel
theorem dX11_init_104 : decode cX11_init 104 = .ok (.aload_n 0, 1) := by decide +kernel
theorem dX11_init_105 : decode cX11_init 105 = .ok (.new 45, 3) := by decide +kernel
theorem dX11_init_108 : decode cX11_init 108 = .ok (.dup, 1) := by decide +kernel
theorem dX11_init_109 : decode cX11_init 109 = .ok (.invokespecial 47, 3) := by decide +kernel
theorem dX11_init_112 : decode cX11_init 112 = .ok (.putfield 52, 3) := by decide +kernel
theorem dX11_init_115 : decode cX11_init 115 = .ok (.aload_n 0, 1) := by decide +kernel
theorem dX11_init_116 : decode cX11_init 116 = .ok (.bipush 10, 2) := by decide +kernel
theorem dX11_init_118 : decode cX11_init 118 = .ok (.newarray .int, 2) := by decide +kernel
theorem dX11_init_120 : decode cX11_init 120 = .ok (.putfield 55, 3) := by decide +kernel
theorem dX11_init_123 : decode cX11_init 123 = .ok (.aload_n 0, 1) := by decide +kernel
theorem dX11_init_124 : decode cX11_init 124 = .ok (.bipush 10, 2) := by decide +kernel
theorem dX11_init_126 : decode cX11_init 126 = .ok (.newarray .int, 2) := by decide +kernel
theorem dX11_init_128 : decode cX11_init 128 = .ok (.putfield 58, 3) := by decide +kernel
theorem dX11_init_131 : decode cX11_init 131 = .ok (.aload_n 0, 1) := by decide +kernel
theorem dX11_init_132 : decode cX11_init 132 = .ok (.bipush 10, 2) := by decide +kernel
theorem dX11_init_134 : decode cX11_init 134 = .ok (.newarray .int, 2) := by decide +kernel
theorem dX11_init_136 : decode cX11_init 136 = .ok (.putfield 61, 3) := by decide +kernel
theorem dX11_init_139 : decode cX11_init 139 = .ok (.return_, 1) := by decide +kernel
theorem dX11_thrown_0 : decode cX11_thrown 0 = .ok (.aload_n 0, 1) := by decide +kernel
theorem dX11_thrown_1 : decode cX11_thrown 1 = .ok (.getfield 64, 3) := by decide +kernel
theorem dX11_thrown_4 : decode cX11_thrown 4 = .ok (.ireturn, 1) := by decide +kernel
theorem dX11_no_0 : decode cX11_no 0 = .ok (.aload_n 0, 1) := by decide +kernel
theorem dX11_no_1 : decode cX11_no 1 = .ok (.iload_n 1, 1) := by decide +kernel
theorem dX11_no_2 : decode cX11_no 2 = .ok (.putfield 64, 3) := by decide +kernel
theorem dX11_no_5 : decode cX11_no 5 = .ok (.iconst 0, 1) := by decide +kernel
theorem dX11_no_6 : decode cX11_no 6 = .ok (.ireturn, 1) := by decide +kernel
theorem dX11_ok_0 : decode cX11_ok 0 = .ok (.aload_n 0, 1) := by decide +kernel
theorem dX11_ok_1 : decode cX11_ok 1 = .ok (.iconst 0, 1) := by decide +kernel
theorem dX11_ok_2 : decode cX11_ok 2 = .ok (.putfield 64, 3) := by decide +kernel
theorem dX11_ok_5 : decode cX11_ok 5 = .ok (.iload_n 1, 1) := by decide +kernel
theorem dX11_ok_6 : decode cX11_ok 6 = .ok (.ireturn, 1) := by decide +kernel
theorem dX11_isIn_0 : decode cX11_isIn 0 = .ok (.iload_n 0, 1) := by decide +kernel
theorem dX11_isIn_1 : decode cX11_isIn 1 = .ok (.iload_n 1, 1) := by decide +kernel
theorem dX11_isIn_2 : decode cX11_isIn 2 = .ok (.if_icmp .lt 12, 3) := by decide +kernel
theorem dX11_isIn_5 : decode cX11_isIn 5 = .ok (.iload_n 0, 1) := by decide +kernel
theorem dX11_isIn_6 : decode cX11_isIn 6 = .ok (.iload_n 2, 1) := by decide +kernel
theorem dX11_isIn_7 : decode cX11_isIn 7 = .ok (.if_icmp .gt 7, 3) := by decide +kernel
theorem dX11_isIn_10 : decode cX11_isIn 10 = .ok (.iconst 1, 1) := by decide +kernel
theorem dX11_isIn_11 : decode cX11_isIn 11 = .ok (.goto 4, 3) := by decide +kernel
theorem dX11_isIn_14 : decode cX11_isIn 14 = .ok (.iconst 0, 1) := by decide +kernel
theorem dX11_isIn_15 : decode cX11_isIn 15 = .ok (.ireturn, 1) := by decide +kernel
theorem dX11_isLetter_0 : decode cX11_isLetter 0 = .ok (.iload_n 0, 1) := by decide +kernel
theorem dX11_isLetter_1 : decode cX11_isLetter 1 = .ok (.bipush 97, 2) := by decide +kernel
theorem dX11_isLetter_3 : decode cX11_isLetter 3 = .ok (.bipush 122, 2) := by decide +kernel
theorem dX11_isLetter_5 : decode cX11_isLetter 5 = .ok (.invokestatic 67, 3) := by decide +kernel
theorem dX11_isLetter_8 : decode cX11_isLetter 8 = .ok (.ireturn, 1) := by decide +kernel
theorem dX11_isDigit_0 : decode cX11_isDigit 0 = .ok (.iload_n 0, 1) := by decide +kernel
theorem dX11_isDigit_1 : decode cX11_isDigit 1 = .ok (.bipush 48, 2) := by decide +kernel
theorem dX11_isDigit_3 : decode cX11_isDigit 3 = .ok (.bipush 57, 2) := by decide +kernel
theorem dX11_isDigit_5 : decode cX11_isDigit 5 = .ok (.invokestatic 67, 3) := by decide +kernel
theorem dX11_isDigit_8 : decode cX11_isDigit 8 = .ok (.ireturn, 1) := by decide +kernel
theorem dX11_byteAt_0 : decode cX11_byteAt 0 = .ok (.iload_n 1, 1) := by decide +kernel
theorem dX11_byteAt_1 : decode cX11_byteAt 1 = .ok (.aload_n 0, 1) := by decide +kernel
theorem dX11_byteAt_2 : decode cX11_byteAt 2 = .ok (.getfield 71, 3) := by decide +kernel
theorem dX11_byteAt_5 : decode cX11_byteAt 5 = .ok (.if_icmp .ge 12, 3) := by decide +kernel
theorem dX11_byteAt_8 : decode cX11_byteAt 8 = .ok (.aload_n 0, 1) := by decide +kernel
theorem dX11_byteAt_9 : decode cX11_byteAt 9 = .ok (.getfield 9, 3) := by decide +kernel
theorem dX11_byteAt_12 : decode cX11_byteAt 12 = .ok (.iload_n 1, 1) := by decide +kernel
theorem dX11_byteAt_13 : decode cX11_byteAt 13 = .ok (.iaload, 1) := by decide +kernel
theorem dX11_byteAt_14 : decode cX11_byteAt 14 = .ok (.goto 4, 3) := by decide +kernel
theorem dX11_byteAt_17 : decode cX11_byteAt 17 = .ok (.iconst (-1), 1) := by decide +kernel
theorem dX11_byteAt_18 : decode cX11_byteAt 18 = .ok (.ireturn, 1) := by decide +kernel
theorem dX11_isWord_0 : decode cX11_isWord 0 = .ok (.aload_n 3, 1) := by decide +kernel
theorem dX11_isWord_1 : decode cX11_isWord 1 = .ok (.invokevirtual 74, 3) := by decide +kernel
theorem dX11_isWord_4 : decode cX11_isWord 4 = .ok (.iload_n 2, 1) := by decide +kernel
theorem dX11_isWord_5 : decode cX11_isWord 5 = .ok (.if_icmp .eq 5, 3) := by decide +kernel
theorem dX11_isWord_8 : decode cX11_isWord 8 = .ok (.iconst 0, 1) := by decide +kernel
theorem dX11_isWord_9 : decode cX11_isWord 9 = .ok (.ireturn, 1) := by decide +kernel
theorem dX11_isWord_10 : decode cX11_isWord 10 = .ok (.iconst 0, 1) := by decide +kernel
theorem dX11_isWord_11 : decode cX11_isWord 11 = .ok (.istore 4, 2) := by decide +kernel
theorem dX11_isWord_13 : decode cX11_isWord 13 = .ok (.iload 4, 2) := by decide +kernel
theorem dX11_isWord_15 : decode cX11_isWord 15 = .ok (.iload_n 2, 1) := by decide +kernel
theorem dX11_isWord_16 : decode cX11_isWord 16 = .ok (.if_icmp .ge 29, 3) := by decide +kernel
theorem dX11_isWord_19 : decode cX11_isWord 19 = .ok (.aload_n 3, 1) := by decide +kernel
theorem dX11_isWord_20 : decode cX11_isWord 20 = .ok (.iload 4, 2) := by decide +kernel
theorem dX11_isWord_22 : decode cX11_isWord 22 = .ok (.invokevirtual 79, 3) := by decide +kernel
theorem dX11_isWord_25 : decode cX11_isWord 25 = .ok (.aload_n 0, 1) := by decide +kernel
theorem dX11_isWord_26 : decode cX11_isWord 26 = .ok (.getfield 9, 3) := by decide +kernel
theorem dX11_isWord_29 : decode cX11_isWord 29 = .ok (.iload_n 1, 1) := by decide +kernel
theorem dX11_isWord_30 : decode cX11_isWord 30 = .ok (.iload 4, 2) := by decide +kernel
theorem dX11_isWord_32 : decode cX11_isWord 32 = .ok (.iadd, 1) := by decide +kernel
theorem dX11_isWord_33 : decode cX11_isWord 33 = .ok (.iaload, 1) := by decide +kernel
theorem dX11_isWord_34 : decode cX11_isWord 34 = .ok (.if_icmp .eq 5, 3) := by decide +kernel
theorem dX11_isWord_37 : decode cX11_isWord 37 = .ok (.iconst 0, 1) := by decide +kernel
theorem dX11_isWord_38 : decode cX11_isWord 38 = .ok (.ireturn, 1) := by decide +kernel
theorem dX11_isWord_39 : decode cX11_isWord 39 = .ok (.iinc 4 1, 3) := by decide +kernel
theorem dX11_isWord_42 : decode cX11_isWord 42 = .ok (.goto (-29), 3) := by decide +kernel
theorem dX11_isWord_45 : decode cX11_isWord 45 = .ok (.iconst 1, 1) := by decide +kernel
theorem dX11_isWord_46 : decode cX11_isWord 46 = .ok (.ireturn, 1) := by decide +kernel
theorem dX11_keyword_0 : decode cX11_keyword 0 = .ok (.iconst 0, 1) := by decide +kernel
theorem dX11_keyword_1 : decode cX11_keyword 1 = .ok (.istore_n 3, 1) := by decide +kernel
theorem dX11_keyword_2 : decode cX11_keyword 2 = .ok (.iload_n 3, 1) := by decide +kernel
theorem dX11_keyword_3 : decode cX11_keyword 3 = .ok (.getstatic 83, 3) := by decide +kernel
theorem dX11_keyword_6 : decode cX11_keyword 6 = .ok (.arraylength, 1) := by decide +kernel
theorem dX11_keyword_7 : decode cX11_keyword 7 = .ok (.if_icmp .ge 25, 3) := by decide +kernel
theorem dX11_keyword_10 : decode cX11_keyword 10 = .ok (.aload_n 0, 1) := by decide +kernel
theorem dX11_keyword_11 : decode cX11_keyword 11 = .ok (.iload_n 1, 1) := by decide +kernel
theorem dX11_keyword_12 : decode cX11_keyword 12 = .ok (.iload_n 2, 1) := by decide +kernel
theorem dX11_keyword_13 : decode cX11_keyword 13 = .ok (.getstatic 83, 3) := by decide +kernel
theorem dX11_keyword_16 : decode cX11_keyword 16 = .ok (.iload_n 3, 1) := by decide +kernel
theorem dX11_keyword_17 : decode cX11_keyword 17 = .ok (.aaload, 1) := by decide +kernel
theorem dX11_keyword_18 : decode cX11_keyword 18 = .ok (.invokevirtual 87, 3) := by decide +kernel
theorem dX11_keyword_21 : decode cX11_keyword 21 = .ok (.ifCond .eq 5, 3) := by decide +kernel
theorem dX11_keyword_24 : decode cX11_keyword 24 = .ok (.iload_n 3, 1) := by decide +kernel
theorem dX11_keyword_25 : decode cX11_keyword 25 = .ok (.ireturn, 1) := by decide +kernel
theorem dX11_keyword_26 : decode cX11_keyword 26 = .ok (.iinc 3 1, 3) := by decide +kernel
theorem dX11_keyword_29 : decode cX11_keyword 29 = .ok (.goto (-27), 3) := by decide +kernel
theorem dX11_keyword_32 : decode cX11_keyword 32 = .ok (.iload_n 2, 1) := by decide +kernel
theorem dX11_keyword_33 : decode cX11_keyword 33 = .ok (.bipush 10, 2) := by decide +kernel
theorem dX11_keyword_35 : decode cX11_keyword 35 = .ok (.if_icmp .le 8, 3) := by decide +kernel
theorem dX11_keyword_38 : decode cX11_keyword 38 = .ok (.bipush 32, 2) := by decide +kernel
theorem dX11_keyword_40 : decode cX11_keyword 40 = .ok (.goto 5, 3) := by decide +kernel
theorem dX11_keyword_43 : decode cX11_keyword 43 = .ok (.bipush 30, 2) := by decide +kernel
theorem dX11_keyword_45 : decode cX11_keyword 45 = .ok (.ireturn, 1) := by decide +kernel
theorem dX11_symbol_0 : decode cX11_symbol 0 = .ok (.iload_n 0, 1) := by decide +kernel
theorem dX11_symbol_1 : decode cX11_symbol 1 = .ok (.tableswitch 270 40 93 #[231, 234, 255, 249, 246, 252, 270, 258, 270, 270, 270, 270, 270, 270, 270, 270, 270, 270, 270, 243, 261, 267, 264, 270, 270, 270, 270, 270, 270, 270, 270, 270, 270, 270, 270, 270, 270, 270, 270, 270, 270, 270, 270, 270, 270, 270, 270, 270, 270, 270, 270, 237, 270, 240], 231) := by decide +kernel
theorem dX11_symbol_232 : decode cX11_symbol 232 = .ok (.bipush 49, 2) := by decide +kernel
theorem dX11_symbol_234 : decode cX11_symbol 234 = .ok (.ireturn, 1) := by decide +kernel
theorem dX11_symbol_235 : decode cX11_symbol 235 = .ok (.bipush 50, 2) := by decide +kernel
theorem dX11_symbol_237 : decode cX11_symbol 237 = .ok (.ireturn, 1) := by decide +kernel
theorem dX11_symbol_238 : decode cX11_symbol 238 = .ok (.bipush 51, 2) := by decide +kernel
theorem dX11_symbol_240 : decode cX11_symbol 240 = .ok (.ireturn, 1) := by decide +kernel
theorem dX11_symbol_241 : decode cX11_symbol 241 = .ok (.bipush 52, 2) := by decide +kernel
theorem dX11_symbol_243 : decode cX11_symbol 243 = .ok (.ireturn, 1) := by decide +kernel
theorem dX11_symbol_244 : decode cX11_symbol 244 = .ok (.bipush 53, 2) := by decide +kernel
theorem dX11_symbol_246 : decode cX11_symbol 246 = .ok (.ireturn, 1) := by decide +kernel
theorem dX11_symbol_247 : decode cX11_symbol 247 = .ok (.bipush 54, 2) := by decide +kernel
theorem dX11_symbol_249 : decode cX11_symbol 249 = .ok (.ireturn, 1) := by decide +kernel
theorem dX11_symbol_250 : decode cX11_symbol 250 = .ok (.bipush 40, 2) := by decide +kernel
theorem dX11_symbol_252 : decode cX11_symbol 252 = .ok (.ireturn, 1) := by decide +kernel
theorem dX11_symbol_253 : decode cX11_symbol 253 = .ok (.bipush 41, 2) := by decide +kernel
theorem dX11_symbol_255 : decode cX11_symbol 255 = .ok (.ireturn, 1) := by decide +kernel
theorem dX11_symbol_256 : decode cX11_symbol 256 = .ok (.bipush 42, 2) := by decide +kernel
theorem dX11_symbol_258 : decode cX11_symbol 258 = .ok (.ireturn, 1) := by decide +kernel
theorem dX11_symbol_259 : decode cX11_symbol 259 = .ok (.bipush 43, 2) := by decide +kernel
theorem dX11_symbol_261 : decode cX11_symbol 261 = .ok (.ireturn, 1) := by decide +kernel
theorem dX11_symbol_262 : decode cX11_symbol 262 = .ok (.bipush 44, 2) := by decide +kernel
theorem dX11_symbol_264 : decode cX11_symbol 264 = .ok (.ireturn, 1) := by decide +kernel
theorem dX11_symbol_265 : decode cX11_symbol 265 = .ok (.bipush 45, 2) := by decide +kernel
theorem dX11_symbol_267 : decode cX11_symbol 267 = .ok (.ireturn, 1) := by decide +kernel
theorem dX11_symbol_268 : decode cX11_symbol 268 = .ok (.bipush 46, 2) := by decide +kernel
theorem dX11_symbol_270 : decode cX11_symbol 270 = .ok (.ireturn, 1) := by decide +kernel
theorem dX11_symbol_271 : decode cX11_symbol 271 = .ok (.bipush 32, 2) := by decide +kernel
theorem dX11_symbol_273 : decode cX11_symbol 273 = .ok (.ireturn, 1) := by decide +kernel
theorem dX11_read_0 : decode cX11_read 0 = .ok (.aload_n 0, 1) := by decide +kernel
theorem dX11_read_1 : decode cX11_read 1 = .ok (.getfield 9, 3) := by decide +kernel
theorem dX11_read_4 : decode cX11_read 4 = .ok (.iload_n 1, 1) := by decide +kernel
theorem dX11_read_5 : decode cX11_read 5 = .ok (.iaload, 1) := by decide +kernel
theorem dX11_read_6 : decode cX11_read 6 = .ok (.istore_n 3, 1) := by decide +kernel
theorem dX11_read_7 : decode cX11_read 7 = .ok (.iload_n 1, 1) := by decide +kernel
theorem dX11_read_8 : decode cX11_read 8 = .ok (.iconst 1, 1) := by decide +kernel
theorem dX11_read_9 : decode cX11_read 9 = .ok (.iadd, 1) := by decide +kernel
theorem dX11_read_10 : decode cX11_read 10 = .ok (.istore 4, 2) := by decide +kernel
theorem dX11_read_12 : decode cX11_read 12 = .ok (.aload_n 0, 1) := by decide +kernel
theorem dX11_read_13 : decode cX11_read 13 = .ok (.getfield 23, 3) := by decide +kernel
theorem dX11_read_16 : decode cX11_read 16 = .ok (.iload_n 2, 1) := by decide +kernel
theorem dX11_read_17 : decode cX11_read 17 = .ok (.iload_n 1, 1) := by decide +kernel
theorem dX11_read_18 : decode cX11_read 18 = .ok (.iastore, 1) := by decide +kernel
theorem dX11_read_19 : decode cX11_read 19 = .ok (.iload_n 3, 1) := by decide +kernel
theorem dX11_read_20 : decode cX11_read 20 = .ok (.invokestatic 91, 3) := by decide +kernel
theorem dX11_read_23 : decode cX11_read 23 = .ok (.ifCond .eq 51, 3) := by decide +kernel
theorem dX11_read_26 : decode cX11_read 26 = .ok (.aload_n 0, 1) := by decide +kernel
theorem dX11_read_27 : decode cX11_read 27 = .ok (.iload 4, 2) := by decide +kernel
theorem dX11_read_29 : decode cX11_read 29 = .ok (.invokevirtual 95, 3) := by decide +kernel
theorem dX11_read_32 : decode cX11_read 32 = .ok (.invokestatic 91, 3) := by decide +kernel
theorem dX11_read_35 : decode cX11_read 35 = .ok (.ifCond .ne 15, 3) := by decide +kernel
theorem dX11_read_38 : decode cX11_read 38 = .ok (.aload_n 0, 1) := by decide +kernel
theorem dX11_read_39 : decode cX11_read 39 = .ok (.iload 4, 2) := by decide +kernel
theorem dX11_read_41 : decode cX11_read 41 = .ok (.invokevirtual 95, 3) := by decide +kernel
theorem dX11_read_44 : decode cX11_read 44 = .ok (.invokestatic 99, 3) := by decide +kernel
theorem dX11_read_47 : decode cX11_read 47 = .ok (.ifCond .eq 9, 3) := by decide +kernel
theorem dX11_read_50 : decode cX11_read 50 = .ok (.iinc 4 1, 3) := by decide +kernel
theorem dX11_read_53 : decode cX11_read 53 = .ok (.goto (-27), 3) := by decide +kernel
theorem dX11_read_56 : decode cX11_read 56 = .ok (.aload_n 0, 1) := by decide +kernel
theorem dX11_read_57 : decode cX11_read 57 = .ok (.getfield 17, 3) := by decide +kernel
theorem dX11_read_60 : decode cX11_read 60 = .ok (.iload_n 2, 1) := by decide +kernel
theorem dX11_read_61 : decode cX11_read 61 = .ok (.aload_n 0, 1) := by decide +kernel
theorem dX11_read_62 : decode cX11_read 62 = .ok (.iload_n 1, 1) := by decide +kernel
theorem dX11_read_63 : decode cX11_read 63 = .ok (.iload 4, 2) := by decide +kernel
theorem dX11_read_65 : decode cX11_read 65 = .ok (.iload_n 1, 1) := by decide +kernel
theorem dX11_read_66 : decode cX11_read 66 = .ok (.isub, 1) := by decide +kernel
theorem dX11_read_67 : decode cX11_read 67 = .ok (.invokevirtual 102, 3) := by decide +kernel
theorem dX11_read_70 : decode cX11_read 70 = .ok (.iastore, 1) := by decide +kernel
theorem dX11_read_71 : decode cX11_read 71 = .ok (.goto 168, 3) := by decide +kernel
theorem dX11_read_74 : decode cX11_read 74 = .ok (.iload_n 3, 1) := by decide +kernel
theorem dX11_read_75 : decode cX11_read 75 = .ok (.invokestatic 99, 3) := by decide +kernel
theorem dX11_read_78 : decode cX11_read 78 = .ok (.ifCond .eq 91, 3) := by decide +kernel
theorem dX11_read_81 : decode cX11_read 81 = .ok (.iload_n 3, 1) := by decide +kernel
theorem dX11_read_82 : decode cX11_read 82 = .ok (.bipush 48, 2) := by decide +kernel
theorem dX11_read_84 : decode cX11_read 84 = .ok (.isub, 1) := by decide +kernel
theorem dX11_read_85 : decode cX11_read 85 = .ok (.istore 5, 2) := by decide +kernel
theorem dX11_read_87 : decode cX11_read 87 = .ok (.aload_n 0, 1) := by decide +kernel
theorem dX11_read_88 : decode cX11_read 88 = .ok (.iload 4, 2) := by decide +kernel
theorem dX11_read_90 : decode cX11_read 90 = .ok (.invokevirtual 95, 3) := by decide +kernel
theorem dX11_read_93 : decode cX11_read 93 = .ok (.invokestatic 99, 3) := by decide +kernel
theorem dX11_read_96 : decode cX11_read 96 = .ok (.ifCond .eq 40, 3) := by decide +kernel
theorem dX11_read_99 : decode cX11_read 99 = .ok (.iload 4, 2) := by decide +kernel
theorem dX11_read_101 : decode cX11_read 101 = .ok (.iload_n 1, 1) := by decide +kernel
theorem dX11_read_102 : decode cX11_read 102 = .ok (.isub, 1) := by decide +kernel
theorem dX11_read_103 : decode cX11_read 103 = .ok (.bipush 7, 2) := by decide +kernel
theorem dX11_read_105 : decode cX11_read 105 = .ok (.if_icmp .ge 21, 3) := by decide +kernel
theorem dX11_read_108 : decode cX11_read 108 = .ok (.bipush 10, 2) := by decide +kernel
theorem dX11_read_110 : decode cX11_read 110 = .ok (.iload 5, 2) := by decide +kernel
theorem dX11_read_112 : decode cX11_read 112 = .ok (.imul, 1) := by decide +kernel
theorem dX11_read_113 : decode cX11_read 113 = .ok (.aload_n 0, 1) := by decide +kernel
theorem dX11_read_114 : decode cX11_read 114 = .ok (.iload 4, 2) := by decide +kernel
theorem dX11_read_116 : decode cX11_read 116 = .ok (.invokevirtual 95, 3) := by decide +kernel
theorem dX11_read_119 : decode cX11_read 119 = .ok (.iadd, 1) := by decide +kernel
theorem dX11_read_120 : decode cX11_read 120 = .ok (.bipush 48, 2) := by decide +kernel
theorem dX11_read_122 : decode cX11_read 122 = .ok (.isub, 1) := by decide +kernel
theorem dX11_read_123 : decode cX11_read 123 = .ok (.goto 5, 3) := by decide +kernel
theorem dX11_read_126 : decode cX11_read 126 = .ok (.iload 5, 2) := by decide +kernel
theorem dX11_read_128 : decode cX11_read 128 = .ok (.istore 5, 2) := by decide +kernel
theorem dX11_read_130 : decode cX11_read 130 = .ok (.iinc 4 1, 3) := by decide +kernel
theorem dX11_read_133 : decode cX11_read 133 = .ok (.goto (-46), 3) := by decide +kernel
theorem dX11_read_136 : decode cX11_read 136 = .ok (.aload_n 0, 1) := by decide +kernel
theorem dX11_read_137 : decode cX11_read 137 = .ok (.getfield 20, 3) := by decide +kernel
theorem dX11_read_140 : decode cX11_read 140 = .ok (.iload_n 2, 1) := by decide +kernel
theorem dX11_read_141 : decode cX11_read 141 = .ok (.iload 5, 2) := by decide +kernel
theorem dX11_read_143 : decode cX11_read 143 = .ok (.iastore, 1) := by decide +kernel
theorem dX11_read_144 : decode cX11_read 144 = .ok (.aload_n 0, 1) := by decide +kernel
theorem dX11_read_145 : decode cX11_read 145 = .ok (.getfield 17, 3) := by decide +kernel
theorem dX11_read_148 : decode cX11_read 148 = .ok (.iload_n 2, 1) := by decide +kernel
theorem dX11_read_149 : decode cX11_read 149 = .ok (.iload 4, 2) := by decide +kernel
theorem dX11_read_151 : decode cX11_read 151 = .ok (.iload_n 1, 1) := by decide +kernel
theorem dX11_read_152 : decode cX11_read 152 = .ok (.isub, 1) := by decide +kernel
theorem dX11_read_153 : decode cX11_read 153 = .ok (.bipush 6, 2) := by decide +kernel
theorem dX11_read_155 : decode cX11_read 155 = .ok (.if_icmp .le 8, 3) := by decide +kernel
theorem dX11_read_158 : decode cX11_read 158 = .ok (.bipush 32, 2) := by decide +kernel
theorem dX11_read_160 : decode cX11_read 160 = .ok (.goto 5, 3) := by decide +kernel
theorem dX11_read_163 : decode cX11_read 163 = .ok (.bipush 31, 2) := by decide +kernel
theorem dX11_read_165 : decode cX11_read 165 = .ok (.iastore, 1) := by decide +kernel
theorem dX11_read_166 : decode cX11_read 166 = .ok (.goto 73, 3) := by decide +kernel
theorem dX11_read_169 : decode cX11_read 169 = .ok (.aload_n 0, 1) := by decide +kernel
theorem dX11_read_170 : decode cX11_read 170 = .ok (.getfield 17, 3) := by decide +kernel
theorem dX11_read_173 : decode cX11_read 173 = .ok (.iload_n 2, 1) := by decide +kernel
theorem dX11_read_174 : decode cX11_read 174 = .ok (.iload_n 3, 1) := by decide +kernel
theorem dX11_read_175 : decode cX11_read 175 = .ok (.invokestatic 106, 3) := by decide +kernel
theorem dX11_read_178 : decode cX11_read 178 = .ok (.iastore, 1) := by decide +kernel
theorem dX11_read_179 : decode cX11_read 179 = .ok (.aload_n 0, 1) := by decide +kernel
theorem dX11_read_180 : decode cX11_read 180 = .ok (.getfield 17, 3) := by decide +kernel
theorem dX11_read_183 : decode cX11_read 183 = .ok (.iload_n 2, 1) := by decide +kernel
theorem dX11_read_184 : decode cX11_read 184 = .ok (.iaload, 1) := by decide +kernel
theorem dX11_read_185 : decode cX11_read 185 = .ok (.bipush 44, 2) := by decide +kernel
theorem dX11_read_187 : decode cX11_read 187 = .ok (.if_icmp .eq 14, 3) := by decide +kernel
theorem dX11_read_190 : decode cX11_read 190 = .ok (.aload_n 0, 1) := by decide +kernel
theorem dX11_read_191 : decode cX11_read 191 = .ok (.getfield 17, 3) := by decide +kernel
theorem dX11_read_194 : decode cX11_read 194 = .ok (.iload_n 2, 1) := by decide +kernel
theorem dX11_read_195 : decode cX11_read 195 = .ok (.iaload, 1) := by decide +kernel
theorem dX11_read_196 : decode cX11_read 196 = .ok (.bipush 45, 2) := by decide +kernel
theorem dX11_read_198 : decode cX11_read 198 = .ok (.if_icmp .ne 41, 3) := by decide +kernel
theorem dX11_read_201 : decode cX11_read 201 = .ok (.aload_n 0, 1) := by decide +kernel
theorem dX11_read_202 : decode cX11_read 202 = .ok (.iload 4, 2) := by decide +kernel
theorem dX11_read_204 : decode cX11_read 204 = .ok (.invokevirtual 95, 3) := by decide +kernel
theorem dX11_read_207 : decode cX11_read 207 = .ok (.bipush 61, 2) := by decide +kernel
theorem dX11_read_209 : decode cX11_read 209 = .ok (.if_icmp .ne 30, 3) := by decide +kernel
theorem dX11_read_212 : decode cX11_read 212 = .ok (.aload_n 0, 1) := by decide +kernel
theorem dX11_read_213 : decode cX11_read 213 = .ok (.getfield 17, 3) := by decide +kernel
theorem dX11_read_216 : decode cX11_read 216 = .ok (.iload_n 2, 1) := by decide +kernel
theorem dX11_read_217 : decode cX11_read 217 = .ok (.aload_n 0, 1) := by decide +kernel
theorem dX11_read_218 : decode cX11_read 218 = .ok (.getfield 17, 3) := by decide +kernel
theorem dX11_read_221 : decode cX11_read 221 = .ok (.iload_n 2, 1) := by decide +kernel
theorem dX11_read_222 : decode cX11_read 222 = .ok (.iaload, 1) := by decide +kernel
theorem dX11_read_223 : decode cX11_read 223 = .ok (.bipush 44, 2) := by decide +kernel
theorem dX11_read_225 : decode cX11_read 225 = .ok (.if_icmp .ne 8, 3) := by decide +kernel
theorem dX11_read_228 : decode cX11_read 228 = .ok (.bipush 47, 2) := by decide +kernel
theorem dX11_read_230 : decode cX11_read 230 = .ok (.goto 5, 3) := by decide +kernel
theorem dX11_read_233 : decode cX11_read 233 = .ok (.bipush 48, 2) := by decide +kernel
theorem dX11_read_235 : decode cX11_read 235 = .ok (.iastore, 1) := by decide +kernel
theorem dX11_read_236 : decode cX11_read 236 = .ok (.iinc 4 1, 3) := by decide +kernel
theorem dX11_read_239 : decode cX11_read 239 = .ok (.aload_n 0, 1) := by decide +kernel
theorem dX11_read_240 : decode cX11_read 240 = .ok (.getfield 26, 3) := by decide +kernel
theorem dX11_read_243 : decode cX11_read 243 = .ok (.iload_n 2, 1) := by decide +kernel
theorem dX11_read_244 : decode cX11_read 244 = .ok (.iload 4, 2) := by decide +kernel
theorem dX11_read_246 : decode cX11_read 246 = .ok (.iload_n 1, 1) := by decide +kernel
theorem dX11_read_247 : decode cX11_read 247 = .ok (.isub, 1) := by decide +kernel
theorem dX11_read_248 : decode cX11_read 248 = .ok (.iastore, 1) := by decide +kernel
theorem dX11_read_249 : decode cX11_read 249 = .ok (.iload 4, 2) := by decide +kernel
theorem dX11_read_251 : decode cX11_read 251 = .ok (.ireturn, 1) := by decide +kernel
theorem dX11_skip_0 : decode cX11_skip 0 = .ok (.iload_n 1, 1) := by decide +kernel
theorem dX11_skip_1 : decode cX11_skip 1 = .ok (.istore_n 2, 1) := by decide +kernel
theorem dX11_skip_2 : decode cX11_skip 2 = .ok (.aload_n 0, 1) := by decide +kernel
theorem dX11_skip_3 : decode cX11_skip 3 = .ok (.iload_n 2, 1) := by decide +kernel
theorem dX11_skip_4 : decode cX11_skip 4 = .ok (.invokevirtual 95, 3) := by decide +kernel
theorem dX11_skip_7 : decode cX11_skip 7 = .ok (.bipush 32, 2) := by decide +kernel
theorem dX11_skip_9 : decode cX11_skip 9 = .ok (.if_icmp .eq 13, 3) := by decide +kernel
theorem dX11_skip_12 : decode cX11_skip 12 = .ok (.aload_n 0, 1) := by decide +kernel
theorem dX11_skip_13 : decode cX11_skip 13 = .ok (.iload_n 2, 1) := by decide +kernel
theorem dX11_skip_14 : decode cX11_skip 14 = .ok (.invokevirtual 95, 3) := by decide +kernel
theorem dX11_skip_17 : decode cX11_skip 17 = .ok (.bipush 10, 2) := by decide +kernel
theorem dX11_skip_19 : decode cX11_skip 19 = .ok (.if_icmp .ne 9, 3) := by decide +kernel
theorem dX11_skip_22 : decode cX11_skip 22 = .ok (.iinc 2 1, 3) := by decide +kernel
theorem dX11_skip_25 : decode cX11_skip 25 = .ok (.goto (-23), 3) := by decide +kernel
theorem dX11_skip_28 : decode cX11_skip 28 = .ok (.iload_n 2, 1) := by decide +kernel
theorem dX11_skip_29 : decode cX11_skip 29 = .ok (.ireturn, 1) := by decide +kernel
theorem dX11_readAll_0 : decode cX11_readAll 0 = .ok (.aload_n 0, 1) := by decide +kernel
theorem dX11_readAll_1 : decode cX11_readAll 1 = .ok (.iconst 0, 1) := by decide +kernel
theorem dX11_readAll_2 : decode cX11_readAll 2 = .ok (.invokevirtual 109, 3) := by decide +kernel
theorem dX11_readAll_5 : decode cX11_readAll 5 = .ok (.istore_n 1, 1) := by decide +kernel
theorem dX11_readAll_6 : decode cX11_readAll 6 = .ok (.iconst 0, 1) := by decide +kernel
theorem dX11_readAll_7 : decode cX11_readAll 7 = .ok (.istore_n 2, 1) := by decide +kernel
theorem dX11_readAll_8 : decode cX11_readAll 8 = .ok (.iload_n 1, 1) := by decide +kernel
theorem dX11_readAll_9 : decode cX11_readAll 9 = .ok (.aload_n 0, 1) := by decide +kernel
theorem dX11_readAll_10 : decode cX11_readAll 10 = .ok (.getfield 71, 3) := by decide +kernel
theorem dX11_readAll_13 : decode cX11_readAll 13 = .ok (.if_icmp .ge 52, 3) := by decide +kernel
theorem dX11_readAll_16 : decode cX11_readAll 16 = .ok (.iload_n 2, 1) := by decide +kernel
theorem dX11_readAll_17 : decode cX11_readAll 17 = .ok (.ifCond .eq 16, 3) := by decide +kernel
theorem dX11_readAll_20 : decode cX11_readAll 20 = .ok (.aload_n 0, 1) := by decide +kernel
theorem dX11_readAll_21 : decode cX11_readAll 21 = .ok (.getfield 17, 3) := by decide +kernel
theorem dX11_readAll_24 : decode cX11_readAll 24 = .ok (.iload_n 2, 1) := by decide +kernel
theorem dX11_readAll_25 : decode cX11_readAll 25 = .ok (.iconst 1, 1) := by decide +kernel
theorem dX11_readAll_26 : decode cX11_readAll 26 = .ok (.isub, 1) := by decide +kernel
theorem dX11_readAll_27 : decode cX11_readAll 27 = .ok (.iaload, 1) := by decide +kernel
theorem dX11_readAll_28 : decode cX11_readAll 28 = .ok (.bipush 32, 2) := by decide +kernel
theorem dX11_readAll_30 : decode cX11_readAll 30 = .ok (.if_icmp .eq 35, 3) := by decide +kernel
theorem dX11_readAll_33 : decode cX11_readAll 33 = .ok (.aload_n 0, 1) := by decide +kernel
theorem dX11_readAll_34 : decode cX11_readAll 34 = .ok (.aload_n 0, 1) := by decide +kernel
theorem dX11_readAll_35 : decode cX11_readAll 35 = .ok (.iload_n 1, 1) := by decide +kernel
theorem dX11_readAll_36 : decode cX11_readAll 36 = .ok (.iload_n 2, 1) := by decide +kernel
theorem dX11_readAll_37 : decode cX11_readAll 37 = .ok (.invokevirtual 112, 3) := by decide +kernel
theorem dX11_readAll_40 : decode cX11_readAll 40 = .ok (.invokevirtual 109, 3) := by decide +kernel
theorem dX11_readAll_43 : decode cX11_readAll 43 = .ok (.istore_n 1, 1) := by decide +kernel
theorem dX11_readAll_44 : decode cX11_readAll 44 = .ok (.iload_n 2, 1) := by decide +kernel
theorem dX11_readAll_45 : decode cX11_readAll 45 = .ok (.sipush 400, 3) := by decide +kernel
theorem dX11_readAll_48 : decode cX11_readAll 48 = .ok (.if_icmp .ne 11, 3) := by decide +kernel
theorem dX11_readAll_51 : decode cX11_readAll 51 = .ok (.aload_n 0, 1) := by decide +kernel
theorem dX11_readAll_52 : decode cX11_readAll 52 = .ok (.getfield 17, 3) := by decide +kernel
theorem dX11_readAll_55 : decode cX11_readAll 55 = .ok (.iload_n 2, 1) := by decide +kernel
theorem dX11_readAll_56 : decode cX11_readAll 56 = .ok (.bipush 32, 2) := by decide +kernel
theorem dX11_readAll_58 : decode cX11_readAll 58 = .ok (.iastore, 1) := by decide +kernel
theorem dX11_readAll_59 : decode cX11_readAll 59 = .ok (.iinc 2 1, 3) := by decide +kernel
theorem dX11_readAll_62 : decode cX11_readAll 62 = .ok (.goto (-54), 3) := by decide +kernel
theorem dX11_readAll_65 : decode cX11_readAll 65 = .ok (.aload_n 0, 1) := by decide +kernel
theorem dX11_readAll_66 : decode cX11_readAll 66 = .ok (.getfield 17, 3) := by decide +kernel
theorem dX11_readAll_69 : decode cX11_readAll 69 = .ok (.iload_n 2, 1) := by decide +kernel
theorem dX11_readAll_70 : decode cX11_readAll 70 = .ok (.bipush 33, 2) := by decide +kernel
theorem dX11_readAll_72 : decode cX11_readAll 72 = .ok (.iastore, 1) := by decide +kernel
theorem dX11_readAll_73 : decode cX11_readAll 73 = .ok (.aload_n 0, 1) := by decide +kernel
theorem dX11_readAll_74 : decode cX11_readAll 74 = .ok (.getfield 23, 3) := by decide +kernel
theorem dX11_readAll_77 : decode cX11_readAll 77 = .ok (.iload_n 2, 1) := by decide +kernel
theorem dX11_readAll_78 : decode cX11_readAll 78 = .ok (.aload_n 0, 1) := by decide +kernel
theorem dX11_readAll_79 : decode cX11_readAll 79 = .ok (.getfield 71, 3) := by decide +kernel
theorem dX11_readAll_82 : decode cX11_readAll 82 = .ok (.iastore, 1) := by decide +kernel
theorem dX11_readAll_83 : decode cX11_readAll 83 = .ok (.return_, 1) := by decide +kernel
theorem dX11_is_0 : decode cX11_is 0 = .ok (.aload_n 0, 1) := by decide +kernel
theorem dX11_is_1 : decode cX11_is 1 = .ok (.getfield 115, 3) := by decide +kernel
theorem dX11_is_4 : decode cX11_is 4 = .ok (.ifCond .ne 20, 3) := by decide +kernel
theorem dX11_is_7 : decode cX11_is 7 = .ok (.aload_n 0, 1) := by decide +kernel
theorem dX11_is_8 : decode cX11_is 8 = .ok (.getfield 17, 3) := by decide +kernel
theorem dX11_is_11 : decode cX11_is 11 = .ok (.aload_n 0, 1) := by decide +kernel
theorem dX11_is_12 : decode cX11_is 12 = .ok (.getfield 119, 3) := by decide +kernel
theorem dX11_is_15 : decode cX11_is 15 = .ok (.iaload, 1) := by decide +kernel
theorem dX11_is_16 : decode cX11_is 16 = .ok (.iload_n 1, 1) := by decide +kernel
theorem dX11_is_17 : decode cX11_is 17 = .ok (.if_icmp .ne 7, 3) := by decide +kernel
theorem dX11_is_20 : decode cX11_is 20 = .ok (.iconst 1, 1) := by decide +kernel
theorem dX11_is_21 : decode cX11_is 21 = .ok (.goto 4, 3) := by decide +kernel
theorem dX11_is_24 : decode cX11_is 24 = .ok (.iconst 0, 1) := by decide +kernel
theorem dX11_is_25 : decode cX11_is 25 = .ok (.ireturn, 1) := by decide +kernel
theorem dX11_wrong_0 : decode cX11_wrong 0 = .ok (.aload_n 0, 1) := by decide +kernel
theorem dX11_wrong_1 : decode cX11_wrong 1 = .ok (.getfield 115, 3) := by decide +kernel
theorem dX11_wrong_4 : decode cX11_wrong 4 = .ok (.ifCond .eq 4, 3) := by decide +kernel
theorem dX11_wrong_7 : decode cX11_wrong 7 = .ok (.return_, 1) := by decide +kernel
theorem dX11_wrong_8 : decode cX11_wrong 8 = .ok (.aload_n 0, 1) := by decide +kernel
theorem dX11_wrong_9 : decode cX11_wrong 9 = .ok (.iconst 1, 1) := by decide +kernel
theorem dX11_wrong_10 : decode cX11_wrong 10 = .ok (.putfield 115, 3) := by decide +kernel
theorem dX11_wrong_13 : decode cX11_wrong 13 = .ok (.aload_n 0, 1) := by decide +kernel
theorem dX11_wrong_14 : decode cX11_wrong 14 = .ok (.iconst 1, 1) := by decide +kernel
theorem dX11_wrong_15 : decode cX11_wrong 15 = .ok (.putfield 122, 3) := by decide +kernel
theorem dX11_wrong_18 : decode cX11_wrong 18 = .ok (.aload_n 0, 1) := by decide +kernel
theorem dX11_wrong_19 : decode cX11_wrong 19 = .ok (.aload_n 0, 1) := by decide +kernel
theorem dX11_wrong_20 : decode cX11_wrong 20 = .ok (.getfield 119, 3) := by decide +kernel
theorem dX11_wrong_23 : decode cX11_wrong 23 = .ok (.putfield 125, 3) := by decide +kernel
theorem dX11_wrong_26 : decode cX11_wrong 26 = .ok (.return_, 1) := by decide +kernel
theorem dX11_take_0 : decode cX11_take 0 = .ok (.aload_n 0, 1) := by decide +kernel
theorem dX11_take_1 : decode cX11_take 1 = .ok (.iload_n 1, 1) := by decide +kernel
theorem dX11_take_2 : decode cX11_take 2 = .ok (.invokevirtual 128, 3) := by decide +kernel
theorem dX11_take_5 : decode cX11_take 5 = .ok (.ifCond .eq 16, 3) := by decide +kernel
theorem dX11_take_8 : decode cX11_take 8 = .ok (.aload_n 0, 1) := by decide +kernel
theorem dX11_take_9 : decode cX11_take 9 = .ok (.dup, 1) := by decide +kernel
theorem dX11_take_10 : decode cX11_take 10 = .ok (.getfield 119, 3) := by decide +kernel
theorem dX11_take_13 : decode cX11_take 13 = .ok (.iconst 1, 1) := by decide +kernel
theorem dX11_take_14 : decode cX11_take 14 = .ok (.iadd, 1) := by decide +kernel
theorem dX11_take_15 : decode cX11_take 15 = .ok (.putfield 119, 3) := by decide +kernel
theorem dX11_take_18 : decode cX11_take 18 = .ok (.goto 7, 3) := by decide +kernel
theorem dX11_take_21 : decode cX11_take 21 = .ok (.aload_n 0, 1) := by decide +kernel
theorem dX11_take_22 : decode cX11_take 22 = .ok (.invokevirtual 131, 3) := by decide +kernel
theorem dX11_take_25 : decode cX11_take 25 = .ok (.return_, 1) := by decide +kernel
theorem dX11_takes_0 : decode cX11_takes 0 = .ok (.aload_n 0, 1) := by decide +kernel
theorem dX11_takes_1 : decode cX11_takes 1 = .ok (.iload_n 1, 1) := by decide +kernel
theorem dX11_takes_2 : decode cX11_takes 2 = .ok (.invokevirtual 128, 3) := by decide +kernel
theorem dX11_takes_5 : decode cX11_takes 5 = .ok (.ifCond .ne 5, 3) := by decide +kernel
theorem dX11_takes_8 : decode cX11_takes 8 = .ok (.iconst 0, 1) := by decide +kernel
theorem dX11_takes_9 : decode cX11_takes 9 = .ok (.ireturn, 1) := by decide +kernel
theorem dX11_takes_10 : decode cX11_takes 10 = .ok (.aload_n 0, 1) := by decide +kernel
theorem dX11_takes_11 : decode cX11_takes 11 = .ok (.dup, 1) := by decide +kernel
theorem dX11_takes_12 : decode cX11_takes 12 = .ok (.getfield 119, 3) := by decide +kernel
theorem dX11_takes_15 : decode cX11_takes 15 = .ok (.iconst 1, 1) := by decide +kernel
theorem dX11_takes_16 : decode cX11_takes 16 = .ok (.iadd, 1) := by decide +kernel
theorem dX11_takes_17 : decode cX11_takes 17 = .ok (.putfield 119, 3) := by decide +kernel
theorem dX11_takes_20 : decode cX11_takes 20 = .ok (.iconst 1, 1) := by decide +kernel
theorem dX11_takes_21 : decode cX11_takes 21 = .ok (.ireturn, 1) := by decide +kernel
theorem dX11_deeper_0 : decode cX11_deeper 0 = .ok (.aload_n 0, 1) := by decide +kernel
theorem dX11_deeper_1 : decode cX11_deeper 1 = .ok (.getfield 134, 3) := by decide +kernel
theorem dX11_deeper_4 : decode cX11_deeper 4 = .ok (.bipush 8, 2) := by decide +kernel
theorem dX11_deeper_6 : decode cX11_deeper 6 = .ok (.if_icmp .ne 10, 3) := by decide +kernel
theorem dX11_deeper_9 : decode cX11_deeper 9 = .ok (.aload_n 0, 1) := by decide +kernel
theorem dX11_deeper_10 : decode cX11_deeper 10 = .ok (.invokevirtual 131, 3) := by decide +kernel
theorem dX11_deeper_13 : decode cX11_deeper 13 = .ok (.goto 13, 3) := by decide +kernel
theorem dX11_deeper_16 : decode cX11_deeper 16 = .ok (.aload_n 0, 1) := by decide +kernel
theorem dX11_deeper_17 : decode cX11_deeper 17 = .ok (.dup, 1) := by decide +kernel
theorem dX11_deeper_18 : decode cX11_deeper 18 = .ok (.getfield 119, 3) := by decide +kernel
theorem dX11_deeper_21 : decode cX11_deeper 21 = .ok (.iconst 1, 1) := by decide +kernel
theorem dX11_deeper_22 : decode cX11_deeper 22 = .ok (.iadd, 1) := by decide +kernel
theorem dX11_deeper_23 : decode cX11_deeper 23 = .ok (.putfield 119, 3) := by decide +kernel
theorem dX11_deeper_26 : decode cX11_deeper 26 = .ok (.aload_n 0, 1) := by decide +kernel
theorem dX11_deeper_27 : decode cX11_deeper 27 = .ok (.dup, 1) := by decide +kernel
theorem dX11_deeper_28 : decode cX11_deeper 28 = .ok (.getfield 134, 3) := by decide +kernel
theorem dX11_deeper_31 : decode cX11_deeper 31 = .ok (.iconst 1, 1) := by decide +kernel
theorem dX11_deeper_32 : decode cX11_deeper 32 = .ok (.iadd, 1) := by decide +kernel
theorem dX11_deeper_33 : decode cX11_deeper 33 = .ok (.putfield 134, 3) := by decide +kernel
theorem dX11_deeper_36 : decode cX11_deeper 36 = .ok (.return_, 1) := by decide +kernel
theorem dX11_mark_0 : decode cX11_mark 0 = .ok (.aload_n 0, 1) := by decide +kernel
theorem dX11_mark_1 : decode cX11_mark 1 = .ok (.getfield 115, 3) := by decide +kernel
theorem dX11_mark_4 : decode cX11_mark 4 = .ok (.ifCond .ne 10, 3) := by decide +kernel
theorem dX11_mark_7 : decode cX11_mark 7 = .ok (.aload_n 0, 1) := by decide +kernel
theorem dX11_mark_8 : decode cX11_mark 8 = .ok (.getfield 122, 3) := by decide +kernel
theorem dX11_mark_11 : decode cX11_mark 11 = .ok (.ifCond .eq 4, 3) := by decide +kernel
theorem dX11_mark_14 : decode cX11_mark 14 = .ok (.return_, 1) := by decide +kernel
theorem dX11_mark_15 : decode cX11_mark 15 = .ok (.aload_n 0, 1) := by decide +kernel
theorem dX11_mark_16 : decode cX11_mark 16 = .ok (.iload_n 1, 1) := by decide +kernel
theorem dX11_mark_17 : decode cX11_mark 17 = .ok (.putfield 122, 3) := by decide +kernel
theorem dX11_mark_20 : decode cX11_mark 20 = .ok (.aload_n 0, 1) := by decide +kernel
theorem dX11_mark_21 : decode cX11_mark 21 = .ok (.aload_n 0, 1) := by decide +kernel
theorem dX11_mark_22 : decode cX11_mark 22 = .ok (.getfield 119, 3) := by decide +kernel
theorem dX11_mark_25 : decode cX11_mark 25 = .ok (.putfield 125, 3) := by decide +kernel
theorem dX11_mark_28 : decode cX11_mark 28 = .ok (.return_, 1) := by decide +kernel
theorem dX11_node_0 : decode cX11_node 0 = .ok (.aload_n 0, 1) := by decide +kernel
theorem dX11_node_1 : decode cX11_node 1 = .ok (.getfield 39, 3) := by decide +kernel
theorem dX11_node_4 : decode cX11_node 4 = .ok (.getfield 137, 3) := by decide +kernel
theorem dX11_node_7 : decode cX11_node 7 = .ok (.istore 4, 2) := by decide +kernel
theorem dX11_node_9 : decode cX11_node 9 = .ok (.aload_n 0, 1) := by decide +kernel
theorem dX11_node_10 : decode cX11_node 10 = .ok (.getfield 39, 3) := by decide +kernel
theorem dX11_node_13 : decode cX11_node 13 = .ok (.getfield 140, 3) := by decide +kernel
theorem dX11_node_16 : decode cX11_node 16 = .ok (.iload 4, 2) := by decide +kernel
theorem dX11_node_18 : decode cX11_node 18 = .ok (.iload_n 1, 1) := by decide +kernel
theorem dX11_node_19 : decode cX11_node 19 = .ok (.iastore, 1) := by decide +kernel
theorem dX11_node_20 : decode cX11_node 20 = .ok (.aload_n 0, 1) := by decide +kernel
theorem dX11_node_21 : decode cX11_node 21 = .ok (.getfield 39, 3) := by decide +kernel
theorem dX11_node_24 : decode cX11_node 24 = .ok (.getfield 143, 3) := by decide +kernel
theorem dX11_node_27 : decode cX11_node 27 = .ok (.iload 4, 2) := by decide +kernel
theorem dX11_node_29 : decode cX11_node 29 = .ok (.iload_n 2, 1) := by decide +kernel
theorem dX11_node_30 : decode cX11_node 30 = .ok (.iastore, 1) := by decide +kernel
theorem dX11_node_31 : decode cX11_node 31 = .ok (.aload_n 0, 1) := by decide +kernel
theorem dX11_node_32 : decode cX11_node 32 = .ok (.getfield 39, 3) := by decide +kernel
theorem dX11_node_35 : decode cX11_node 35 = .ok (.getfield 146, 3) := by decide +kernel
theorem dX11_node_38 : decode cX11_node 38 = .ok (.iload 4, 2) := by decide +kernel
theorem dX11_node_40 : decode cX11_node 40 = .ok (.iload_n 3, 1) := by decide +kernel
theorem dX11_node_41 : decode cX11_node 41 = .ok (.iastore, 1) := by decide +kernel
theorem dX11_node_42 : decode cX11_node 42 = .ok (.aload_n 0, 1) := by decide +kernel
theorem dX11_node_43 : decode cX11_node 43 = .ok (.getfield 39, 3) := by decide +kernel
theorem dX11_node_46 : decode cX11_node 46 = .ok (.dup, 1) := by decide +kernel
theorem dX11_node_47 : decode cX11_node 47 = .ok (.getfield 137, 3) := by decide +kernel
theorem dX11_node_50 : decode cX11_node 50 = .ok (.iconst 1, 1) := by decide +kernel
theorem dX11_node_51 : decode cX11_node 51 = .ok (.iadd, 1) := by decide +kernel
theorem dX11_node_52 : decode cX11_node 52 = .ok (.putfield 137, 3) := by decide +kernel
theorem dX11_node_55 : decode cX11_node 55 = .ok (.iload 4, 2) := by decide +kernel
theorem dX11_node_57 : decode cX11_node 57 = .ok (.ireturn, 1) := by decide +kernel
theorem dX11_isSameName_0 : decode cX11_isSameName 0 = .ok (.aload_n 0, 1) := by decide +kernel
theorem dX11_isSameName_1 : decode cX11_isSameName 1 = .ok (.getfield 26, 3) := by decide +kernel
theorem dX11_isSameName_4 : decode cX11_isSameName 4 = .ok (.iload_n 1, 1) := by decide +kernel
theorem dX11_isSameName_5 : decode cX11_isSameName 5 = .ok (.iaload, 1) := by decide +kernel
theorem dX11_isSameName_6 : decode cX11_isSameName 6 = .ok (.aload_n 0, 1) := by decide +kernel
theorem dX11_isSameName_7 : decode cX11_isSameName 7 = .ok (.getfield 26, 3) := by decide +kernel
theorem dX11_isSameName_10 : decode cX11_isSameName 10 = .ok (.iload_n 2, 1) := by decide +kernel
theorem dX11_isSameName_11 : decode cX11_isSameName 11 = .ok (.iaload, 1) := by decide +kernel
theorem dX11_isSameName_12 : decode cX11_isSameName 12 = .ok (.if_icmp .eq 5, 3) := by decide +kernel
theorem dX11_isSameName_15 : decode cX11_isSameName 15 = .ok (.iconst 0, 1) := by decide +kernel
theorem dX11_isSameName_16 : decode cX11_isSameName 16 = .ok (.ireturn, 1) := by decide +kernel
theorem dX11_isSameName_17 : decode cX11_isSameName 17 = .ok (.iconst 0, 1) := by decide +kernel
theorem dX11_isSameName_18 : decode cX11_isSameName 18 = .ok (.istore_n 3, 1) := by decide +kernel
theorem dX11_isSameName_19 : decode cX11_isSameName 19 = .ok (.iload_n 3, 1) := by decide +kernel
theorem dX11_isSameName_20 : decode cX11_isSameName 20 = .ok (.aload_n 0, 1) := by decide +kernel
theorem dX11_isSameName_21 : decode cX11_isSameName 21 = .ok (.getfield 26, 3) := by decide +kernel
theorem dX11_isSameName_24 : decode cX11_isSameName 24 = .ok (.iload_n 1, 1) := by decide +kernel
theorem dX11_isSameName_25 : decode cX11_isSameName 25 = .ok (.iaload, 1) := by decide +kernel
theorem dX11_isSameName_26 : decode cX11_isSameName 26 = .ok (.if_icmp .ge 40, 3) := by decide +kernel
theorem dX11_isSameName_29 : decode cX11_isSameName 29 = .ok (.aload_n 0, 1) := by decide +kernel
theorem dX11_isSameName_30 : decode cX11_isSameName 30 = .ok (.getfield 9, 3) := by decide +kernel
theorem dX11_isSameName_33 : decode cX11_isSameName 33 = .ok (.aload_n 0, 1) := by decide +kernel
theorem dX11_isSameName_34 : decode cX11_isSameName 34 = .ok (.getfield 23, 3) := by decide +kernel
theorem dX11_isSameName_37 : decode cX11_isSameName 37 = .ok (.iload_n 1, 1) := by decide +kernel
theorem dX11_isSameName_38 : decode cX11_isSameName 38 = .ok (.iaload, 1) := by decide +kernel
theorem dX11_isSameName_39 : decode cX11_isSameName 39 = .ok (.iload_n 3, 1) := by decide +kernel
theorem dX11_isSameName_40 : decode cX11_isSameName 40 = .ok (.iadd, 1) := by decide +kernel
theorem dX11_isSameName_41 : decode cX11_isSameName 41 = .ok (.iaload, 1) := by decide +kernel
theorem dX11_isSameName_42 : decode cX11_isSameName 42 = .ok (.aload_n 0, 1) := by decide +kernel
theorem dX11_isSameName_43 : decode cX11_isSameName 43 = .ok (.getfield 9, 3) := by decide +kernel
theorem dX11_isSameName_46 : decode cX11_isSameName 46 = .ok (.aload_n 0, 1) := by decide +kernel
theorem dX11_isSameName_47 : decode cX11_isSameName 47 = .ok (.getfield 23, 3) := by decide +kernel
theorem dX11_isSameName_50 : decode cX11_isSameName 50 = .ok (.iload_n 2, 1) := by decide +kernel
theorem dX11_isSameName_51 : decode cX11_isSameName 51 = .ok (.iaload, 1) := by decide +kernel
theorem dX11_isSameName_52 : decode cX11_isSameName 52 = .ok (.iload_n 3, 1) := by decide +kernel
theorem dX11_isSameName_53 : decode cX11_isSameName 53 = .ok (.iadd, 1) := by decide +kernel
theorem dX11_isSameName_54 : decode cX11_isSameName 54 = .ok (.iaload, 1) := by decide +kernel
theorem dX11_isSameName_55 : decode cX11_isSameName 55 = .ok (.if_icmp .eq 5, 3) := by decide +kernel
theorem dX11_isSameName_58 : decode cX11_isSameName 58 = .ok (.iconst 0, 1) := by decide +kernel
theorem dX11_isSameName_59 : decode cX11_isSameName 59 = .ok (.ireturn, 1) := by decide +kernel
theorem dX11_isSameName_60 : decode cX11_isSameName 60 = .ok (.iinc 3 1, 3) := by decide +kernel
theorem dX11_isSameName_63 : decode cX11_isSameName 63 = .ok (.goto (-44), 3) := by decide +kernel
theorem dX11_isSameName_66 : decode cX11_isSameName 66 = .ok (.iconst 1, 1) := by decide +kernel
theorem dX11_isSameName_67 : decode cX11_isSameName 67 = .ok (.ireturn, 1) := by decide +kernel
theorem dX11_known_0 : decode cX11_known 0 = .ok (.iconst 0, 1) := by decide +kernel
theorem dX11_known_1 : decode cX11_known 1 = .ok (.istore_n 1, 1) := by decide +kernel
theorem dX11_known_2 : decode cX11_known 2 = .ok (.iload_n 1, 1) := by decide +kernel
theorem dX11_known_3 : decode cX11_known 3 = .ok (.aload_n 0, 1) := by decide +kernel
theorem dX11_known_4 : decode cX11_known 4 = .ok (.getfield 39, 3) := by decide +kernel
theorem dX11_known_7 : decode cX11_known 7 = .ok (.getfield 149, 3) := by decide +kernel
theorem dX11_known_10 : decode cX11_known 10 = .ok (.if_icmp .ge 28, 3) := by decide +kernel
theorem dX11_known_13 : decode cX11_known 13 = .ok (.aload_n 0, 1) := by decide +kernel
theorem dX11_known_14 : decode cX11_known 14 = .ok (.aload_n 0, 1) := by decide +kernel
theorem dX11_known_15 : decode cX11_known 15 = .ok (.getfield 29, 3) := by decide +kernel
theorem dX11_known_18 : decode cX11_known 18 = .ok (.iload_n 1, 1) := by decide +kernel
theorem dX11_known_19 : decode cX11_known 19 = .ok (.iaload, 1) := by decide +kernel
theorem dX11_known_20 : decode cX11_known 20 = .ok (.aload_n 0, 1) := by decide +kernel
theorem dX11_known_21 : decode cX11_known 21 = .ok (.getfield 119, 3) := by decide +kernel
theorem dX11_known_24 : decode cX11_known 24 = .ok (.invokevirtual 152, 3) := by decide +kernel
theorem dX11_known_27 : decode cX11_known 27 = .ok (.ifCond .eq 5, 3) := by decide +kernel
theorem dX11_known_30 : decode cX11_known 30 = .ok (.iload_n 1, 1) := by decide +kernel
theorem dX11_known_31 : decode cX11_known 31 = .ok (.ireturn, 1) := by decide +kernel
theorem dX11_known_32 : decode cX11_known 32 = .ok (.iinc 1 1, 3) := by decide +kernel
theorem dX11_known_35 : decode cX11_known 35 = .ok (.goto (-33), 3) := by decide +kernel
theorem dX11_known_38 : decode cX11_known 38 = .ok (.iconst (-1), 1) := by decide +kernel
theorem dX11_known_39 : decode cX11_known 39 = .ok (.ireturn, 1) := by decide +kernel
theorem dX11_name_0 : decode cX11_name 0 = .ok (.aload_n 0, 1) := by decide +kernel
theorem dX11_name_1 : decode cX11_name 1 = .ok (.bipush 30, 2) := by decide +kernel
theorem dX11_name_3 : decode cX11_name 3 = .ok (.invokevirtual 128, 3) := by decide +kernel
theorem dX11_name_6 : decode cX11_name 6 = .ok (.ifCond .eq 10, 3) := by decide +kernel
theorem dX11_name_9 : decode cX11_name 9 = .ok (.aload_n 0, 1) := by decide +kernel
theorem dX11_name_10 : decode cX11_name 10 = .ok (.invokevirtual 156, 3) := by decide +kernel
theorem dX11_name_13 : decode cX11_name 13 = .ok (.goto 4, 3) := by decide +kernel
theorem dX11_name_16 : decode cX11_name 16 = .ok (.iconst 0, 1) := by decide +kernel
theorem dX11_name_17 : decode cX11_name 17 = .ok (.istore_n 1, 1) := by decide +kernel
theorem dX11_name_18 : decode cX11_name 18 = .ok (.iload_n 1, 1) := by decide +kernel
theorem dX11_name_19 : decode cX11_name 19 = .ok (.iconst (-1), 1) := by decide +kernel
theorem dX11_name_20 : decode cX11_name 20 = .ok (.if_icmp .ne 8, 3) := by decide +kernel
theorem dX11_name_23 : decode cX11_name 23 = .ok (.aload_n 0, 1) := by decide +kernel
theorem dX11_name_24 : decode cX11_name 24 = .ok (.iconst 3, 1) := by decide +kernel
theorem dX11_name_25 : decode cX11_name 25 = .ok (.invokevirtual 159, 3) := by decide +kernel
theorem dX11_name_28 : decode cX11_name 28 = .ok (.aload_n 0, 1) := by decide +kernel
theorem dX11_name_29 : decode cX11_name 29 = .ok (.bipush 30, 2) := by decide +kernel
theorem dX11_name_31 : decode cX11_name 31 = .ok (.invokevirtual 163, 3) := by decide +kernel
theorem dX11_name_34 : decode cX11_name 34 = .ok (.iconst 0, 1) := by decide +kernel
theorem dX11_name_35 : decode cX11_name 35 = .ok (.iload_n 1, 1) := by decide +kernel
theorem dX11_name_36 : decode cX11_name 36 = .ok (.invokestatic 166, 3) := by decide +kernel
theorem dX11_name_39 : decode cX11_name 39 = .ok (.ireturn, 1) := by decide +kernel
theorem dX11_inBrackets_0 : decode cX11_inBrackets 0 = .ok (.aload_n 0, 1) := by decide +kernel
theorem dX11_inBrackets_1 : decode cX11_inBrackets 1 = .ok (.invokevirtual 171, 3) := by decide +kernel
theorem dX11_inBrackets_4 : decode cX11_inBrackets 4 = .ok (.aload_n 0, 1) := by decide +kernel
theorem dX11_inBrackets_5 : decode cX11_inBrackets 5 = .ok (.invokevirtual 174, 3) := by decide +kernel
theorem dX11_inBrackets_8 : decode cX11_inBrackets 8 = .ok (.istore_n 1, 1) := by decide +kernel
theorem dX11_inBrackets_9 : decode cX11_inBrackets 9 = .ok (.aload_n 0, 1) := by decide +kernel
theorem dX11_inBrackets_10 : decode cX11_inBrackets 10 = .ok (.bipush 50, 2) := by decide +kernel
theorem dX11_inBrackets_12 : decode cX11_inBrackets 12 = .ok (.invokevirtual 163, 3) := by decide +kernel
theorem dX11_inBrackets_15 : decode cX11_inBrackets 15 = .ok (.aload_n 0, 1) := by decide +kernel
theorem dX11_inBrackets_16 : decode cX11_inBrackets 16 = .ok (.dup, 1) := by decide +kernel
theorem dX11_inBrackets_17 : decode cX11_inBrackets 17 = .ok (.getfield 134, 3) := by decide +kernel
theorem dX11_inBrackets_20 : decode cX11_inBrackets 20 = .ok (.iconst 1, 1) := by decide +kernel
theorem dX11_inBrackets_21 : decode cX11_inBrackets 21 = .ok (.isub, 1) := by decide +kernel
theorem dX11_inBrackets_22 : decode cX11_inBrackets 22 = .ok (.putfield 134, 3) := by decide +kernel
theorem dX11_inBrackets_25 : decode cX11_inBrackets 25 = .ok (.iload_n 1, 1) := by decide +kernel
theorem dX11_inBrackets_26 : decode cX11_inBrackets 26 = .ok (.ireturn, 1) := by decide +kernel
theorem dX11_ofTwo_0 : decode cX11_ofTwo 0 = .ok (.aload_n 0, 1) := by decide +kernel
theorem dX11_ofTwo_1 : decode cX11_ofTwo 1 = .ok (.dup, 1) := by decide +kernel
theorem dX11_ofTwo_2 : decode cX11_ofTwo 2 = .ok (.getfield 119, 3) := by decide +kernel
theorem dX11_ofTwo_5 : decode cX11_ofTwo 5 = .ok (.iconst 1, 1) := by decide +kernel
theorem dX11_ofTwo_6 : decode cX11_ofTwo 6 = .ok (.iadd, 1) := by decide +kernel
theorem dX11_ofTwo_7 : decode cX11_ofTwo 7 = .ok (.putfield 119, 3) := by decide +kernel
theorem dX11_ofTwo_10 : decode cX11_ofTwo 10 = .ok (.aload_n 0, 1) := by decide +kernel
theorem dX11_ofTwo_11 : decode cX11_ofTwo 11 = .ok (.bipush 49, 2) := by decide +kernel
theorem dX11_ofTwo_13 : decode cX11_ofTwo 13 = .ok (.invokevirtual 128, 3) := by decide +kernel
theorem dX11_ofTwo_16 : decode cX11_ofTwo 16 = .ok (.ifCond .ne 9, 3) := by decide +kernel
theorem dX11_ofTwo_19 : decode cX11_ofTwo 19 = .ok (.aload_n 0, 1) := by decide +kernel
theorem dX11_ofTwo_20 : decode cX11_ofTwo 20 = .ok (.invokevirtual 131, 3) := by decide +kernel
theorem dX11_ofTwo_23 : decode cX11_ofTwo 23 = .ok (.iconst 0, 1) := by decide +kernel
theorem dX11_ofTwo_24 : decode cX11_ofTwo 24 = .ok (.ireturn, 1) := by decide +kernel
theorem dX11_ofTwo_25 : decode cX11_ofTwo 25 = .ok (.aload_n 0, 1) := by decide +kernel
theorem dX11_ofTwo_26 : decode cX11_ofTwo 26 = .ok (.invokevirtual 171, 3) := by decide +kernel
theorem dX11_ofTwo_29 : decode cX11_ofTwo 29 = .ok (.aload_n 0, 1) := by decide +kernel
theorem dX11_ofTwo_30 : decode cX11_ofTwo 30 = .ok (.invokevirtual 174, 3) := by decide +kernel
theorem dX11_ofTwo_33 : decode cX11_ofTwo 33 = .ok (.istore_n 2, 1) := by decide +kernel
theorem dX11_ofTwo_34 : decode cX11_ofTwo 34 = .ok (.aload_n 0, 1) := by decide +kernel
theorem dX11_ofTwo_35 : decode cX11_ofTwo 35 = .ok (.bipush 54, 2) := by decide +kernel
theorem dX11_ofTwo_37 : decode cX11_ofTwo 37 = .ok (.invokevirtual 163, 3) := by decide +kernel
theorem dX11_ofTwo_40 : decode cX11_ofTwo 40 = .ok (.aload_n 0, 1) := by decide +kernel
theorem dX11_ofTwo_41 : decode cX11_ofTwo 41 = .ok (.invokevirtual 174, 3) := by decide +kernel
theorem dX11_ofTwo_44 : decode cX11_ofTwo 44 = .ok (.istore_n 3, 1) := by decide +kernel
theorem dX11_ofTwo_45 : decode cX11_ofTwo 45 = .ok (.aload_n 0, 1) := by decide +kernel
theorem dX11_ofTwo_46 : decode cX11_ofTwo 46 = .ok (.bipush 50, 2) := by decide +kernel
theorem dX11_ofTwo_48 : decode cX11_ofTwo 48 = .ok (.invokevirtual 163, 3) := by decide +kernel
theorem dX11_ofTwo_51 : decode cX11_ofTwo 51 = .ok (.aload_n 0, 1) := by decide +kernel
theorem dX11_ofTwo_52 : decode cX11_ofTwo 52 = .ok (.dup, 1) := by decide +kernel
theorem dX11_ofTwo_53 : decode cX11_ofTwo 53 = .ok (.getfield 134, 3) := by decide +kernel
theorem dX11_ofTwo_56 : decode cX11_ofTwo 56 = .ok (.iconst 1, 1) := by decide +kernel
theorem dX11_ofTwo_57 : decode cX11_ofTwo 57 = .ok (.isub, 1) := by decide +kernel
theorem dX11_ofTwo_58 : decode cX11_ofTwo 58 = .ok (.putfield 134, 3) := by decide +kernel
theorem dX11_ofTwo_61 : decode cX11_ofTwo 61 = .ok (.aload_n 0, 1) := by decide +kernel
theorem dX11_ofTwo_62 : decode cX11_ofTwo 62 = .ok (.iload_n 1, 1) := by decide +kernel
theorem dX11_ofTwo_63 : decode cX11_ofTwo 63 = .ok (.iload_n 2, 1) := by decide +kernel
theorem dX11_ofTwo_64 : decode cX11_ofTwo 64 = .ok (.iload_n 3, 1) := by decide +kernel
theorem dX11_ofTwo_65 : decode cX11_ofTwo 65 = .ok (.invokevirtual 177, 3) := by decide +kernel
theorem dX11_ofTwo_68 : decode cX11_ofTwo 68 = .ok (.ireturn, 1) := by decide +kernel
theorem dX11_isMeasure_0 : decode cX11_isMeasure 0 = .ok (.aload_n 0, 1) := by decide +kernel
theorem dX11_isMeasure_1 : decode cX11_isMeasure 1 = .ok (.iconst 2, 1) := by decide +kernel
theorem dX11_isMeasure_2 : decode cX11_isMeasure 2 = .ok (.invokevirtual 128, 3) := by decide +kernel
theorem dX11_isMeasure_5 : decode cX11_isMeasure 5 = .ok (.ifCond .ne 38, 3) := by decide +kernel
theorem dX11_isMeasure_8 : decode cX11_isMeasure 8 = .ok (.aload_n 0, 1) := by decide +kernel
theorem dX11_isMeasure_9 : decode cX11_isMeasure 9 = .ok (.iconst 1, 1) := by decide +kernel
theorem dX11_isMeasure_10 : decode cX11_isMeasure 10 = .ok (.invokevirtual 128, 3) := by decide +kernel
theorem dX11_isMeasure_13 : decode cX11_isMeasure 13 = .ok (.ifCond .ne 30, 3) := by decide +kernel
theorem dX11_isMeasure_16 : decode cX11_isMeasure 16 = .ok (.aload_n 0, 1) := by decide +kernel
theorem dX11_isMeasure_17 : decode cX11_isMeasure 17 = .ok (.bipush 17, 2) := by decide +kernel
theorem dX11_isMeasure_19 : decode cX11_isMeasure 19 = .ok (.invokevirtual 128, 3) := by decide +kernel
theorem dX11_isMeasure_22 : decode cX11_isMeasure 22 = .ok (.ifCond .ne 21, 3) := by decide +kernel
theorem dX11_isMeasure_25 : decode cX11_isMeasure 25 = .ok (.aload_n 0, 1) := by decide +kernel
theorem dX11_isMeasure_26 : decode cX11_isMeasure 26 = .ok (.bipush 15, 2) := by decide +kernel
theorem dX11_isMeasure_28 : decode cX11_isMeasure 28 = .ok (.invokevirtual 128, 3) := by decide +kernel
theorem dX11_isMeasure_31 : decode cX11_isMeasure 31 = .ok (.ifCond .ne 12, 3) := by decide +kernel
theorem dX11_isMeasure_34 : decode cX11_isMeasure 34 = .ok (.aload_n 0, 1) := by decide +kernel
theorem dX11_isMeasure_35 : decode cX11_isMeasure 35 = .ok (.bipush 16, 2) := by decide +kernel
theorem dX11_isMeasure_37 : decode cX11_isMeasure 37 = .ok (.invokevirtual 128, 3) := by decide +kernel
theorem dX11_isMeasure_40 : decode cX11_isMeasure 40 = .ok (.ifCond .eq 7, 3) := by decide +kernel
theorem dX11_isMeasure_43 : decode cX11_isMeasure 43 = .ok (.iconst 1, 1) := by decide +kernel
theorem dX11_isMeasure_44 : decode cX11_isMeasure 44 = .ok (.goto 4, 3) := by decide +kernel
theorem dX11_isMeasure_47 : decode cX11_isMeasure 47 = .ok (.iconst 0, 1) := by decide +kernel
theorem dX11_isMeasure_48 : decode cX11_isMeasure 48 = .ok (.ireturn, 1) := by decide +kernel
theorem dX11_measure_0 : decode cX11_measure 0 = .ok (.aload_n 0, 1) := by decide +kernel
theorem dX11_measure_1 : decode cX11_measure 1 = .ok (.getfield 17, 3) := by decide +kernel
theorem dX11_measure_4 : decode cX11_measure 4 = .ok (.aload_n 0, 1) := by decide +kernel
theorem dX11_measure_5 : decode cX11_measure 5 = .ok (.getfield 119, 3) := by decide +kernel
theorem dX11_measure_8 : decode cX11_measure 8 = .ok (.iaload, 1) := by decide +kernel
theorem dX11_measure_9 : decode cX11_measure 9 = .ok (.istore_n 1, 1) := by decide +kernel
theorem dX11_measure_10 : decode cX11_measure 10 = .ok (.aload_n 0, 1) := by decide +kernel
theorem dX11_measure_11 : decode cX11_measure 11 = .ok (.dup, 1) := by decide +kernel
theorem dX11_measure_12 : decode cX11_measure 12 = .ok (.getfield 119, 3) := by decide +kernel
theorem dX11_measure_15 : decode cX11_measure 15 = .ok (.iconst 1, 1) := by decide +kernel
theorem dX11_measure_16 : decode cX11_measure 16 = .ok (.iadd, 1) := by decide +kernel
theorem dX11_measure_17 : decode cX11_measure 17 = .ok (.putfield 119, 3) := by decide +kernel
theorem dX11_measure_20 : decode cX11_measure 20 = .ok (.aload_n 0, 1) := by decide +kernel
theorem dX11_measure_21 : decode cX11_measure 21 = .ok (.bipush 18, 2) := by decide +kernel
theorem dX11_measure_23 : decode cX11_measure 23 = .ok (.invokevirtual 163, 3) := by decide +kernel
theorem dX11_measure_26 : decode cX11_measure 26 = .ok (.aload_n 0, 1) := by decide +kernel
theorem dX11_measure_27 : decode cX11_measure 27 = .ok (.iload_n 1, 1) := by decide +kernel
theorem dX11_measure_28 : decode cX11_measure 28 = .ok (.aload_n 0, 1) := by decide +kernel
theorem dX11_measure_29 : decode cX11_measure 29 = .ok (.invokevirtual 181, 3) := by decide +kernel
theorem dX11_measure_32 : decode cX11_measure 32 = .ok (.iconst 0, 1) := by decide +kernel
theorem dX11_measure_33 : decode cX11_measure 33 = .ok (.invokevirtual 177, 3) := by decide +kernel
theorem dX11_measure_36 : decode cX11_measure 36 = .ok (.ireturn, 1) := by decide +kernel
theorem dX11_value_0 : decode cX11_value 0 = .ok (.aload_n 0, 1) := by decide +kernel
theorem dX11_value_1 : decode cX11_value 1 = .ok (.bipush 31, 2) := by decide +kernel
theorem dX11_value_3 : decode cX11_value 3 = .ok (.invokevirtual 128, 3) := by decide +kernel
theorem dX11_value_6 : decode cX11_value 6 = .ok (.ifCond .eq 32, 3) := by decide +kernel
theorem dX11_value_9 : decode cX11_value 9 = .ok (.aload_n 0, 1) := by decide +kernel
theorem dX11_value_10 : decode cX11_value 10 = .ok (.dup, 1) := by decide +kernel
theorem dX11_value_11 : decode cX11_value 11 = .ok (.getfield 119, 3) := by decide +kernel
theorem dX11_value_14 : decode cX11_value 14 = .ok (.iconst 1, 1) := by decide +kernel
theorem dX11_value_15 : decode cX11_value 15 = .ok (.iadd, 1) := by decide +kernel
theorem dX11_value_16 : decode cX11_value 16 = .ok (.putfield 119, 3) := by decide +kernel
theorem dX11_value_19 : decode cX11_value 19 = .ok (.aload_n 0, 1) := by decide +kernel
theorem dX11_value_20 : decode cX11_value 20 = .ok (.bipush 31, 2) := by decide +kernel
theorem dX11_value_22 : decode cX11_value 22 = .ok (.aload_n 0, 1) := by decide +kernel
theorem dX11_value_23 : decode cX11_value 23 = .ok (.getfield 20, 3) := by decide +kernel
theorem dX11_value_26 : decode cX11_value 26 = .ok (.aload_n 0, 1) := by decide +kernel
theorem dX11_value_27 : decode cX11_value 27 = .ok (.getfield 119, 3) := by decide +kernel
theorem dX11_value_30 : decode cX11_value 30 = .ok (.iconst 1, 1) := by decide +kernel
theorem dX11_value_31 : decode cX11_value 31 = .ok (.isub, 1) := by decide +kernel
theorem dX11_value_32 : decode cX11_value 32 = .ok (.iaload, 1) := by decide +kernel
theorem dX11_value_33 : decode cX11_value 33 = .ok (.iconst 0, 1) := by decide +kernel
theorem dX11_value_34 : decode cX11_value 34 = .ok (.invokevirtual 177, 3) := by decide +kernel
theorem dX11_value_37 : decode cX11_value 37 = .ok (.ireturn, 1) := by decide +kernel
theorem dX11_value_38 : decode cX11_value 38 = .ok (.bipush 12, 2) := by decide +kernel
theorem dX11_value_40 : decode cX11_value 40 = .ok (.istore_n 1, 1) := by decide +kernel
theorem dX11_value_41 : decode cX11_value 41 = .ok (.iload_n 1, 1) := by decide +kernel
theorem dX11_value_42 : decode cX11_value 42 = .ok (.bipush 14, 2) := by decide +kernel
theorem dX11_value_44 : decode cX11_value 44 = .ok (.if_icmp .gt 25, 3) := by decide +kernel
theorem dX11_value_47 : decode cX11_value 47 = .ok (.aload_n 0, 1) := by decide +kernel
theorem dX11_value_48 : decode cX11_value 48 = .ok (.iload_n 1, 1) := by decide +kernel
theorem dX11_value_49 : decode cX11_value 49 = .ok (.invokevirtual 184, 3) := by decide +kernel
theorem dX11_value_52 : decode cX11_value 52 = .ok (.ifCond .eq 11, 3) := by decide +kernel
theorem dX11_value_55 : decode cX11_value 55 = .ok (.aload_n 0, 1) := by decide +kernel
theorem dX11_value_56 : decode cX11_value 56 = .ok (.iload_n 1, 1) := by decide +kernel
theorem dX11_value_57 : decode cX11_value 57 = .ok (.iconst 0, 1) := by decide +kernel
theorem dX11_value_58 : decode cX11_value 58 = .ok (.iconst 0, 1) := by decide +kernel
theorem dX11_value_59 : decode cX11_value 59 = .ok (.invokevirtual 177, 3) := by decide +kernel
theorem dX11_value_62 : decode cX11_value 62 = .ok (.ireturn, 1) := by decide +kernel
theorem dX11_value_63 : decode cX11_value 63 = .ok (.iinc 1 1, 3) := by decide +kernel
theorem dX11_value_66 : decode cX11_value 66 = .ok (.goto (-25), 3) := by decide +kernel
theorem dX11_value_69 : decode cX11_value 69 = .ok (.aload_n 0, 1) := by decide +kernel
theorem dX11_value_70 : decode cX11_value 70 = .ok (.invokevirtual 187, 3) := by decide +kernel
theorem dX11_value_73 : decode cX11_value 73 = .ok (.ifCond .eq 8, 3) := by decide +kernel
theorem dX11_value_76 : decode cX11_value 76 = .ok (.aload_n 0, 1) := by decide +kernel
theorem dX11_value_77 : decode cX11_value 77 = .ok (.invokevirtual 191, 3) := by decide +kernel
theorem dX11_value_80 : decode cX11_value 80 = .ok (.ireturn, 1) := by decide +kernel
theorem dX11_value_81 : decode cX11_value 81 = .ok (.aload_n 0, 1) := by decide +kernel
theorem dX11_value_82 : decode cX11_value 82 = .ok (.bipush 24, 2) := by decide +kernel
theorem dX11_value_84 : decode cX11_value 84 = .ok (.invokevirtual 128, 3) := by decide +kernel
theorem dX11_value_87 : decode cX11_value 87 = .ok (.ifCond .ne 12, 3) := by decide +kernel
theorem dX11_value_90 : decode cX11_value 90 = .ok (.aload_n 0, 1) := by decide +kernel
theorem dX11_value_91 : decode cX11_value 91 = .ok (.bipush 25, 2) := by decide +kernel
theorem dX11_value_93 : decode cX11_value 93 = .ok (.invokevirtual 128, 3) := by decide +kernel
theorem dX11_value_96 : decode cX11_value 96 = .ok (.ifCond .eq 17, 3) := by decide +kernel
theorem dX11_value_99 : decode cX11_value 99 = .ok (.aload_n 0, 1) := by decide +kernel
theorem dX11_value_100 : decode cX11_value 100 = .ok (.aload_n 0, 1) := by decide +kernel
theorem dX11_value_101 : decode cX11_value 101 = .ok (.getfield 17, 3) := by decide +kernel
theorem dX11_value_104 : decode cX11_value 104 = .ok (.aload_n 0, 1) := by decide +kernel
theorem dX11_value_105 : decode cX11_value 105 = .ok (.getfield 119, 3) := by decide +kernel
theorem dX11_value_108 : decode cX11_value 108 = .ok (.iaload, 1) := by decide +kernel
theorem dX11_value_109 : decode cX11_value 109 = .ok (.invokevirtual 194, 3) := by decide +kernel
theorem dX11_value_112 : decode cX11_value 112 = .ok (.ireturn, 1) := by decide +kernel
theorem dX11_value_113 : decode cX11_value 113 = .ok (.aload_n 0, 1) := by decide +kernel
theorem dX11_value_114 : decode cX11_value 114 = .ok (.bipush 49, 2) := by decide +kernel
theorem dX11_value_116 : decode cX11_value 116 = .ok (.invokevirtual 128, 3) := by decide +kernel
theorem dX11_value_119 : decode cX11_value 119 = .ok (.ifCond .eq 8, 3) := by decide +kernel
theorem dX11_value_122 : decode cX11_value 122 = .ok (.aload_n 0, 1) := by decide +kernel
theorem dX11_value_123 : decode cX11_value 123 = .ok (.invokevirtual 197, 3) := by decide +kernel
theorem dX11_value_126 : decode cX11_value 126 = .ok (.ireturn, 1) := by decide +kernel
theorem dX11_value_127 : decode cX11_value 127 = .ok (.aload_n 0, 1) := by decide +kernel
theorem dX11_value_128 : decode cX11_value 128 = .ok (.bipush 41, 2) := by decide +kernel
theorem dX11_value_130 : decode cX11_value 130 = .ok (.invokevirtual 128, 3) := by decide +kernel
theorem dX11_value_133 : decode cX11_value 133 = .ok (.ifCond .ne 9, 3) := by decide +kernel
theorem dX11_value_136 : decode cX11_value 136 = .ok (.aload_n 0, 1) := by decide +kernel
theorem dX11_value_137 : decode cX11_value 137 = .ok (.invokevirtual 131, 3) := by decide +kernel
theorem dX11_value_140 : decode cX11_value 140 = .ok (.iconst 0, 1) := by decide +kernel
theorem dX11_value_141 : decode cX11_value 141 = .ok (.ireturn, 1) := by decide +kernel
theorem dX11_value_142 : decode cX11_value 142 = .ok (.aload_n 0, 1) := by decide +kernel
theorem dX11_value_143 : decode cX11_value 143 = .ok (.invokevirtual 171, 3) := by decide +kernel
theorem dX11_value_146 : decode cX11_value 146 = .ok (.aload_n 0, 1) := by decide +kernel
theorem dX11_value_147 : decode cX11_value 147 = .ok (.invokevirtual 200, 3) := by decide +kernel
theorem dX11_value_150 : decode cX11_value 150 = .ok (.istore_n 1, 1) := by decide +kernel
theorem dX11_value_151 : decode cX11_value 151 = .ok (.aload_n 0, 1) := by decide +kernel
theorem dX11_value_152 : decode cX11_value 152 = .ok (.dup, 1) := by decide +kernel
theorem dX11_value_153 : decode cX11_value 153 = .ok (.getfield 134, 3) := by decide +kernel
theorem dX11_value_156 : decode cX11_value 156 = .ok (.iconst 1, 1) := by decide +kernel
theorem dX11_value_157 : decode cX11_value 157 = .ok (.isub, 1) := by decide +kernel
theorem dX11_value_158 : decode cX11_value 158 = .ok (.putfield 134, 3) := by decide +kernel
theorem dX11_value_161 : decode cX11_value 161 = .ok (.aload_n 0, 1) := by decide +kernel
theorem dX11_value_162 : decode cX11_value 162 = .ok (.bipush 60, 2) := by decide +kernel
theorem dX11_value_164 : decode cX11_value 164 = .ok (.iload_n 1, 1) := by decide +kernel
theorem dX11_value_165 : decode cX11_value 165 = .ok (.iconst 0, 1) := by decide +kernel
theorem dX11_value_166 : decode cX11_value 166 = .ok (.invokevirtual 177, 3) := by decide +kernel
theorem dX11_value_169 : decode cX11_value 169 = .ok (.ireturn, 1) := by decide +kernel
theorem dX11_product_0 : decode cX11_product 0 = .ok (.aload_n 0, 1) := by decide +kernel
theorem dX11_product_1 : decode cX11_product 1 = .ok (.invokevirtual 200, 3) := by decide +kernel
theorem dX11_product_4 : decode cX11_product 4 = .ok (.istore_n 1, 1) := by decide +kernel
theorem dX11_product_5 : decode cX11_product 5 = .ok (.aload_n 0, 1) := by decide +kernel
theorem dX11_product_6 : decode cX11_product 6 = .ok (.bipush 42, 2) := by decide +kernel
theorem dX11_product_8 : decode cX11_product 8 = .ok (.invokevirtual 128, 3) := by decide +kernel
theorem dX11_product_11 : decode cX11_product 11 = .ok (.ifCond .ne 12, 3) := by decide +kernel
theorem dX11_product_14 : decode cX11_product 14 = .ok (.aload_n 0, 1) := by decide +kernel
theorem dX11_product_15 : decode cX11_product 15 = .ok (.bipush 43, 2) := by decide +kernel
theorem dX11_product_17 : decode cX11_product 17 = .ok (.invokevirtual 128, 3) := by decide +kernel
theorem dX11_product_20 : decode cX11_product 20 = .ok (.ifCond .eq 37, 3) := by decide +kernel
theorem dX11_product_23 : decode cX11_product 23 = .ok (.aload_n 0, 1) := by decide +kernel
theorem dX11_product_24 : decode cX11_product 24 = .ok (.getfield 17, 3) := by decide +kernel
theorem dX11_product_27 : decode cX11_product 27 = .ok (.aload_n 0, 1) := by decide +kernel
theorem dX11_product_28 : decode cX11_product 28 = .ok (.getfield 119, 3) := by decide +kernel
theorem dX11_product_31 : decode cX11_product 31 = .ok (.iaload, 1) := by decide +kernel
theorem dX11_product_32 : decode cX11_product 32 = .ok (.istore_n 2, 1) := by decide +kernel
theorem dX11_product_33 : decode cX11_product 33 = .ok (.aload_n 0, 1) := by decide +kernel
theorem dX11_product_34 : decode cX11_product 34 = .ok (.dup, 1) := by decide +kernel
theorem dX11_product_35 : decode cX11_product 35 = .ok (.getfield 119, 3) := by decide +kernel
theorem dX11_product_38 : decode cX11_product 38 = .ok (.iconst 1, 1) := by decide +kernel
theorem dX11_product_39 : decode cX11_product 39 = .ok (.iadd, 1) := by decide +kernel
theorem dX11_product_40 : decode cX11_product 40 = .ok (.putfield 119, 3) := by decide +kernel
theorem dX11_product_43 : decode cX11_product 43 = .ok (.aload_n 0, 1) := by decide +kernel
theorem dX11_product_44 : decode cX11_product 44 = .ok (.iload_n 2, 1) := by decide +kernel
theorem dX11_product_45 : decode cX11_product 45 = .ok (.iload_n 1, 1) := by decide +kernel
theorem dX11_product_46 : decode cX11_product 46 = .ok (.aload_n 0, 1) := by decide +kernel
theorem dX11_product_47 : decode cX11_product 47 = .ok (.invokevirtual 200, 3) := by decide +kernel
theorem dX11_product_50 : decode cX11_product 50 = .ok (.invokevirtual 177, 3) := by decide +kernel
theorem dX11_product_53 : decode cX11_product 53 = .ok (.istore_n 1, 1) := by decide +kernel
theorem dX11_product_54 : decode cX11_product 54 = .ok (.goto (-49), 3) := by decide +kernel
theorem dX11_product_57 : decode cX11_product 57 = .ok (.iload_n 1, 1) := by decide +kernel
theorem dX11_product_58 : decode cX11_product 58 = .ok (.ireturn, 1) := by decide +kernel
theorem dX11_sum_0 : decode cX11_sum 0 = .ok (.aload_n 0, 1) := by decide +kernel
theorem dX11_sum_1 : decode cX11_sum 1 = .ok (.invokevirtual 202, 3) := by decide +kernel
theorem dX11_sum_4 : decode cX11_sum 4 = .ok (.istore_n 1, 1) := by decide +kernel
theorem dX11_sum_5 : decode cX11_sum 5 = .ok (.aload_n 0, 1) := by decide +kernel
theorem dX11_sum_6 : decode cX11_sum 6 = .ok (.bipush 40, 2) := by decide +kernel
theorem dX11_sum_8 : decode cX11_sum 8 = .ok (.invokevirtual 128, 3) := by decide +kernel
theorem dX11_sum_11 : decode cX11_sum 11 = .ok (.ifCond .ne 12, 3) := by decide +kernel
theorem dX11_sum_14 : decode cX11_sum 14 = .ok (.aload_n 0, 1) := by decide +kernel
theorem dX11_sum_15 : decode cX11_sum 15 = .ok (.bipush 41, 2) := by decide +kernel
theorem dX11_sum_17 : decode cX11_sum 17 = .ok (.invokevirtual 128, 3) := by decide +kernel
theorem dX11_sum_20 : decode cX11_sum 20 = .ok (.ifCond .eq 37, 3) := by decide +kernel
theorem dX11_sum_23 : decode cX11_sum 23 = .ok (.aload_n 0, 1) := by decide +kernel
theorem dX11_sum_24 : decode cX11_sum 24 = .ok (.getfield 17, 3) := by decide +kernel
theorem dX11_sum_27 : decode cX11_sum 27 = .ok (.aload_n 0, 1) := by decide +kernel
theorem dX11_sum_28 : decode cX11_sum 28 = .ok (.getfield 119, 3) := by decide +kernel
theorem dX11_sum_31 : decode cX11_sum 31 = .ok (.iaload, 1) := by decide +kernel
theorem dX11_sum_32 : decode cX11_sum 32 = .ok (.istore_n 2, 1) := by decide +kernel
theorem dX11_sum_33 : decode cX11_sum 33 = .ok (.aload_n 0, 1) := by decide +kernel
theorem dX11_sum_34 : decode cX11_sum 34 = .ok (.dup, 1) := by decide +kernel
theorem dX11_sum_35 : decode cX11_sum 35 = .ok (.getfield 119, 3) := by decide +kernel
theorem dX11_sum_38 : decode cX11_sum 38 = .ok (.iconst 1, 1) := by decide +kernel
theorem dX11_sum_39 : decode cX11_sum 39 = .ok (.iadd, 1) := by decide +kernel
theorem dX11_sum_40 : decode cX11_sum 40 = .ok (.putfield 119, 3) := by decide +kernel
theorem dX11_sum_43 : decode cX11_sum 43 = .ok (.aload_n 0, 1) := by decide +kernel
theorem dX11_sum_44 : decode cX11_sum 44 = .ok (.iload_n 2, 1) := by decide +kernel
theorem dX11_sum_45 : decode cX11_sum 45 = .ok (.iload_n 1, 1) := by decide +kernel
theorem dX11_sum_46 : decode cX11_sum 46 = .ok (.aload_n 0, 1) := by decide +kernel
theorem dX11_sum_47 : decode cX11_sum 47 = .ok (.invokevirtual 202, 3) := by decide +kernel
theorem dX11_sum_50 : decode cX11_sum 50 = .ok (.invokevirtual 177, 3) := by decide +kernel
theorem dX11_sum_53 : decode cX11_sum 53 = .ok (.istore_n 1, 1) := by decide +kernel
theorem dX11_sum_54 : decode cX11_sum 54 = .ok (.goto (-49), 3) := by decide +kernel
theorem dX11_sum_57 : decode cX11_sum 57 = .ok (.iload_n 1, 1) := by decide +kernel
theorem dX11_sum_58 : decode cX11_sum 58 = .ok (.ireturn, 1) := by decide +kernel
theorem dX11_comparison_0 : decode cX11_comparison 0 = .ok (.aload_n 0, 1) := by decide +kernel
theorem dX11_comparison_1 : decode cX11_comparison 1 = .ok (.invokevirtual 174, 3) := by decide +kernel
theorem dX11_comparison_4 : decode cX11_comparison 4 = .ok (.istore_n 1, 1) := by decide +kernel
theorem dX11_comparison_5 : decode cX11_comparison 5 = .ok (.aload_n 0, 1) := by decide +kernel
theorem dX11_comparison_6 : decode cX11_comparison 6 = .ok (.getfield 17, 3) := by decide +kernel
theorem dX11_comparison_9 : decode cX11_comparison 9 = .ok (.aload_n 0, 1) := by decide +kernel
theorem dX11_comparison_10 : decode cX11_comparison 10 = .ok (.getfield 119, 3) := by decide +kernel
theorem dX11_comparison_13 : decode cX11_comparison 13 = .ok (.iaload, 1) := by decide +kernel
theorem dX11_comparison_14 : decode cX11_comparison 14 = .ok (.istore_n 2, 1) := by decide +kernel
theorem dX11_comparison_15 : decode cX11_comparison 15 = .ok (.aload_n 0, 1) := by decide +kernel
theorem dX11_comparison_16 : decode cX11_comparison 16 = .ok (.getfield 115, 3) := by decide +kernel
theorem dX11_comparison_19 : decode cX11_comparison 19 = .ok (.ifCond .ne 14, 3) := by decide +kernel
theorem dX11_comparison_22 : decode cX11_comparison 22 = .ok (.iload_n 2, 1) := by decide +kernel
theorem dX11_comparison_23 : decode cX11_comparison 23 = .ok (.bipush 44, 2) := by decide +kernel
theorem dX11_comparison_25 : decode cX11_comparison 25 = .ok (.bipush 48, 2) := by decide +kernel
theorem dX11_comparison_27 : decode cX11_comparison 27 = .ok (.invokestatic 67, 3) := by decide +kernel
theorem dX11_comparison_30 : decode cX11_comparison 30 = .ok (.ifCond .ne 9, 3) := by decide +kernel
theorem dX11_comparison_33 : decode cX11_comparison 33 = .ok (.aload_n 0, 1) := by decide +kernel
theorem dX11_comparison_34 : decode cX11_comparison 34 = .ok (.invokevirtual 131, 3) := by decide +kernel
theorem dX11_comparison_37 : decode cX11_comparison 37 = .ok (.iconst 0, 1) := by decide +kernel
theorem dX11_comparison_38 : decode cX11_comparison 38 = .ok (.ireturn, 1) := by decide +kernel
theorem dX11_comparison_39 : decode cX11_comparison 39 = .ok (.aload_n 0, 1) := by decide +kernel
theorem dX11_comparison_40 : decode cX11_comparison 40 = .ok (.dup, 1) := by decide +kernel
theorem dX11_comparison_41 : decode cX11_comparison 41 = .ok (.getfield 119, 3) := by decide +kernel
theorem dX11_comparison_44 : decode cX11_comparison 44 = .ok (.iconst 1, 1) := by decide +kernel
theorem dX11_comparison_45 : decode cX11_comparison 45 = .ok (.iadd, 1) := by decide +kernel
theorem dX11_comparison_46 : decode cX11_comparison 46 = .ok (.putfield 119, 3) := by decide +kernel
theorem dX11_comparison_49 : decode cX11_comparison 49 = .ok (.aload_n 0, 1) := by decide +kernel
theorem dX11_comparison_50 : decode cX11_comparison 50 = .ok (.iload_n 2, 1) := by decide +kernel
theorem dX11_comparison_51 : decode cX11_comparison 51 = .ok (.iload_n 1, 1) := by decide +kernel
theorem dX11_comparison_52 : decode cX11_comparison 52 = .ok (.aload_n 0, 1) := by decide +kernel
theorem dX11_comparison_53 : decode cX11_comparison 53 = .ok (.invokevirtual 174, 3) := by decide +kernel
theorem dX11_comparison_56 : decode cX11_comparison 56 = .ok (.invokevirtual 177, 3) := by decide +kernel
theorem dX11_comparison_59 : decode cX11_comparison 59 = .ok (.ireturn, 1) := by decide +kernel
theorem dX11_single_0 : decode cX11_single 0 = .ok (.aload_n 0, 1) := by decide +kernel
theorem dX11_single_1 : decode cX11_single 1 = .ok (.bipush 21, 2) := by decide +kernel
theorem dX11_single_3 : decode cX11_single 3 = .ok (.invokevirtual 128, 3) := by decide +kernel
theorem dX11_single_6 : decode cX11_single 6 = .ok (.ifCond .eq 31, 3) := by decide +kernel
theorem dX11_single_9 : decode cX11_single 9 = .ok (.aload_n 0, 1) := by decide +kernel
theorem dX11_single_10 : decode cX11_single 10 = .ok (.invokevirtual 171, 3) := by decide +kernel
theorem dX11_single_13 : decode cX11_single 13 = .ok (.aload_n 0, 1) := by decide +kernel
theorem dX11_single_14 : decode cX11_single 14 = .ok (.invokevirtual 205, 3) := by decide +kernel
theorem dX11_single_17 : decode cX11_single 17 = .ok (.istore_n 1, 1) := by decide +kernel
theorem dX11_single_18 : decode cX11_single 18 = .ok (.aload_n 0, 1) := by decide +kernel
theorem dX11_single_19 : decode cX11_single 19 = .ok (.dup, 1) := by decide +kernel
theorem dX11_single_20 : decode cX11_single 20 = .ok (.getfield 134, 3) := by decide +kernel
theorem dX11_single_23 : decode cX11_single 23 = .ok (.iconst 1, 1) := by decide +kernel
theorem dX11_single_24 : decode cX11_single 24 = .ok (.isub, 1) := by decide +kernel
theorem dX11_single_25 : decode cX11_single 25 = .ok (.putfield 134, 3) := by decide +kernel
theorem dX11_single_28 : decode cX11_single 28 = .ok (.aload_n 0, 1) := by decide +kernel
theorem dX11_single_29 : decode cX11_single 29 = .ok (.bipush 21, 2) := by decide +kernel
theorem dX11_single_31 : decode cX11_single 31 = .ok (.iload_n 1, 1) := by decide +kernel
theorem dX11_single_32 : decode cX11_single 32 = .ok (.iconst 0, 1) := by decide +kernel
theorem dX11_single_33 : decode cX11_single 33 = .ok (.invokevirtual 177, 3) := by decide +kernel
theorem dX11_single_36 : decode cX11_single 36 = .ok (.ireturn, 1) := by decide +kernel
theorem dX11_single_37 : decode cX11_single 37 = .ok (.aload_n 0, 1) := by decide +kernel
theorem dX11_single_38 : decode cX11_single 38 = .ok (.bipush 51, 2) := by decide +kernel
theorem dX11_single_40 : decode cX11_single 40 = .ok (.invokevirtual 128, 3) := by decide +kernel
theorem dX11_single_43 : decode cX11_single 43 = .ok (.ifCond .eq 30, 3) := by decide +kernel
theorem dX11_single_46 : decode cX11_single 46 = .ok (.aload_n 0, 1) := by decide +kernel
theorem dX11_single_47 : decode cX11_single 47 = .ok (.invokevirtual 171, 3) := by decide +kernel
theorem dX11_single_50 : decode cX11_single 50 = .ok (.aload_n 0, 1) := by decide +kernel
theorem dX11_single_51 : decode cX11_single 51 = .ok (.invokevirtual 208, 3) := by decide +kernel
theorem dX11_single_54 : decode cX11_single 54 = .ok (.istore_n 1, 1) := by decide +kernel
theorem dX11_single_55 : decode cX11_single 55 = .ok (.aload_n 0, 1) := by decide +kernel
theorem dX11_single_56 : decode cX11_single 56 = .ok (.bipush 52, 2) := by decide +kernel
theorem dX11_single_58 : decode cX11_single 58 = .ok (.invokevirtual 163, 3) := by decide +kernel
theorem dX11_single_61 : decode cX11_single 61 = .ok (.aload_n 0, 1) := by decide +kernel
theorem dX11_single_62 : decode cX11_single 62 = .ok (.dup, 1) := by decide +kernel
theorem dX11_single_63 : decode cX11_single 63 = .ok (.getfield 134, 3) := by decide +kernel
theorem dX11_single_66 : decode cX11_single 66 = .ok (.iconst 1, 1) := by decide +kernel
theorem dX11_single_67 : decode cX11_single 67 = .ok (.isub, 1) := by decide +kernel
theorem dX11_single_68 : decode cX11_single 68 = .ok (.putfield 134, 3) := by decide +kernel
theorem dX11_single_71 : decode cX11_single 71 = .ok (.iload_n 1, 1) := by decide +kernel
theorem dX11_single_72 : decode cX11_single 72 = .ok (.ireturn, 1) := by decide +kernel
theorem dX11_single_73 : decode cX11_single 73 = .ok (.aload_n 0, 1) := by decide +kernel
theorem dX11_single_74 : decode cX11_single 74 = .ok (.bipush 19, 2) := by decide +kernel
theorem dX11_single_76 : decode cX11_single 76 = .ok (.invokevirtual 184, 3) := by decide +kernel
theorem dX11_single_79 : decode cX11_single 79 = .ok (.ifCond .eq 12, 3) := by decide +kernel
theorem dX11_single_82 : decode cX11_single 82 = .ok (.aload_n 0, 1) := by decide +kernel
theorem dX11_single_83 : decode cX11_single 83 = .ok (.bipush 19, 2) := by decide +kernel
theorem dX11_single_85 : decode cX11_single 85 = .ok (.iconst 0, 1) := by decide +kernel
theorem dX11_single_86 : decode cX11_single 86 = .ok (.iconst 0, 1) := by decide +kernel
theorem dX11_single_87 : decode cX11_single 87 = .ok (.invokevirtual 177, 3) := by decide +kernel
theorem dX11_single_90 : decode cX11_single 90 = .ok (.ireturn, 1) := by decide +kernel
theorem dX11_single_91 : decode cX11_single 91 = .ok (.aload_n 0, 1) := by decide +kernel
theorem dX11_single_92 : decode cX11_single 92 = .ok (.bipush 20, 2) := by decide +kernel
theorem dX11_single_94 : decode cX11_single 94 = .ok (.invokevirtual 184, 3) := by decide +kernel
theorem dX11_single_97 : decode cX11_single 97 = .ok (.ifCond .eq 17, 3) := by decide +kernel
theorem dX11_single_100 : decode cX11_single 100 = .ok (.aload_n 0, 1) := by decide +kernel
theorem dX11_single_101 : decode cX11_single 101 = .ok (.bipush 20, 2) := by decide +kernel
theorem dX11_single_103 : decode cX11_single 103 = .ok (.aload_n 0, 1) := by decide +kernel
theorem dX11_single_104 : decode cX11_single 104 = .ok (.invokevirtual 181, 3) := by decide +kernel
theorem dX11_single_107 : decode cX11_single 107 = .ok (.iconst 0, 1) := by decide +kernel
theorem dX11_single_108 : decode cX11_single 108 = .ok (.invokevirtual 177, 3) := by decide +kernel
theorem dX11_single_111 : decode cX11_single 111 = .ok (.goto 7, 3) := by decide +kernel
theorem dX11_single_114 : decode cX11_single 114 = .ok (.aload_n 0, 1) := by decide +kernel
theorem dX11_single_115 : decode cX11_single 115 = .ok (.invokevirtual 211, 3) := by decide +kernel
theorem dX11_single_118 : decode cX11_single 118 = .ok (.ireturn, 1) := by decide +kernel
theorem dX11_both_0 : decode cX11_both 0 = .ok (.aload_n 0, 1) := by decide +kernel
theorem dX11_both_1 : decode cX11_both 1 = .ok (.invokevirtual 205, 3) := by decide +kernel
theorem dX11_both_4 : decode cX11_both 4 = .ok (.istore_n 1, 1) := by decide +kernel
theorem dX11_both_5 : decode cX11_both 5 = .ok (.aload_n 0, 1) := by decide +kernel
theorem dX11_both_6 : decode cX11_both 6 = .ok (.bipush 22, 2) := by decide +kernel
theorem dX11_both_8 : decode cX11_both 8 = .ok (.invokevirtual 184, 3) := by decide +kernel
theorem dX11_both_11 : decode cX11_both 11 = .ok (.ifCond .eq 18, 3) := by decide +kernel
theorem dX11_both_14 : decode cX11_both 14 = .ok (.aload_n 0, 1) := by decide +kernel
theorem dX11_both_15 : decode cX11_both 15 = .ok (.bipush 22, 2) := by decide +kernel
theorem dX11_both_17 : decode cX11_both 17 = .ok (.iload_n 1, 1) := by decide +kernel
theorem dX11_both_18 : decode cX11_both 18 = .ok (.aload_n 0, 1) := by decide +kernel
theorem dX11_both_19 : decode cX11_both 19 = .ok (.invokevirtual 205, 3) := by decide +kernel
theorem dX11_both_22 : decode cX11_both 22 = .ok (.invokevirtual 177, 3) := by decide +kernel
theorem dX11_both_25 : decode cX11_both 25 = .ok (.istore_n 1, 1) := by decide +kernel
theorem dX11_both_26 : decode cX11_both 26 = .ok (.goto (-21), 3) := by decide +kernel
theorem dX11_both_29 : decode cX11_both 29 = .ok (.iload_n 1, 1) := by decide +kernel
theorem dX11_both_30 : decode cX11_both 30 = .ok (.ireturn, 1) := by decide +kernel
theorem dX11_test_0 : decode cX11_test 0 = .ok (.aload_n 0, 1) := by decide +kernel
theorem dX11_test_1 : decode cX11_test 1 = .ok (.invokevirtual 214, 3) := by decide +kernel
theorem dX11_test_4 : decode cX11_test 4 = .ok (.istore_n 1, 1) := by decide +kernel
theorem dX11_test_5 : decode cX11_test 5 = .ok (.aload_n 0, 1) := by decide +kernel
theorem dX11_test_6 : decode cX11_test 6 = .ok (.bipush 23, 2) := by decide +kernel
theorem dX11_test_8 : decode cX11_test 8 = .ok (.invokevirtual 184, 3) := by decide +kernel
theorem dX11_test_11 : decode cX11_test 11 = .ok (.ifCond .eq 18, 3) := by decide +kernel
theorem dX11_test_14 : decode cX11_test 14 = .ok (.aload_n 0, 1) := by decide +kernel
theorem dX11_test_15 : decode cX11_test 15 = .ok (.bipush 23, 2) := by decide +kernel
theorem dX11_test_17 : decode cX11_test 17 = .ok (.iload_n 1, 1) := by decide +kernel
theorem dX11_test_18 : decode cX11_test 18 = .ok (.aload_n 0, 1) := by decide +kernel
theorem dX11_test_19 : decode cX11_test 19 = .ok (.invokevirtual 214, 3) := by decide +kernel
theorem dX11_test_22 : decode cX11_test 22 = .ok (.invokevirtual 177, 3) := by decide +kernel
theorem dX11_test_25 : decode cX11_test 25 = .ok (.istore_n 1, 1) := by decide +kernel
theorem dX11_test_26 : decode cX11_test 26 = .ok (.goto (-21), 3) := by decide +kernel
theorem dX11_test_29 : decode cX11_test 29 = .ok (.iload_n 1, 1) := by decide +kernel
theorem dX11_test_30 : decode cX11_test 30 = .ok (.ireturn, 1) := by decide +kernel
theorem dX11_numberTo_0 : decode cX11_numberTo 0 = .ok (.aload_n 0, 1) := by decide +kernel
theorem dX11_numberTo_1 : decode cX11_numberTo 1 = .ok (.getfield 20, 3) := by decide +kernel
theorem dX11_numberTo_4 : decode cX11_numberTo 4 = .ok (.aload_n 0, 1) := by decide +kernel
theorem dX11_numberTo_5 : decode cX11_numberTo 5 = .ok (.getfield 119, 3) := by decide +kernel
theorem dX11_numberTo_8 : decode cX11_numberTo 8 = .ok (.iaload, 1) := by decide +kernel
theorem dX11_numberTo_9 : decode cX11_numberTo 9 = .ok (.istore_n 2, 1) := by decide +kernel
theorem dX11_numberTo_10 : decode cX11_numberTo 10 = .ok (.aload_n 0, 1) := by decide +kernel
theorem dX11_numberTo_11 : decode cX11_numberTo 11 = .ok (.bipush 31, 2) := by decide +kernel
theorem dX11_numberTo_13 : decode cX11_numberTo 13 = .ok (.invokevirtual 128, 3) := by decide +kernel
theorem dX11_numberTo_16 : decode cX11_numberTo 16 = .ok (.ifCond .eq 13, 3) := by decide +kernel
theorem dX11_numberTo_19 : decode cX11_numberTo 19 = .ok (.iload_n 2, 1) := by decide +kernel
theorem dX11_numberTo_20 : decode cX11_numberTo 20 = .ok (.iload_n 1, 1) := by decide +kernel
theorem dX11_numberTo_21 : decode cX11_numberTo 21 = .ok (.if_icmp .le 8, 3) := by decide +kernel
theorem dX11_numberTo_24 : decode cX11_numberTo 24 = .ok (.aload_n 0, 1) := by decide +kernel
theorem dX11_numberTo_25 : decode cX11_numberTo 25 = .ok (.iconst 5, 1) := by decide +kernel
theorem dX11_numberTo_26 : decode cX11_numberTo 26 = .ok (.invokevirtual 159, 3) := by decide +kernel
theorem dX11_numberTo_29 : decode cX11_numberTo 29 = .ok (.aload_n 0, 1) := by decide +kernel
theorem dX11_numberTo_30 : decode cX11_numberTo 30 = .ok (.bipush 31, 2) := by decide +kernel
theorem dX11_numberTo_32 : decode cX11_numberTo 32 = .ok (.invokevirtual 163, 3) := by decide +kernel
theorem dX11_numberTo_35 : decode cX11_numberTo 35 = .ok (.iload_n 2, 1) := by decide +kernel
theorem dX11_numberTo_36 : decode cX11_numberTo 36 = .ok (.ireturn, 1) := by decide +kernel
theorem dX11_mirror_0 : decode cX11_mirror 0 = .ok (.bipush 10, 2) := by decide +kernel
theorem dX11_mirror_2 : decode cX11_mirror 2 = .ok (.aload_n 0, 1) := by decide +kernel
theorem dX11_mirror_3 : decode cX11_mirror 3 = .ok (.getfield 39, 3) := by decide +kernel
theorem dX11_mirror_6 : decode cX11_mirror 6 = .ok (.getfield 149, 3) := by decide +kernel
theorem dX11_mirror_9 : decode cX11_mirror 9 = .ok (.invokestatic 217, 3) := by decide +kernel
theorem dX11_mirror_12 : decode cX11_mirror 12 = .ok (.istore_n 1, 1) := by decide +kernel
theorem dX11_mirror_13 : decode cX11_mirror 13 = .ok (.aload_n 0, 1) := by decide +kernel
theorem dX11_mirror_14 : decode cX11_mirror 14 = .ok (.bipush 30, 2) := by decide +kernel
theorem dX11_mirror_16 : decode cX11_mirror 16 = .ok (.invokevirtual 128, 3) := by decide +kernel
theorem dX11_mirror_19 : decode cX11_mirror 19 = .ok (.ifCond .eq 16, 3) := by decide +kernel
theorem dX11_mirror_22 : decode cX11_mirror 22 = .ok (.aload_n 0, 1) := by decide +kernel
theorem dX11_mirror_23 : decode cX11_mirror 23 = .ok (.invokevirtual 156, 3) := by decide +kernel
theorem dX11_mirror_26 : decode cX11_mirror 26 = .ok (.iconst (-1), 1) := by decide +kernel
theorem dX11_mirror_27 : decode cX11_mirror 27 = .ok (.if_icmp .eq 8, 3) := by decide +kernel
theorem dX11_mirror_30 : decode cX11_mirror 30 = .ok (.aload_n 0, 1) := by decide +kernel
theorem dX11_mirror_31 : decode cX11_mirror 31 = .ok (.iconst 2, 1) := by decide +kernel
theorem dX11_mirror_32 : decode cX11_mirror 32 = .ok (.invokevirtual 159, 3) := by decide +kernel
theorem dX11_mirror_35 : decode cX11_mirror 35 = .ok (.aload_n 0, 1) := by decide +kernel
theorem dX11_mirror_36 : decode cX11_mirror 36 = .ok (.bipush 30, 2) := by decide +kernel
theorem dX11_mirror_38 : decode cX11_mirror 38 = .ok (.invokevirtual 128, 3) := by decide +kernel
theorem dX11_mirror_41 : decode cX11_mirror 41 = .ok (.ifCond .eq 14, 3) := by decide +kernel
theorem dX11_mirror_44 : decode cX11_mirror 44 = .ok (.iload_n 1, 1) := by decide +kernel
theorem dX11_mirror_45 : decode cX11_mirror 45 = .ok (.bipush 10, 2) := by decide +kernel
theorem dX11_mirror_47 : decode cX11_mirror 47 = .ok (.if_icmp .ne 8, 3) := by decide +kernel
theorem dX11_mirror_50 : decode cX11_mirror 50 = .ok (.aload_n 0, 1) := by decide +kernel
theorem dX11_mirror_51 : decode cX11_mirror 51 = .ok (.iconst 4, 1) := by decide +kernel
theorem dX11_mirror_52 : decode cX11_mirror 52 = .ok (.invokevirtual 159, 3) := by decide +kernel
theorem dX11_mirror_55 : decode cX11_mirror 55 = .ok (.aload_n 0, 1) := by decide +kernel
theorem dX11_mirror_56 : decode cX11_mirror 56 = .ok (.bipush 30, 2) := by decide +kernel
theorem dX11_mirror_58 : decode cX11_mirror 58 = .ok (.invokevirtual 128, 3) := by decide +kernel
theorem dX11_mirror_61 : decode cX11_mirror 61 = .ok (.ifCond .eq 19, 3) := by decide +kernel
theorem dX11_mirror_64 : decode cX11_mirror 64 = .ok (.iload_n 1, 1) := by decide +kernel
theorem dX11_mirror_65 : decode cX11_mirror 65 = .ok (.bipush 10, 2) := by decide +kernel
theorem dX11_mirror_67 : decode cX11_mirror 67 = .ok (.if_icmp .ge 13, 3) := by decide +kernel
theorem dX11_mirror_70 : decode cX11_mirror 70 = .ok (.aload_n 0, 1) := by decide +kernel
theorem dX11_mirror_71 : decode cX11_mirror 71 = .ok (.getfield 29, 3) := by decide +kernel
theorem dX11_mirror_74 : decode cX11_mirror 74 = .ok (.iload_n 1, 1) := by decide +kernel
theorem dX11_mirror_75 : decode cX11_mirror 75 = .ok (.aload_n 0, 1) := by decide +kernel
theorem dX11_mirror_76 : decode cX11_mirror 76 = .ok (.getfield 119, 3) := by decide +kernel
theorem dX11_mirror_79 : decode cX11_mirror 79 = .ok (.iastore, 1) := by decide +kernel
theorem dX11_mirror_80 : decode cX11_mirror 80 = .ok (.aload_n 0, 1) := by decide +kernel
theorem dX11_mirror_81 : decode cX11_mirror 81 = .ok (.bipush 30, 2) := by decide +kernel
theorem dX11_mirror_83 : decode cX11_mirror 83 = .ok (.invokevirtual 163, 3) := by decide +kernel
theorem dX11_mirror_86 : decode cX11_mirror 86 = .ok (.aload_n 0, 1) := by decide +kernel
theorem dX11_mirror_87 : decode cX11_mirror 87 = .ok (.iconst 1, 1) := by decide +kernel
theorem dX11_mirror_88 : decode cX11_mirror 88 = .ok (.invokevirtual 163, 3) := by decide +kernel
theorem dX11_mirror_91 : decode cX11_mirror 91 = .ok (.aload_n 0, 1) := by decide +kernel
theorem dX11_mirror_92 : decode cX11_mirror 92 = .ok (.getfield 39, 3) := by decide +kernel
theorem dX11_mirror_95 : decode cX11_mirror 95 = .ok (.getfield 220, 3) := by decide +kernel
theorem dX11_mirror_98 : decode cX11_mirror 98 = .ok (.iload_n 1, 1) := by decide +kernel
theorem dX11_mirror_99 : decode cX11_mirror 99 = .ok (.aload_n 0, 1) := by decide +kernel
theorem dX11_mirror_100 : decode cX11_mirror 100 = .ok (.bipush 100, 2) := by decide +kernel
theorem dX11_mirror_102 : decode cX11_mirror 102 = .ok (.invokevirtual 223, 3) := by decide +kernel
theorem dX11_mirror_105 : decode cX11_mirror 105 = .ok (.iastore, 1) := by decide +kernel
theorem dX11_mirror_106 : decode cX11_mirror 106 = .ok (.aload_n 0, 1) := by decide +kernel
theorem dX11_mirror_107 : decode cX11_mirror 107 = .ok (.iconst 2, 1) := by decide +kernel
theorem dX11_mirror_108 : decode cX11_mirror 108 = .ok (.invokevirtual 163, 3) := by decide +kernel
theorem dX11_mirror_111 : decode cX11_mirror 111 = .ok (.aload_n 0, 1) := by decide +kernel
theorem dX11_mirror_112 : decode cX11_mirror 112 = .ok (.bipush 41, 2) := by decide +kernel
theorem dX11_mirror_114 : decode cX11_mirror 114 = .ok (.invokevirtual 184, 3) := by decide +kernel
theorem dX11_mirror_117 : decode cX11_mirror 117 = .ok (.ifCond .eq 7, 3) := by decide +kernel
theorem dX11_mirror_120 : decode cX11_mirror 120 = .ok (.iconst (-1), 1) := by decide +kernel
theorem dX11_mirror_121 : decode cX11_mirror 121 = .ok (.goto 4, 3) := by decide +kernel
theorem dX11_mirror_124 : decode cX11_mirror 124 = .ok (.iconst 1, 1) := by decide +kernel
theorem dX11_mirror_125 : decode cX11_mirror 125 = .ok (.istore_n 2, 1) := by decide +kernel
theorem dX11_mirror_126 : decode cX11_mirror 126 = .ok (.aload_n 0, 1) := by decide +kernel
theorem dX11_mirror_127 : decode cX11_mirror 127 = .ok (.getfield 39, 3) := by decide +kernel
theorem dX11_mirror_130 : decode cX11_mirror 130 = .ok (.getfield 226, 3) := by decide +kernel
theorem dX11_mirror_133 : decode cX11_mirror 133 = .ok (.iload_n 1, 1) := by decide +kernel
theorem dX11_mirror_134 : decode cX11_mirror 134 = .ok (.iload_n 2, 1) := by decide +kernel
theorem dX11_mirror_135 : decode cX11_mirror 135 = .ok (.aload_n 0, 1) := by decide +kernel
theorem dX11_mirror_136 : decode cX11_mirror 136 = .ok (.bipush 90, 2) := by decide +kernel
theorem dX11_mirror_138 : decode cX11_mirror 138 = .ok (.invokevirtual 223, 3) := by decide +kernel
theorem dX11_mirror_141 : decode cX11_mirror 141 = .ok (.imul, 1) := by decide +kernel
theorem dX11_mirror_142 : decode cX11_mirror 142 = .ok (.iastore, 1) := by decide +kernel
theorem dX11_mirror_143 : decode cX11_mirror 143 = .ok (.aload_n 0, 1) := by decide +kernel
theorem dX11_mirror_144 : decode cX11_mirror 144 = .ok (.getfield 39, 3) := by decide +kernel
theorem dX11_mirror_147 : decode cX11_mirror 147 = .ok (.bipush 10, 2) := by decide +kernel
theorem dX11_mirror_149 : decode cX11_mirror 149 = .ok (.iload_n 1, 1) := by decide +kernel
theorem dX11_mirror_150 : decode cX11_mirror 150 = .ok (.iconst 1, 1) := by decide +kernel
theorem dX11_mirror_151 : decode cX11_mirror 151 = .ok (.iadd, 1) := by decide +kernel
theorem dX11_mirror_152 : decode cX11_mirror 152 = .ok (.invokestatic 217, 3) := by decide +kernel
theorem dX11_mirror_155 : decode cX11_mirror 155 = .ok (.putfield 149, 3) := by decide +kernel
theorem dX11_mirror_158 : decode cX11_mirror 158 = .ok (.return_, 1) := by decide +kernel
theorem dX11_order_0 : decode cX11_order 0 = .ok (.bipush 16, 2) := by decide +kernel
theorem dX11_order_2 : decode cX11_order 2 = .ok (.aload_n 0, 1) := by decide +kernel
theorem dX11_order_3 : decode cX11_order 3 = .ok (.getfield 39, 3) := by decide +kernel
theorem dX11_order_6 : decode cX11_order 6 = .ok (.getfield 229, 3) := by decide +kernel
theorem dX11_order_9 : decode cX11_order 9 = .ok (.invokestatic 217, 3) := by decide +kernel
theorem dX11_order_12 : decode cX11_order 12 = .ok (.istore_n 2, 1) := by decide +kernel
theorem dX11_order_13 : decode cX11_order 13 = .ok (.iload_n 2, 1) := by decide +kernel
theorem dX11_order_14 : decode cX11_order 14 = .ok (.bipush 16, 2) := by decide +kernel
theorem dX11_order_16 : decode cX11_order 16 = .ok (.if_icmp .ne 8, 3) := by decide +kernel
theorem dX11_order_19 : decode cX11_order 19 = .ok (.aload_n 0, 1) := by decide +kernel
theorem dX11_order_20 : decode cX11_order 20 = .ok (.iconst 4, 1) := by decide +kernel
theorem dX11_order_21 : decode cX11_order 21 = .ok (.invokevirtual 159, 3) := by decide +kernel
theorem dX11_order_24 : decode cX11_order 24 = .ok (.aload_n 0, 1) := by decide +kernel
theorem dX11_order_25 : decode cX11_order 25 = .ok (.dup, 1) := by decide +kernel
theorem dX11_order_26 : decode cX11_order 26 = .ok (.getfield 119, 3) := by decide +kernel
theorem dX11_order_29 : decode cX11_order 29 = .ok (.iconst 1, 1) := by decide +kernel
theorem dX11_order_30 : decode cX11_order 30 = .ok (.iadd, 1) := by decide +kernel
theorem dX11_order_31 : decode cX11_order 31 = .ok (.putfield 119, 3) := by decide +kernel
theorem dX11_order_34 : decode cX11_order 34 = .ok (.aload_n 0, 1) := by decide +kernel
theorem dX11_order_35 : decode cX11_order 35 = .ok (.getfield 39, 3) := by decide +kernel
theorem dX11_order_38 : decode cX11_order 38 = .ok (.getfield 232, 3) := by decide +kernel
theorem dX11_order_41 : decode cX11_order 41 = .ok (.iload_n 2, 1) := by decide +kernel
theorem dX11_order_42 : decode cX11_order 42 = .ok (.aload_n 0, 1) := by decide +kernel
theorem dX11_order_43 : decode cX11_order 43 = .ok (.getfield 39, 3) := by decide +kernel
theorem dX11_order_46 : decode cX11_order 46 = .ok (.getfield 137, 3) := by decide +kernel
theorem dX11_order_49 : decode cX11_order 49 = .ok (.iastore, 1) := by decide +kernel
theorem dX11_order_50 : decode cX11_order 50 = .ok (.aload_n 0, 1) := by decide +kernel
theorem dX11_order_51 : decode cX11_order 51 = .ok (.getfield 39, 3) := by decide +kernel
theorem dX11_order_54 : decode cX11_order 54 = .ok (.getfield 235, 3) := by decide +kernel
theorem dX11_order_57 : decode cX11_order 57 = .ok (.iload_n 2, 1) := by decide +kernel
theorem dX11_order_58 : decode cX11_order 58 = .ok (.iload_n 1, 1) := by decide +kernel
theorem dX11_order_59 : decode cX11_order 59 = .ok (.iastore, 1) := by decide +kernel
theorem dX11_order_60 : decode cX11_order 60 = .ok (.aload_n 0, 1) := by decide +kernel
theorem dX11_order_61 : decode cX11_order 61 = .ok (.getfield 39, 3) := by decide +kernel
theorem dX11_order_64 : decode cX11_order 64 = .ok (.getfield 238, 3) := by decide +kernel
theorem dX11_order_67 : decode cX11_order 67 = .ok (.iload_n 2, 1) := by decide +kernel
theorem dX11_order_68 : decode cX11_order 68 = .ok (.aload_n 0, 1) := by decide +kernel
theorem dX11_order_69 : decode cX11_order 69 = .ok (.invokevirtual 181, 3) := by decide +kernel
theorem dX11_order_72 : decode cX11_order 72 = .ok (.iastore, 1) := by decide +kernel
theorem dX11_order_73 : decode cX11_order 73 = .ok (.aload_n 0, 1) := by decide +kernel
theorem dX11_order_74 : decode cX11_order 74 = .ok (.getfield 39, 3) := by decide +kernel
theorem dX11_order_77 : decode cX11_order 77 = .ok (.getfield 241, 3) := by decide +kernel
theorem dX11_order_80 : decode cX11_order 80 = .ok (.iload_n 2, 1) := by decide +kernel
theorem dX11_order_81 : decode cX11_order 81 = .ok (.iconst (-1), 1) := by decide +kernel
theorem dX11_order_82 : decode cX11_order 82 = .ok (.iastore, 1) := by decide +kernel
theorem dX11_order_83 : decode cX11_order 83 = .ok (.iload_n 1, 1) := by decide +kernel
theorem dX11_order_84 : decode cX11_order 84 = .ok (.iconst 3, 1) := by decide +kernel
theorem dX11_order_85 : decode cX11_order 85 = .ok (.if_icmp .lt 22, 3) := by decide +kernel
theorem dX11_order_88 : decode cX11_order 88 = .ok (.aload_n 0, 1) := by decide +kernel
theorem dX11_order_89 : decode cX11_order 89 = .ok (.bipush 6, 2) := by decide +kernel
theorem dX11_order_91 : decode cX11_order 91 = .ok (.invokevirtual 163, 3) := by decide +kernel
theorem dX11_order_94 : decode cX11_order 94 = .ok (.aload_n 0, 1) := by decide +kernel
theorem dX11_order_95 : decode cX11_order 95 = .ok (.getfield 39, 3) := by decide +kernel
theorem dX11_order_98 : decode cX11_order 98 = .ok (.getfield 241, 3) := by decide +kernel
theorem dX11_order_101 : decode cX11_order 101 = .ok (.iload_n 2, 1) := by decide +kernel
theorem dX11_order_102 : decode cX11_order 102 = .ok (.aload_n 0, 1) := by decide +kernel
theorem dX11_order_103 : decode cX11_order 103 = .ok (.invokevirtual 174, 3) := by decide +kernel
theorem dX11_order_106 : decode cX11_order 106 = .ok (.iastore, 1) := by decide +kernel
theorem dX11_order_107 : decode cX11_order 107 = .ok (.aload_n 0, 1) := by decide +kernel
theorem dX11_order_108 : decode cX11_order 108 = .ok (.getfield 39, 3) := by decide +kernel
theorem dX11_order_111 : decode cX11_order 111 = .ok (.getfield 243, 3) := by decide +kernel
theorem dX11_order_114 : decode cX11_order 114 = .ok (.iload_n 2, 1) := by decide +kernel
theorem dX11_order_115 : decode cX11_order 115 = .ok (.aload_n 0, 1) := by decide +kernel
theorem dX11_order_116 : decode cX11_order 116 = .ok (.bipush 11, 2) := by decide +kernel
theorem dX11_order_118 : decode cX11_order 118 = .ok (.invokevirtual 184, 3) := by decide +kernel
theorem dX11_order_121 : decode cX11_order 121 = .ok (.ifCond .eq 10, 3) := by decide +kernel
theorem dX11_order_124 : decode cX11_order 124 = .ok (.aload_n 0, 1) := by decide +kernel
theorem dX11_order_125 : decode cX11_order 125 = .ok (.invokevirtual 208, 3) := by decide +kernel
theorem dX11_order_128 : decode cX11_order 128 = .ok (.goto 4, 3) := by decide +kernel
theorem dX11_order_131 : decode cX11_order 131 = .ok (.iconst (-1), 1) := by decide +kernel
theorem dX11_order_132 : decode cX11_order 132 = .ok (.iastore, 1) := by decide +kernel
theorem dX11_order_133 : decode cX11_order 133 = .ok (.aload_n 0, 1) := by decide +kernel
theorem dX11_order_134 : decode cX11_order 134 = .ok (.getfield 39, 3) := by decide +kernel
theorem dX11_order_137 : decode cX11_order 137 = .ok (.getfield 245, 3) := by decide +kernel
theorem dX11_order_140 : decode cX11_order 140 = .ok (.iload_n 2, 1) := by decide +kernel
theorem dX11_order_141 : decode cX11_order 141 = .ok (.aload_n 0, 1) := by decide +kernel
theorem dX11_order_142 : decode cX11_order 142 = .ok (.getfield 39, 3) := by decide +kernel
theorem dX11_order_145 : decode cX11_order 145 = .ok (.getfield 137, 3) := by decide +kernel
theorem dX11_order_148 : decode cX11_order 148 = .ok (.iastore, 1) := by decide +kernel
theorem dX11_order_149 : decode cX11_order 149 = .ok (.aload_n 0, 1) := by decide +kernel
theorem dX11_order_150 : decode cX11_order 150 = .ok (.getfield 39, 3) := by decide +kernel
theorem dX11_order_153 : decode cX11_order 153 = .ok (.bipush 16, 2) := by decide +kernel
theorem dX11_order_155 : decode cX11_order 155 = .ok (.iload_n 2, 1) := by decide +kernel
theorem dX11_order_156 : decode cX11_order 156 = .ok (.iconst 1, 1) := by decide +kernel
theorem dX11_order_157 : decode cX11_order 157 = .ok (.iadd, 1) := by decide +kernel
theorem dX11_order_158 : decode cX11_order 158 = .ok (.invokestatic 217, 3) := by decide +kernel
theorem dX11_order_161 : decode cX11_order 161 = .ok (.putfield 229, 3) := by decide +kernel
theorem dX11_order_164 : decode cX11_order 164 = .ok (.return_, 1) := by decide +kernel
theorem dX11_line_0 : decode cX11_line 0 = .ok (.aload_n 0, 1) := by decide +kernel
theorem dX11_line_1 : decode cX11_line 1 = .ok (.iconst 0, 1) := by decide +kernel
theorem dX11_line_2 : decode cX11_line 2 = .ok (.invokevirtual 184, 3) := by decide +kernel
theorem dX11_line_5 : decode cX11_line 5 = .ok (.ifCond .eq 10, 3) := by decide +kernel
theorem dX11_line_8 : decode cX11_line 8 = .ok (.aload_n 0, 1) := by decide +kernel
theorem dX11_line_9 : decode cX11_line 9 = .ok (.invokevirtual 248, 3) := by decide +kernel
theorem dX11_line_12 : decode cX11_line 12 = .ok (.goto 128, 3) := by decide +kernel
theorem dX11_line_15 : decode cX11_line 15 = .ok (.aload_n 0, 1) := by decide +kernel
theorem dX11_line_16 : decode cX11_line 16 = .ok (.iconst 3, 1) := by decide +kernel
theorem dX11_line_17 : decode cX11_line 17 = .ok (.invokevirtual 184, 3) := by decide +kernel
theorem dX11_line_20 : decode cX11_line 20 = .ok (.ifCond .eq 20, 3) := by decide +kernel
theorem dX11_line_23 : decode cX11_line 23 = .ok (.aload_n 0, 1) := by decide +kernel
theorem dX11_line_24 : decode cX11_line 24 = .ok (.getfield 39, 3) := by decide +kernel
theorem dX11_line_27 : decode cX11_line 27 = .ok (.aload_n 0, 1) := by decide +kernel
theorem dX11_line_28 : decode cX11_line 28 = .ok (.sipush 180, 3) := by decide +kernel
theorem dX11_line_31 : decode cX11_line 31 = .ok (.invokevirtual 223, 3) := by decide +kernel
theorem dX11_line_34 : decode cX11_line 34 = .ok (.putfield 250, 3) := by decide +kernel
theorem dX11_line_37 : decode cX11_line 37 = .ok (.goto 103, 3) := by decide +kernel
theorem dX11_line_40 : decode cX11_line 40 = .ok (.aload_n 0, 1) := by decide +kernel
theorem dX11_line_41 : decode cX11_line 41 = .ok (.iconst 4, 1) := by decide +kernel
theorem dX11_line_42 : decode cX11_line 42 = .ok (.invokevirtual 184, 3) := by decide +kernel
theorem dX11_line_45 : decode cX11_line 45 = .ok (.ifCond .eq 20, 3) := by decide +kernel
theorem dX11_line_48 : decode cX11_line 48 = .ok (.aload_n 0, 1) := by decide +kernel
theorem dX11_line_49 : decode cX11_line 49 = .ok (.getfield 39, 3) := by decide +kernel
theorem dX11_line_52 : decode cX11_line 52 = .ok (.aload_n 0, 1) := by decide +kernel
theorem dX11_line_53 : decode cX11_line 53 = .ok (.sipush 10000, 3) := by decide +kernel
theorem dX11_line_56 : decode cX11_line 56 = .ok (.invokevirtual 223, 3) := by decide +kernel
theorem dX11_line_59 : decode cX11_line 59 = .ok (.putfield 253, 3) := by decide +kernel
theorem dX11_line_62 : decode cX11_line 62 = .ok (.goto 78, 3) := by decide +kernel
theorem dX11_line_65 : decode cX11_line 65 = .ok (.aload_n 0, 1) := by decide +kernel
theorem dX11_line_66 : decode cX11_line 66 = .ok (.iconst 5, 1) := by decide +kernel
theorem dX11_line_67 : decode cX11_line 67 = .ok (.invokevirtual 128, 3) := by decide +kernel
theorem dX11_line_70 : decode cX11_line 70 = .ok (.ifCond .eq 11, 3) := by decide +kernel
theorem dX11_line_73 : decode cX11_line 73 = .ok (.aload_n 0, 1) := by decide +kernel
theorem dX11_line_74 : decode cX11_line 74 = .ok (.iconst 3, 1) := by decide +kernel
theorem dX11_line_75 : decode cX11_line 75 = .ok (.invokevirtual 256, 3) := by decide +kernel
theorem dX11_line_78 : decode cX11_line 78 = .ok (.goto 62, 3) := by decide +kernel
theorem dX11_line_81 : decode cX11_line 81 = .ok (.aload_n 0, 1) := by decide +kernel
theorem dX11_line_82 : decode cX11_line 82 = .ok (.bipush 7, 2) := by decide +kernel
theorem dX11_line_84 : decode cX11_line 84 = .ok (.invokevirtual 128, 3) := by decide +kernel
theorem dX11_line_87 : decode cX11_line 87 = .ok (.ifCond .eq 11, 3) := by decide +kernel
theorem dX11_line_90 : decode cX11_line 90 = .ok (.aload_n 0, 1) := by decide +kernel
theorem dX11_line_91 : decode cX11_line 91 = .ok (.iconst 4, 1) := by decide +kernel
theorem dX11_line_92 : decode cX11_line 92 = .ok (.invokevirtual 256, 3) := by decide +kernel
theorem dX11_line_95 : decode cX11_line 95 = .ok (.goto 45, 3) := by decide +kernel
theorem dX11_line_98 : decode cX11_line 98 = .ok (.aload_n 0, 1) := by decide +kernel
theorem dX11_line_99 : decode cX11_line 99 = .ok (.getfield 17, 3) := by decide +kernel
theorem dX11_line_102 : decode cX11_line 102 = .ok (.aload_n 0, 1) := by decide +kernel
theorem dX11_line_103 : decode cX11_line 103 = .ok (.getfield 119, 3) := by decide +kernel
theorem dX11_line_106 : decode cX11_line 106 = .ok (.iaload, 1) := by decide +kernel
theorem dX11_line_107 : decode cX11_line 107 = .ok (.bipush 8, 2) := by decide +kernel
theorem dX11_line_109 : decode cX11_line 109 = .ok (.bipush 10, 2) := by decide +kernel
theorem dX11_line_111 : decode cX11_line 111 = .ok (.invokestatic 67, 3) := by decide +kernel
theorem dX11_line_114 : decode cX11_line 114 = .ok (.ifCond .eq 22, 3) := by decide +kernel
theorem dX11_line_117 : decode cX11_line 117 = .ok (.aload_n 0, 1) := by decide +kernel
theorem dX11_line_118 : decode cX11_line 118 = .ok (.aload_n 0, 1) := by decide +kernel
theorem dX11_line_119 : decode cX11_line 119 = .ok (.getfield 17, 3) := by decide +kernel
theorem dX11_line_122 : decode cX11_line 122 = .ok (.aload_n 0, 1) := by decide +kernel
theorem dX11_line_123 : decode cX11_line 123 = .ok (.getfield 119, 3) := by decide +kernel
theorem dX11_line_126 : decode cX11_line 126 = .ok (.iaload, 1) := by decide +kernel
theorem dX11_line_127 : decode cX11_line 127 = .ok (.bipush 8, 2) := by decide +kernel
theorem dX11_line_129 : decode cX11_line 129 = .ok (.isub, 1) := by decide +kernel
theorem dX11_line_130 : decode cX11_line 130 = .ok (.invokevirtual 256, 3) := by decide +kernel
theorem dX11_line_133 : decode cX11_line 133 = .ok (.goto 7, 3) := by decide +kernel
theorem dX11_line_136 : decode cX11_line 136 = .ok (.aload_n 0, 1) := by decide +kernel
theorem dX11_line_137 : decode cX11_line 137 = .ok (.invokevirtual 131, 3) := by decide +kernel
theorem dX11_line_140 : decode cX11_line 140 = .ok (.return_, 1) := by decide +kernel
theorem dX11_train_0 : decode cX11_train 0 = .ok (.aload_n 0, 1) := by decide +kernel
theorem dX11_train_1 : decode cX11_train 1 = .ok (.getfield 115, 3) := by decide +kernel
theorem dX11_train_4 : decode cX11_train 4 = .ok (.ifCond .ne 30, 3) := by decide +kernel
theorem dX11_train_7 : decode cX11_train 7 = .ok (.aload_n 0, 1) := by decide +kernel
theorem dX11_train_8 : decode cX11_train 8 = .ok (.getfield 17, 3) := by decide +kernel
theorem dX11_train_11 : decode cX11_train 11 = .ok (.aload_n 0, 1) := by decide +kernel
theorem dX11_train_12 : decode cX11_train 12 = .ok (.getfield 119, 3) := by decide +kernel
theorem dX11_train_15 : decode cX11_train 15 = .ok (.iaload, 1) := by decide +kernel
theorem dX11_train_16 : decode cX11_train 16 = .ok (.bipush 33, 2) := by decide +kernel
theorem dX11_train_18 : decode cX11_train 18 = .ok (.if_icmp .eq 16, 3) := by decide +kernel
theorem dX11_train_21 : decode cX11_train 21 = .ok (.aload_n 0, 1) := by decide +kernel
theorem dX11_train_22 : decode cX11_train 22 = .ok (.invokevirtual 259, 3) := by decide +kernel
theorem dX11_train_25 : decode cX11_train 25 = .ok (.aload_n 0, 1) := by decide +kernel
theorem dX11_train_26 : decode cX11_train 26 = .ok (.bipush 53, 2) := by decide +kernel
theorem dX11_train_28 : decode cX11_train 28 = .ok (.invokevirtual 163, 3) := by decide +kernel
theorem dX11_train_31 : decode cX11_train 31 = .ok (.goto (-31), 3) := by decide +kernel
theorem dX11_train_34 : decode cX11_train 34 = .ok (.return_, 1) := by decide +kernel
theorem dX11_feed_0 : decode cX11_feed 0 = .ok (.aload_n 0, 1) := by decide +kernel
theorem dX11_feed_1 : decode cX11_feed 1 = .ok (.iconst 0, 1) := by decide +kernel
theorem dX11_feed_2 : decode cX11_feed 2 = .ok (.putfield 64, 3) := by decide +kernel
theorem dX11_feed_5 : decode cX11_feed 5 = .ok (.aload_n 0, 1) := by decide +kernel
theorem dX11_feed_6 : decode cX11_feed 6 = .ok (.getfield 71, 3) := by decide +kernel
theorem dX11_feed_9 : decode cX11_feed 9 = .ok (.bipush 20, 2) := by decide +kernel
theorem dX11_feed_11 : decode cX11_feed 11 = .ok (.iadd, 1) := by decide +kernel
theorem dX11_feed_12 : decode cX11_feed 12 = .ok (.sipush 2000, 3) := by decide +kernel
theorem dX11_feed_15 : decode cX11_feed 15 = .ok (.if_icmp .le 9, 3) := by decide +kernel
theorem dX11_feed_18 : decode cX11_feed 18 = .ok (.aload_n 0, 1) := by decide +kernel
theorem dX11_feed_19 : decode cX11_feed 19 = .ok (.iconst 1, 1) := by decide +kernel
theorem dX11_feed_20 : decode cX11_feed 20 = .ok (.invokevirtual 262, 3) := by decide +kernel
theorem dX11_feed_23 : decode cX11_feed 23 = .ok (.ireturn, 1) := by decide +kernel
theorem dX11_feed_24 : decode cX11_feed 24 = .ok (.iconst 5, 1) := by decide +kernel
theorem dX11_feed_25 : decode cX11_feed 25 = .ok (.newarray .int, 2) := by decide +kernel
theorem dX11_feed_27 : decode cX11_feed 27 = .ok (.dup, 1) := by decide +kernel
theorem dX11_feed_28 : decode cX11_feed 28 = .ok (.iconst 0, 1) := by decide +kernel
theorem dX11_feed_29 : decode cX11_feed 29 = .ok (.iload_n 1, 1) := by decide +kernel
theorem dX11_feed_30 : decode cX11_feed 30 = .ok (.iastore, 1) := by decide +kernel
theorem dX11_feed_31 : decode cX11_feed 31 = .ok (.dup, 1) := by decide +kernel
theorem dX11_feed_32 : decode cX11_feed 32 = .ok (.iconst 1, 1) := by decide +kernel
theorem dX11_feed_33 : decode cX11_feed 33 = .ok (.iload_n 2, 1) := by decide +kernel
theorem dX11_feed_34 : decode cX11_feed 34 = .ok (.iastore, 1) := by decide +kernel
theorem dX11_feed_35 : decode cX11_feed 35 = .ok (.dup, 1) := by decide +kernel
theorem dX11_feed_36 : decode cX11_feed 36 = .ok (.iconst 2, 1) := by decide +kernel
theorem dX11_feed_37 : decode cX11_feed 37 = .ok (.iload_n 3, 1) := by decide +kernel
theorem dX11_feed_38 : decode cX11_feed 38 = .ok (.iastore, 1) := by decide +kernel
theorem dX11_feed_39 : decode cX11_feed 39 = .ok (.dup, 1) := by decide +kernel
theorem dX11_feed_40 : decode cX11_feed 40 = .ok (.iconst 3, 1) := by decide +kernel
theorem dX11_feed_41 : decode cX11_feed 41 = .ok (.iload 4, 2) := by decide +kernel
theorem dX11_feed_43 : decode cX11_feed 43 = .ok (.iastore, 1) := by decide +kernel
theorem dX11_feed_44 : decode cX11_feed 44 = .ok (.dup, 1) := by decide +kernel
theorem dX11_feed_45 : decode cX11_feed 45 = .ok (.iconst 4, 1) := by decide +kernel
theorem dX11_feed_46 : decode cX11_feed 46 = .ok (.iload 5, 2) := by decide +kernel
theorem dX11_feed_48 : decode cX11_feed 48 = .ok (.iastore, 1) := by decide +kernel
theorem dX11_feed_49 : decode cX11_feed 49 = .ok (.astore 6, 2) := by decide +kernel
theorem dX11_feed_51 : decode cX11_feed 51 = .ok (.aload 6, 2) := by decide +kernel
theorem dX11_feed_53 : decode cX11_feed 53 = .ok (.astore 7, 2) := by decide +kernel
theorem dX11_feed_55 : decode cX11_feed 55 = .ok (.aload 7, 2) := by decide +kernel
theorem dX11_feed_57 : decode cX11_feed 57 = .ok (.arraylength, 1) := by decide +kernel
theorem dX11_feed_58 : decode cX11_feed 58 = .ok (.istore 8, 2) := by decide +kernel
theorem dX11_feed_60 : decode cX11_feed 60 = .ok (.iconst 0, 1) := by decide +kernel
theorem dX11_feed_61 : decode cX11_feed 61 = .ok (.istore 9, 2) := by decide +kernel
theorem dX11_feed_63 : decode cX11_feed 63 = .ok (.iload 9, 2) := by decide +kernel
theorem dX11_feed_65 : decode cX11_feed 65 = .ok (.iload 8, 2) := by decide +kernel
theorem dX11_feed_67 : decode cX11_feed 67 = .ok (.if_icmp .ge 59, 3) := by decide +kernel
theorem dX11_feed_70 : decode cX11_feed 70 = .ok (.aload 7, 2) := by decide +kernel
theorem dX11_feed_72 : decode cX11_feed 72 = .ok (.iload 9, 2) := by decide +kernel
theorem dX11_feed_74 : decode cX11_feed 74 = .ok (.iaload, 1) := by decide +kernel
theorem dX11_feed_75 : decode cX11_feed 75 = .ok (.istore 10, 2) := by decide +kernel
theorem dX11_feed_77 : decode cX11_feed 77 = .ok (.bipush 24, 2) := by decide +kernel
theorem dX11_feed_79 : decode cX11_feed 79 = .ok (.istore 11, 2) := by decide +kernel
theorem dX11_feed_81 : decode cX11_feed 81 = .ok (.iload 11, 2) := by decide +kernel
theorem dX11_feed_83 : decode cX11_feed 83 = .ok (.ifCond .lt 37, 3) := by decide +kernel
theorem dX11_feed_86 : decode cX11_feed 86 = .ok (.aload_n 0, 1) := by decide +kernel
theorem dX11_feed_87 : decode cX11_feed 87 = .ok (.getfield 9, 3) := by decide +kernel
theorem dX11_feed_90 : decode cX11_feed 90 = .ok (.aload_n 0, 1) := by decide +kernel
theorem dX11_feed_91 : decode cX11_feed 91 = .ok (.getfield 71, 3) := by decide +kernel
theorem dX11_feed_94 : decode cX11_feed 94 = .ok (.iload 10, 2) := by decide +kernel
theorem dX11_feed_96 : decode cX11_feed 96 = .ok (.iload 11, 2) := by decide +kernel
theorem dX11_feed_98 : decode cX11_feed 98 = .ok (.ishr, 1) := by decide +kernel
theorem dX11_feed_99 : decode cX11_feed 99 = .ok (.sipush 255, 3) := by decide +kernel
theorem dX11_feed_102 : decode cX11_feed 102 = .ok (.iand, 1) := by decide +kernel
theorem dX11_feed_103 : decode cX11_feed 103 = .ok (.iastore, 1) := by decide +kernel
theorem dX11_feed_104 : decode cX11_feed 104 = .ok (.aload_n 0, 1) := by decide +kernel
theorem dX11_feed_105 : decode cX11_feed 105 = .ok (.dup, 1) := by decide +kernel
theorem dX11_feed_106 : decode cX11_feed 106 = .ok (.getfield 71, 3) := by decide +kernel
theorem dX11_feed_109 : decode cX11_feed 109 = .ok (.iconst 1, 1) := by decide +kernel
theorem dX11_feed_110 : decode cX11_feed 110 = .ok (.iadd, 1) := by decide +kernel
theorem dX11_feed_111 : decode cX11_feed 111 = .ok (.putfield 71, 3) := by decide +kernel
theorem dX11_feed_114 : decode cX11_feed 114 = .ok (.iinc 11 (-8), 3) := by decide +kernel
theorem dX11_feed_117 : decode cX11_feed 117 = .ok (.goto (-36), 3) := by decide +kernel
theorem dX11_feed_120 : decode cX11_feed 120 = .ok (.iinc 9 1, 3) := by decide +kernel
theorem dX11_feed_123 : decode cX11_feed 123 = .ok (.goto (-60), 3) := by decide +kernel
theorem dX11_feed_126 : decode cX11_feed 126 = .ok (.aload_n 0, 1) := by decide +kernel
theorem dX11_feed_127 : decode cX11_feed 127 = .ok (.getfield 71, 3) := by decide +kernel
theorem dX11_feed_130 : decode cX11_feed 130 = .ok (.ireturn, 1) := by decide +kernel
theorem dX11_trim_0 : decode cX11_trim 0 = .ok (.aload_n 0, 1) := by decide +kernel
theorem dX11_trim_1 : decode cX11_trim 1 = .ok (.iconst 0, 1) := by decide +kernel
theorem dX11_trim_2 : decode cX11_trim 2 = .ok (.putfield 64, 3) := by decide +kernel
theorem dX11_trim_5 : decode cX11_trim 5 = .ok (.iload_n 1, 1) := by decide +kernel
theorem dX11_trim_6 : decode cX11_trim 6 = .ok (.iconst 0, 1) := by decide +kernel
theorem dX11_trim_7 : decode cX11_trim 7 = .ok (.aload_n 0, 1) := by decide +kernel
theorem dX11_trim_8 : decode cX11_trim 8 = .ok (.getfield 71, 3) := by decide +kernel
theorem dX11_trim_11 : decode cX11_trim 11 = .ok (.invokestatic 67, 3) := by decide +kernel
theorem dX11_trim_14 : decode cX11_trim 14 = .ok (.ifCond .ne 9, 3) := by decide +kernel
theorem dX11_trim_17 : decode cX11_trim 17 = .ok (.aload_n 0, 1) := by decide +kernel
theorem dX11_trim_18 : decode cX11_trim 18 = .ok (.iconst 1, 1) := by decide +kernel
theorem dX11_trim_19 : decode cX11_trim 19 = .ok (.invokevirtual 262, 3) := by decide +kernel
theorem dX11_trim_22 : decode cX11_trim 22 = .ok (.ireturn, 1) := by decide +kernel
theorem dX11_trim_23 : decode cX11_trim 23 = .ok (.aload_n 0, 1) := by decide +kernel
theorem dX11_trim_24 : decode cX11_trim 24 = .ok (.iload_n 1, 1) := by decide +kernel
theorem dX11_trim_25 : decode cX11_trim 25 = .ok (.putfield 71, 3) := by decide +kernel
theorem dX11_trim_28 : decode cX11_trim 28 = .ok (.iload_n 1, 1) := by decide +kernel
theorem dX11_trim_29 : decode cX11_trim 29 = .ok (.ireturn, 1) := by decide +kernel
theorem dX11_teach_0 : decode cX11_teach 0 = .ok (.aload_n 0, 1) := by decide +kernel
theorem dX11_teach_1 : decode cX11_teach 1 = .ok (.iconst 0, 1) := by decide +kernel
theorem dX11_teach_2 : decode cX11_teach 2 = .ok (.putfield 64, 3) := by decide +kernel
theorem dX11_teach_5 : decode cX11_teach 5 = .ok (.aload_n 0, 1) := by decide +kernel
theorem dX11_teach_6 : decode cX11_teach 6 = .ok (.iconst 0, 1) := by decide +kernel
theorem dX11_teach_7 : decode cX11_teach 7 = .ok (.putfield 119, 3) := by decide +kernel
theorem dX11_teach_10 : decode cX11_teach 10 = .ok (.aload_n 0, 1) := by decide +kernel
theorem dX11_teach_11 : decode cX11_teach 11 = .ok (.iconst 0, 1) := by decide +kernel
theorem dX11_teach_12 : decode cX11_teach 12 = .ok (.putfield 115, 3) := by decide +kernel
theorem dX11_teach_15 : decode cX11_teach 15 = .ok (.aload_n 0, 1) := by decide +kernel
theorem dX11_teach_16 : decode cX11_teach 16 = .ok (.iconst 0, 1) := by decide +kernel
theorem dX11_teach_17 : decode cX11_teach 17 = .ok (.putfield 122, 3) := by decide +kernel
theorem dX11_teach_20 : decode cX11_teach 20 = .ok (.aload_n 0, 1) := by decide +kernel
theorem dX11_teach_21 : decode cX11_teach 21 = .ok (.iconst 0, 1) := by decide +kernel
theorem dX11_teach_22 : decode cX11_teach 22 = .ok (.putfield 134, 3) := by decide +kernel
theorem dX11_teach_25 : decode cX11_teach 25 = .ok (.aload_n 0, 1) := by decide +kernel
theorem dX11_teach_26 : decode cX11_teach 26 = .ok (.getfield 39, 3) := by decide +kernel
theorem dX11_teach_29 : decode cX11_teach 29 = .ok (.invokevirtual 265, 3) := by decide +kernel
theorem dX11_teach_32 : decode cX11_teach 32 = .ok (.aload_n 0, 1) := by decide +kernel
theorem dX11_teach_33 : decode cX11_teach 33 = .ok (.invokevirtual 268, 3) := by decide +kernel
theorem dX11_teach_36 : decode cX11_teach 36 = .ok (.aload_n 0, 1) := by decide +kernel
theorem dX11_teach_37 : decode cX11_teach 37 = .ok (.invokevirtual 271, 3) := by decide +kernel
theorem dX11_teach_40 : decode cX11_teach 40 = .ok (.aload_n 0, 1) := by decide +kernel
theorem dX11_teach_41 : decode cX11_teach 41 = .ok (.iconst 0, 1) := by decide +kernel
theorem dX11_teach_42 : decode cX11_teach 42 = .ok (.putfield 71, 3) := by decide +kernel
theorem dX11_teach_45 : decode cX11_teach 45 = .ok (.aload_n 0, 1) := by decide +kernel
theorem dX11_teach_46 : decode cX11_teach 46 = .ok (.aload_n 0, 1) := by decide +kernel
theorem dX11_teach_47 : decode cX11_teach 47 = .ok (.getfield 122, 3) := by decide +kernel
theorem dX11_teach_50 : decode cX11_teach 50 = .ok (.ifCond .ne 7, 3) := by decide +kernel
theorem dX11_teach_53 : decode cX11_teach 53 = .ok (.iconst (-1), 1) := by decide +kernel
theorem dX11_teach_54 : decode cX11_teach 54 = .ok (.goto 12, 3) := by decide +kernel
theorem dX11_teach_57 : decode cX11_teach 57 = .ok (.aload_n 0, 1) := by decide +kernel
theorem dX11_teach_58 : decode cX11_teach 58 = .ok (.getfield 23, 3) := by decide +kernel
theorem dX11_teach_61 : decode cX11_teach 61 = .ok (.aload_n 0, 1) := by decide +kernel
theorem dX11_teach_62 : decode cX11_teach 62 = .ok (.getfield 125, 3) := by decide +kernel
theorem dX11_teach_65 : decode cX11_teach 65 = .ok (.iaload, 1) := by decide +kernel
theorem dX11_teach_66 : decode cX11_teach 66 = .ok (.putfield 13, 3) := by decide +kernel
theorem dX11_teach_69 : decode cX11_teach 69 = .ok (.aload_n 0, 1) := by decide +kernel
theorem dX11_teach_70 : decode cX11_teach 70 = .ok (.getfield 122, 3) := by decide +kernel
theorem dX11_teach_73 : decode cX11_teach 73 = .ok (.ifCond .eq 8, 3) := by decide +kernel
theorem dX11_teach_76 : decode cX11_teach 76 = .ok (.aload_n 0, 1) := by decide +kernel
theorem dX11_teach_77 : decode cX11_teach 77 = .ok (.getfield 122, 3) := by decide +kernel
theorem dX11_teach_80 : decode cX11_teach 80 = .ok (.ireturn, 1) := by decide +kernel
theorem dX11_teach_81 : decode cX11_teach 81 = .ok (.aload_n 0, 1) := by decide +kernel
theorem dX11_teach_82 : decode cX11_teach 82 = .ok (.getfield 35, 3) := by decide +kernel
theorem dX11_teach_85 : decode cX11_teach 85 = .ok (.aload_n 0, 1) := by decide +kernel
theorem dX11_teach_86 : decode cX11_teach 86 = .ok (.getfield 39, 3) := by decide +kernel
theorem dX11_teach_89 : decode cX11_teach 89 = .ok (.invokevirtual 274, 3) := by decide +kernel
theorem dX11_teach_92 : decode cX11_teach 92 = .ok (.aload_n 0, 1) := by decide +kernel
theorem dX11_teach_93 : decode cX11_teach 93 = .ok (.getfield 48, 3) := by decide +kernel
theorem dX11_teach_96 : decode cX11_teach 96 = .ok (.aload_n 0, 1) := by decide +kernel
theorem dX11_teach_97 : decode cX11_teach 97 = .ok (.getfield 35, 3) := by decide +kernel
theorem dX11_teach_100 : decode cX11_teach 100 = .ok (.invokevirtual 278, 3) := by decide +kernel
theorem dX11_teach_103 : decode cX11_teach 103 = .ok (.iconst 0, 1) := by decide +kernel
theorem dX11_teach_104 : decode cX11_teach 104 = .ok (.ireturn, 1) := by decide +kernel
theorem dX11_errorAt_0 : decode cX11_errorAt 0 = .ok (.aload_n 0, 1) := by decide +kernel
theorem dX11_errorAt_1 : decode cX11_errorAt 1 = .ok (.aload_n 0, 1) := by decide +kernel
theorem dX11_errorAt_2 : decode cX11_errorAt 2 = .ok (.getfield 13, 3) := by decide +kernel
theorem dX11_errorAt_5 : decode cX11_errorAt 5 = .ok (.invokevirtual 280, 3) := by decide +kernel
theorem dX11_errorAt_8 : decode cX11_errorAt 8 = .ok (.ireturn, 1) := by decide +kernel
theorem dX11_isWide_0 : decode cX11_isWide 0 = .ok (.iload_n 1, 1) := by decide +kernel
theorem dX11_isWide_1 : decode cX11_isWide 1 = .ok (.aload_n 0, 1) := by decide +kernel
theorem dX11_isWide_2 : decode cX11_isWide 2 = .ok (.getfield 35, 3) := by decide +kernel
theorem dX11_isWide_5 : decode cX11_isWide 5 = .ok (.getfield 250, 3) := by decide +kernel
theorem dX11_isWide_8 : decode cX11_isWide 8 = .ok (.ineg, 1) := by decide +kernel
theorem dX11_isWide_9 : decode cX11_isWide 9 = .ok (.aload_n 0, 1) := by decide +kernel
theorem dX11_isWide_10 : decode cX11_isWide 10 = .ok (.getfield 35, 3) := by decide +kernel
theorem dX11_isWide_13 : decode cX11_isWide 13 = .ok (.getfield 250, 3) := by decide +kernel
theorem dX11_isWide_16 : decode cX11_isWide 16 = .ok (.invokestatic 67, 3) := by decide +kernel
theorem dX11_isWide_19 : decode cX11_isWide 19 = .ok (.ireturn, 1) := by decide +kernel
theorem dX11_shine_0 : decode cX11_shine 0 = .ok (.sipush 10000, 3) := by decide +kernel
theorem dX11_shine_3 : decode cX11_shine 3 = .ok (.istore_n 2, 1) := by decide +kernel
theorem dX11_shine_4 : decode cX11_shine 4 = .ok (.iconst 0, 1) := by decide +kernel
theorem dX11_shine_5 : decode cX11_shine 5 = .ok (.istore_n 3, 1) := by decide +kernel
theorem dX11_shine_6 : decode cX11_shine 6 = .ok (.iconst 0, 1) := by decide +kernel
theorem dX11_shine_7 : decode cX11_shine 7 = .ok (.istore 4, 2) := by decide +kernel
theorem dX11_shine_9 : decode cX11_shine 9 = .ok (.iload 4, 2) := by decide +kernel
theorem dX11_shine_11 : decode cX11_shine 11 = .ok (.aload_n 0, 1) := by decide +kernel
theorem dX11_shine_12 : decode cX11_shine 12 = .ok (.getfield 35, 3) := by decide +kernel
theorem dX11_shine_15 : decode cX11_shine 15 = .ok (.getfield 149, 3) := by decide +kernel
theorem dX11_shine_18 : decode cX11_shine 18 = .ok (.if_icmp .ge 88, 3) := by decide +kernel
theorem dX11_shine_21 : decode cX11_shine 21 = .ok (.aload_n 1, 1) := by decide +kernel
theorem dX11_shine_22 : decode cX11_shine 22 = .ok (.getfield 283, 3) := by decide +kernel
theorem dX11_shine_25 : decode cX11_shine 25 = .ok (.iload 4, 2) := by decide +kernel
theorem dX11_shine_27 : decode cX11_shine 27 = .ok (.iaload, 1) := by decide +kernel
theorem dX11_shine_28 : decode cX11_shine 28 = .ok (.istore 5, 2) := by decide +kernel
theorem dX11_shine_30 : decode cX11_shine 30 = .ok (.aload_n 0, 1) := by decide +kernel
theorem dX11_shine_31 : decode cX11_shine 31 = .ok (.getfield 55, 3) := by decide +kernel
theorem dX11_shine_34 : decode cX11_shine 34 = .ok (.iload 5, 2) := by decide +kernel
theorem dX11_shine_36 : decode cX11_shine 36 = .ok (.iload_n 2, 1) := by decide +kernel
theorem dX11_shine_37 : decode cX11_shine 37 = .ok (.iastore, 1) := by decide +kernel
theorem dX11_shine_38 : decode cX11_shine 38 = .ok (.aload_n 0, 1) := by decide +kernel
theorem dX11_shine_39 : decode cX11_shine 39 = .ok (.iload_n 3, 1) := by decide +kernel
theorem dX11_shine_40 : decode cX11_shine 40 = .ok (.invokevirtual 286, 3) := by decide +kernel
theorem dX11_shine_43 : decode cX11_shine 43 = .ok (.ifCond .eq 12, 3) := by decide +kernel
theorem dX11_shine_46 : decode cX11_shine 46 = .ok (.aload_n 1, 1) := by decide +kernel
theorem dX11_shine_47 : decode cX11_shine 47 = .ok (.iload 5, 2) := by decide +kernel
theorem dX11_shine_49 : decode cX11_shine 49 = .ok (.invokevirtual 289, 3) := by decide +kernel
theorem dX11_shine_52 : decode cX11_shine 52 = .ok (.ifCond .eq 7, 3) := by decide +kernel
theorem dX11_shine_55 : decode cX11_shine 55 = .ok (.iconst 0, 1) := by decide +kernel
theorem dX11_shine_56 : decode cX11_shine 56 = .ok (.goto 15, 3) := by decide +kernel
theorem dX11_shine_59 : decode cX11_shine 59 = .ok (.iload_n 2, 1) := by decide +kernel
theorem dX11_shine_60 : decode cX11_shine 60 = .ok (.aload_n 1, 1) := by decide +kernel
theorem dX11_shine_61 : decode cX11_shine 61 = .ok (.getfield 292, 3) := by decide +kernel
theorem dX11_shine_64 : decode cX11_shine 64 = .ok (.iload 5, 2) := by decide +kernel
theorem dX11_shine_66 : decode cX11_shine 66 = .ok (.iaload, 1) := by decide +kernel
theorem dX11_shine_67 : decode cX11_shine 67 = .ok (.imul, 1) := by decide +kernel
theorem dX11_shine_68 : decode cX11_shine 68 = .ok (.bipush 100, 2) := by decide +kernel
theorem dX11_shine_70 : decode cX11_shine 70 = .ok (.idiv, 1) := by decide +kernel
theorem dX11_shine_71 : decode cX11_shine 71 = .ok (.istore_n 2, 1) := by decide +kernel
theorem dX11_shine_72 : decode cX11_shine 72 = .ok (.aload_n 0, 1) := by decide +kernel
theorem dX11_shine_73 : decode cX11_shine 73 = .ok (.getfield 58, 3) := by decide +kernel
theorem dX11_shine_76 : decode cX11_shine 76 = .ok (.iload 5, 2) := by decide +kernel
theorem dX11_shine_78 : decode cX11_shine 78 = .ok (.iload_n 2, 1) := by decide +kernel
theorem dX11_shine_79 : decode cX11_shine 79 = .ok (.iastore, 1) := by decide +kernel
theorem dX11_shine_80 : decode cX11_shine 80 = .ok (.iload_n 3, 1) := by decide +kernel
theorem dX11_shine_81 : decode cX11_shine 81 = .ok (.iconst 2, 1) := by decide +kernel
theorem dX11_shine_82 : decode cX11_shine 82 = .ok (.aload_n 1, 1) := by decide +kernel
theorem dX11_shine_83 : decode cX11_shine 83 = .ok (.getfield 293, 3) := by decide +kernel
theorem dX11_shine_86 : decode cX11_shine 86 = .ok (.iload 5, 2) := by decide +kernel
theorem dX11_shine_88 : decode cX11_shine 88 = .ok (.iaload, 1) := by decide +kernel
theorem dX11_shine_89 : decode cX11_shine 89 = .ok (.imul, 1) := by decide +kernel
theorem dX11_shine_90 : decode cX11_shine 90 = .ok (.iadd, 1) := by decide +kernel
theorem dX11_shine_91 : decode cX11_shine 91 = .ok (.istore_n 3, 1) := by decide +kernel
theorem dX11_shine_92 : decode cX11_shine 92 = .ok (.aload_n 0, 1) := by decide +kernel
theorem dX11_shine_93 : decode cX11_shine 93 = .ok (.getfield 61, 3) := by decide +kernel
theorem dX11_shine_96 : decode cX11_shine 96 = .ok (.iload 5, 2) := by decide +kernel
theorem dX11_shine_98 : decode cX11_shine 98 = .ok (.iload_n 3, 1) := by decide +kernel
theorem dX11_shine_99 : decode cX11_shine 99 = .ok (.iastore, 1) := by decide +kernel
theorem dX11_shine_100 : decode cX11_shine 100 = .ok (.iinc 4 1, 3) := by decide +kernel
theorem dX11_shine_103 : decode cX11_shine 103 = .ok (.goto (-94), 3) := by decide +kernel
theorem dX11_shine_106 : decode cX11_shine 106 = .ok (.aload_n 0, 1) := by decide +kernel
theorem dX11_shine_107 : decode cX11_shine 107 = .ok (.iload_n 2, 1) := by decide +kernel
theorem dX11_shine_108 : decode cX11_shine 108 = .ok (.putfield 294, 3) := by decide +kernel
theorem dX11_shine_111 : decode cX11_shine 111 = .ok (.aload_n 0, 1) := by decide +kernel
theorem dX11_shine_112 : decode cX11_shine 112 = .ok (.iload_n 3, 1) := by decide +kernel
theorem dX11_shine_113 : decode cX11_shine 113 = .ok (.putfield 297, 3) := by decide +kernel
theorem dX11_shine_116 : decode cX11_shine 116 = .ok (.return_, 1) := by decide +kernel
theorem dX11_light_0 : decode cX11_light 0 = .ok (.aload_n 0, 1) := by decide +kernel
theorem dX11_light_1 : decode cX11_light 1 = .ok (.aload_n 1, 1) := by decide +kernel
theorem dX11_light_2 : decode cX11_light 2 = .ok (.invokevirtual 300, 3) := by decide +kernel
theorem dX11_light_5 : decode cX11_light 5 = .ok (.aload_n 0, 1) := by decide +kernel
theorem dX11_light_6 : decode cX11_light 6 = .ok (.getfield 294, 3) := by decide +kernel
theorem dX11_light_9 : decode cX11_light 9 = .ok (.ireturn, 1) := by decide +kernel
theorem dX11_seen_0 : decode cX11_seen 0 = .ok (.aload_n 0, 1) := by decide +kernel
theorem dX11_seen_1 : decode cX11_seen 1 = .ok (.aload_n 1, 1) := by decide +kernel
theorem dX11_seen_2 : decode cX11_seen 2 = .ok (.invokevirtual 304, 3) := by decide +kernel
theorem dX11_seen_5 : decode cX11_seen 5 = .ok (.aload_n 0, 1) := by decide +kernel
theorem dX11_seen_6 : decode cX11_seen 6 = .ok (.getfield 35, 3) := by decide +kernel
theorem dX11_seen_9 : decode cX11_seen 9 = .ok (.getfield 253, 3) := by decide +kernel
theorem dX11_seen_12 : decode cX11_seen 12 = .ok (.if_icmp .lt 18, 3) := by decide +kernel
theorem dX11_seen_15 : decode cX11_seen 15 = .ok (.aload_n 0, 1) := by decide +kernel
theorem dX11_seen_16 : decode cX11_seen 16 = .ok (.aload_n 0, 1) := by decide +kernel
theorem dX11_seen_17 : decode cX11_seen 17 = .ok (.getfield 297, 3) := by decide +kernel
theorem dX11_seen_20 : decode cX11_seen 20 = .ok (.invokevirtual 286, 3) := by decide +kernel
theorem dX11_seen_23 : decode cX11_seen 23 = .ok (.ifCond .eq 7, 3) := by decide +kernel
theorem dX11_seen_26 : decode cX11_seen 26 = .ok (.iconst 1, 1) := by decide +kernel
theorem dX11_seen_27 : decode cX11_seen 27 = .ok (.goto 4, 3) := by decide +kernel
theorem dX11_seen_30 : decode cX11_seen 30 = .ok (.iconst 0, 1) := by decide +kernel
theorem dX11_seen_31 : decode cX11_seen 31 = .ok (.ireturn, 1) := by decide +kernel
theorem dX11_reckon_0 : decode cX11_reckon 0 = .ok (.iload_n 2, 1) := by decide +kernel
theorem dX11_reckon_1 : decode cX11_reckon 1 = .ok (.lookupswitch 252 #[(1, 140), (2, 133), (12, 117), (13, 122), (14, 128), (15, 154), (16, 173), (17, 147), (19, 185), (20, 199), (21, 243), (31, 115), (60, 235)], 115) := by decide +kernel
theorem dX11_reckon_116 : decode cX11_reckon 116 = .ok (.iload_n 3, 1) := by decide +kernel
theorem dX11_reckon_117 : decode cX11_reckon 117 = .ok (.ireturn, 1) := by decide +kernel
theorem dX11_reckon_118 : decode cX11_reckon 118 = .ok (.aload_n 1, 1) := by decide +kernel
theorem dX11_reckon_119 : decode cX11_reckon 119 = .ok (.getfield 308, 3) := by decide +kernel
theorem dX11_reckon_122 : decode cX11_reckon 122 = .ok (.ireturn, 1) := by decide +kernel
theorem dX11_reckon_123 : decode cX11_reckon 123 = .ok (.aload_n 0, 1) := by decide +kernel
theorem dX11_reckon_124 : decode cX11_reckon 124 = .ok (.aload_n 1, 1) := by decide +kernel
theorem dX11_reckon_125 : decode cX11_reckon 125 = .ok (.invokevirtual 304, 3) := by decide +kernel
theorem dX11_reckon_128 : decode cX11_reckon 128 = .ok (.ireturn, 1) := by decide +kernel
theorem dX11_reckon_129 : decode cX11_reckon 129 = .ok (.aload_n 1, 1) := by decide +kernel
theorem dX11_reckon_130 : decode cX11_reckon 130 = .ok (.getfield 311, 3) := by decide +kernel
theorem dX11_reckon_133 : decode cX11_reckon 133 = .ok (.ireturn, 1) := by decide +kernel
theorem dX11_reckon_134 : decode cX11_reckon 134 = .ok (.aload_n 1, 1) := by decide +kernel
theorem dX11_reckon_135 : decode cX11_reckon 135 = .ok (.getfield 293, 3) := by decide +kernel
theorem dX11_reckon_138 : decode cX11_reckon 138 = .ok (.iload_n 3, 1) := by decide +kernel
theorem dX11_reckon_139 : decode cX11_reckon 139 = .ok (.iaload, 1) := by decide +kernel
theorem dX11_reckon_140 : decode cX11_reckon 140 = .ok (.ireturn, 1) := by decide +kernel
theorem dX11_reckon_141 : decode cX11_reckon 141 = .ok (.aload_n 1, 1) := by decide +kernel
theorem dX11_reckon_142 : decode cX11_reckon 142 = .ok (.getfield 292, 3) := by decide +kernel
theorem dX11_reckon_145 : decode cX11_reckon 145 = .ok (.iload_n 3, 1) := by decide +kernel
theorem dX11_reckon_146 : decode cX11_reckon 146 = .ok (.iaload, 1) := by decide +kernel
theorem dX11_reckon_147 : decode cX11_reckon 147 = .ok (.ireturn, 1) := by decide +kernel
theorem dX11_reckon_148 : decode cX11_reckon 148 = .ok (.aload_n 1, 1) := by decide +kernel
theorem dX11_reckon_149 : decode cX11_reckon 149 = .ok (.getfield 314, 3) := by decide +kernel
theorem dX11_reckon_152 : decode cX11_reckon 152 = .ok (.iload_n 3, 1) := by decide +kernel
theorem dX11_reckon_153 : decode cX11_reckon 153 = .ok (.iaload, 1) := by decide +kernel
theorem dX11_reckon_154 : decode cX11_reckon 154 = .ok (.ireturn, 1) := by decide +kernel
theorem dX11_reckon_155 : decode cX11_reckon 155 = .ok (.aload_n 0, 1) := by decide +kernel
theorem dX11_reckon_156 : decode cX11_reckon 156 = .ok (.aload_n 1, 1) := by decide +kernel
theorem dX11_reckon_157 : decode cX11_reckon 157 = .ok (.invokevirtual 300, 3) := by decide +kernel
theorem dX11_reckon_160 : decode cX11_reckon 160 = .ok (.aload_n 0, 1) := by decide +kernel
theorem dX11_reckon_161 : decode cX11_reckon 161 = .ok (.getfield 55, 3) := by decide +kernel
theorem dX11_reckon_164 : decode cX11_reckon 164 = .ok (.iload_n 3, 1) := by decide +kernel
theorem dX11_reckon_165 : decode cX11_reckon 165 = .ok (.iaload, 1) := by decide +kernel
theorem dX11_reckon_166 : decode cX11_reckon 166 = .ok (.aload_n 0, 1) := by decide +kernel
theorem dX11_reckon_167 : decode cX11_reckon 167 = .ok (.getfield 58, 3) := by decide +kernel
theorem dX11_reckon_170 : decode cX11_reckon 170 = .ok (.iload_n 3, 1) := by decide +kernel
theorem dX11_reckon_171 : decode cX11_reckon 171 = .ok (.iaload, 1) := by decide +kernel
theorem dX11_reckon_172 : decode cX11_reckon 172 = .ok (.isub, 1) := by decide +kernel
theorem dX11_reckon_173 : decode cX11_reckon 173 = .ok (.ireturn, 1) := by decide +kernel
theorem dX11_reckon_174 : decode cX11_reckon 174 = .ok (.aload_n 0, 1) := by decide +kernel
theorem dX11_reckon_175 : decode cX11_reckon 175 = .ok (.aload_n 1, 1) := by decide +kernel
theorem dX11_reckon_176 : decode cX11_reckon 176 = .ok (.invokevirtual 300, 3) := by decide +kernel
theorem dX11_reckon_179 : decode cX11_reckon 179 = .ok (.aload_n 0, 1) := by decide +kernel
theorem dX11_reckon_180 : decode cX11_reckon 180 = .ok (.getfield 61, 3) := by decide +kernel
theorem dX11_reckon_183 : decode cX11_reckon 183 = .ok (.iload_n 3, 1) := by decide +kernel
theorem dX11_reckon_184 : decode cX11_reckon 184 = .ok (.iaload, 1) := by decide +kernel
theorem dX11_reckon_185 : decode cX11_reckon 185 = .ok (.ireturn, 1) := by decide +kernel
theorem dX11_reckon_186 : decode cX11_reckon 186 = .ok (.aload_n 0, 1) := by decide +kernel
theorem dX11_reckon_187 : decode cX11_reckon 187 = .ok (.aload_n 1, 1) := by decide +kernel
theorem dX11_reckon_188 : decode cX11_reckon 188 = .ok (.invokevirtual 317, 3) := by decide +kernel
theorem dX11_reckon_191 : decode cX11_reckon 191 = .ok (.ifCond .eq 7, 3) := by decide +kernel
theorem dX11_reckon_194 : decode cX11_reckon 194 = .ok (.iconst 1, 1) := by decide +kernel
theorem dX11_reckon_195 : decode cX11_reckon 195 = .ok (.goto 4, 3) := by decide +kernel
theorem dX11_reckon_198 : decode cX11_reckon 198 = .ok (.iconst 0, 1) := by decide +kernel
theorem dX11_reckon_199 : decode cX11_reckon 199 = .ok (.ireturn, 1) := by decide +kernel
theorem dX11_reckon_200 : decode cX11_reckon 200 = .ok (.aload_n 1, 1) := by decide +kernel
theorem dX11_reckon_201 : decode cX11_reckon 201 = .ok (.iconst 0, 1) := by decide +kernel
theorem dX11_reckon_202 : decode cX11_reckon 202 = .ok (.iload_n 3, 1) := by decide +kernel
theorem dX11_reckon_203 : decode cX11_reckon 203 = .ok (.invokevirtual 321, 3) := by decide +kernel
theorem dX11_reckon_206 : decode cX11_reckon 206 = .ok (.iconst (-1), 1) := by decide +kernel
theorem dX11_reckon_207 : decode cX11_reckon 207 = .ok (.if_icmp .ne 23, 3) := by decide +kernel
theorem dX11_reckon_210 : decode cX11_reckon 210 = .ok (.aload_n 1, 1) := by decide +kernel
theorem dX11_reckon_211 : decode cX11_reckon 211 = .ok (.iconst 1, 1) := by decide +kernel
theorem dX11_reckon_212 : decode cX11_reckon 212 = .ok (.iload_n 3, 1) := by decide +kernel
theorem dX11_reckon_213 : decode cX11_reckon 213 = .ok (.invokevirtual 321, 3) := by decide +kernel
theorem dX11_reckon_216 : decode cX11_reckon 216 = .ok (.iconst (-1), 1) := by decide +kernel
theorem dX11_reckon_217 : decode cX11_reckon 217 = .ok (.if_icmp .ne 13, 3) := by decide +kernel
theorem dX11_reckon_220 : decode cX11_reckon 220 = .ok (.aload_n 1, 1) := by decide +kernel
theorem dX11_reckon_221 : decode cX11_reckon 221 = .ok (.iconst 2, 1) := by decide +kernel
theorem dX11_reckon_222 : decode cX11_reckon 222 = .ok (.iload_n 3, 1) := by decide +kernel
theorem dX11_reckon_223 : decode cX11_reckon 223 = .ok (.invokevirtual 321, 3) := by decide +kernel
theorem dX11_reckon_226 : decode cX11_reckon 226 = .ok (.iconst (-1), 1) := by decide +kernel
theorem dX11_reckon_227 : decode cX11_reckon 227 = .ok (.if_icmp .eq 7, 3) := by decide +kernel
theorem dX11_reckon_230 : decode cX11_reckon 230 = .ok (.iconst 1, 1) := by decide +kernel
theorem dX11_reckon_231 : decode cX11_reckon 231 = .ok (.goto 4, 3) := by decide +kernel
theorem dX11_reckon_234 : decode cX11_reckon 234 = .ok (.iconst 0, 1) := by decide +kernel
theorem dX11_reckon_235 : decode cX11_reckon 235 = .ok (.ireturn, 1) := by decide +kernel
theorem dX11_reckon_236 : decode cX11_reckon 236 = .ok (.aload_n 0, 1) := by decide +kernel
theorem dX11_reckon_237 : decode cX11_reckon 237 = .ok (.getfield 42, 3) := by decide +kernel
theorem dX11_reckon_240 : decode cX11_reckon 240 = .ok (.iload_n 3, 1) := by decide +kernel
theorem dX11_reckon_241 : decode cX11_reckon 241 = .ok (.iaload, 1) := by decide +kernel
theorem dX11_reckon_242 : decode cX11_reckon 242 = .ok (.ineg, 1) := by decide +kernel
theorem dX11_reckon_243 : decode cX11_reckon 243 = .ok (.ireturn, 1) := by decide +kernel
theorem dX11_reckon_244 : decode cX11_reckon 244 = .ok (.iconst 1, 1) := by decide +kernel
theorem dX11_reckon_245 : decode cX11_reckon 245 = .ok (.aload_n 0, 1) := by decide +kernel
theorem dX11_reckon_246 : decode cX11_reckon 246 = .ok (.getfield 42, 3) := by decide +kernel
theorem dX11_reckon_249 : decode cX11_reckon 249 = .ok (.iload_n 3, 1) := by decide +kernel
theorem dX11_reckon_250 : decode cX11_reckon 250 = .ok (.iaload, 1) := by decide +kernel
theorem dX11_reckon_251 : decode cX11_reckon 251 = .ok (.isub, 1) := by decide +kernel
theorem dX11_reckon_252 : decode cX11_reckon 252 = .ok (.ireturn, 1) := by decide +kernel
theorem dX11_reckon_253 : decode cX11_reckon 253 = .ok (.iload_n 2, 1) := by decide +kernel
theorem dX11_reckon_254 : decode cX11_reckon 254 = .ok (.aload_n 0, 1) := by decide +kernel
theorem dX11_reckon_255 : decode cX11_reckon 255 = .ok (.getfield 42, 3) := by decide +kernel
theorem dX11_reckon_258 : decode cX11_reckon 258 = .ok (.iload_n 3, 1) := by decide +kernel
theorem dX11_reckon_259 : decode cX11_reckon 259 = .ok (.iaload, 1) := by decide +kernel
theorem dX11_reckon_260 : decode cX11_reckon 260 = .ok (.aload_n 0, 1) := by decide +kernel
theorem dX11_reckon_261 : decode cX11_reckon 261 = .ok (.getfield 42, 3) := by decide +kernel
theorem dX11_reckon_264 : decode cX11_reckon 264 = .ok (.iload 4, 2) := by decide +kernel
theorem dX11_reckon_266 : decode cX11_reckon 266 = .ok (.iaload, 1) := by decide +kernel
theorem dX11_reckon_267 : decode cX11_reckon 267 = .ok (.invokestatic 324, 3) := by decide +kernel
theorem dX11_reckon_270 : decode cX11_reckon 270 = .ok (.ireturn, 1) := by decide +kernel
theorem dX11_joined_0 : decode cX11_joined 0 = .ok (.iload_n 0, 1) := by decide +kernel
theorem dX11_joined_1 : decode cX11_joined 1 = .ok (.tableswitch 207 22 47 #[155, 159, 143, 149, 207, 207, 207, 207, 207, 207, 207, 207, 207, 207, 207, 207, 207, 207, 119, 123, 127, 131, 163, 174, 185, 196], 119) := by decide +kernel
theorem dX11_joined_120 : decode cX11_joined 120 = .ok (.iload_n 1, 1) := by decide +kernel
theorem dX11_joined_121 : decode cX11_joined 121 = .ok (.iload_n 2, 1) := by decide +kernel
theorem dX11_joined_122 : decode cX11_joined 122 = .ok (.iadd, 1) := by decide +kernel
theorem dX11_joined_123 : decode cX11_joined 123 = .ok (.ireturn, 1) := by decide +kernel
theorem dX11_joined_124 : decode cX11_joined 124 = .ok (.iload_n 1, 1) := by decide +kernel
theorem dX11_joined_125 : decode cX11_joined 125 = .ok (.iload_n 2, 1) := by decide +kernel
theorem dX11_joined_126 : decode cX11_joined 126 = .ok (.isub, 1) := by decide +kernel
theorem dX11_joined_127 : decode cX11_joined 127 = .ok (.ireturn, 1) := by decide +kernel
theorem dX11_joined_128 : decode cX11_joined 128 = .ok (.iload_n 1, 1) := by decide +kernel
theorem dX11_joined_129 : decode cX11_joined 129 = .ok (.iload_n 2, 1) := by decide +kernel
theorem dX11_joined_130 : decode cX11_joined 130 = .ok (.imul, 1) := by decide +kernel
theorem dX11_joined_131 : decode cX11_joined 131 = .ok (.ireturn, 1) := by decide +kernel
theorem dX11_joined_132 : decode cX11_joined 132 = .ok (.iload_n 2, 1) := by decide +kernel
theorem dX11_joined_133 : decode cX11_joined 133 = .ok (.ifCond .ne 7, 3) := by decide +kernel
theorem dX11_joined_136 : decode cX11_joined 136 = .ok (.iconst 0, 1) := by decide +kernel
theorem dX11_joined_137 : decode cX11_joined 137 = .ok (.goto 6, 3) := by decide +kernel
theorem dX11_joined_140 : decode cX11_joined 140 = .ok (.iload_n 1, 1) := by decide +kernel
theorem dX11_joined_141 : decode cX11_joined 141 = .ok (.iload_n 2, 1) := by decide +kernel
theorem dX11_joined_142 : decode cX11_joined 142 = .ok (.idiv, 1) := by decide +kernel
theorem dX11_joined_143 : decode cX11_joined 143 = .ok (.ireturn, 1) := by decide +kernel
theorem dX11_joined_144 : decode cX11_joined 144 = .ok (.iload_n 1, 1) := by decide +kernel
theorem dX11_joined_145 : decode cX11_joined 145 = .ok (.iload_n 2, 1) := by decide +kernel
theorem dX11_joined_146 : decode cX11_joined 146 = .ok (.invokestatic 217, 3) := by decide +kernel
theorem dX11_joined_149 : decode cX11_joined 149 = .ok (.ireturn, 1) := by decide +kernel
theorem dX11_joined_150 : decode cX11_joined 150 = .ok (.iload_n 1, 1) := by decide +kernel
theorem dX11_joined_151 : decode cX11_joined 151 = .ok (.iload_n 2, 1) := by decide +kernel
theorem dX11_joined_152 : decode cX11_joined 152 = .ok (.invokestatic 166, 3) := by decide +kernel
theorem dX11_joined_155 : decode cX11_joined 155 = .ok (.ireturn, 1) := by decide +kernel
theorem dX11_joined_156 : decode cX11_joined 156 = .ok (.iload_n 1, 1) := by decide +kernel
theorem dX11_joined_157 : decode cX11_joined 157 = .ok (.iload_n 2, 1) := by decide +kernel
theorem dX11_joined_158 : decode cX11_joined 158 = .ok (.iand, 1) := by decide +kernel
theorem dX11_joined_159 : decode cX11_joined 159 = .ok (.ireturn, 1) := by decide +kernel
theorem dX11_joined_160 : decode cX11_joined 160 = .ok (.iload_n 1, 1) := by decide +kernel
theorem dX11_joined_161 : decode cX11_joined 161 = .ok (.iload_n 2, 1) := by decide +kernel
theorem dX11_joined_162 : decode cX11_joined 162 = .ok (.ior, 1) := by decide +kernel
theorem dX11_joined_163 : decode cX11_joined 163 = .ok (.ireturn, 1) := by decide +kernel
theorem dX11_joined_164 : decode cX11_joined 164 = .ok (.iload_n 1, 1) := by decide +kernel
theorem dX11_joined_165 : decode cX11_joined 165 = .ok (.iload_n 2, 1) := by decide +kernel
theorem dX11_joined_166 : decode cX11_joined 166 = .ok (.if_icmp .ge 7, 3) := by decide +kernel
theorem dX11_joined_169 : decode cX11_joined 169 = .ok (.iconst 1, 1) := by decide +kernel
theorem dX11_joined_170 : decode cX11_joined 170 = .ok (.goto 4, 3) := by decide +kernel
theorem dX11_joined_173 : decode cX11_joined 173 = .ok (.iconst 0, 1) := by decide +kernel
theorem dX11_joined_174 : decode cX11_joined 174 = .ok (.ireturn, 1) := by decide +kernel
theorem dX11_joined_175 : decode cX11_joined 175 = .ok (.iload_n 1, 1) := by decide +kernel
theorem dX11_joined_176 : decode cX11_joined 176 = .ok (.iload_n 2, 1) := by decide +kernel
theorem dX11_joined_177 : decode cX11_joined 177 = .ok (.if_icmp .le 7, 3) := by decide +kernel
theorem dX11_joined_180 : decode cX11_joined 180 = .ok (.iconst 1, 1) := by decide +kernel
theorem dX11_joined_181 : decode cX11_joined 181 = .ok (.goto 4, 3) := by decide +kernel
theorem dX11_joined_184 : decode cX11_joined 184 = .ok (.iconst 0, 1) := by decide +kernel
theorem dX11_joined_185 : decode cX11_joined 185 = .ok (.ireturn, 1) := by decide +kernel
theorem dX11_joined_186 : decode cX11_joined 186 = .ok (.iload_n 1, 1) := by decide +kernel
theorem dX11_joined_187 : decode cX11_joined 187 = .ok (.iload_n 2, 1) := by decide +kernel
theorem dX11_joined_188 : decode cX11_joined 188 = .ok (.if_icmp .ne 7, 3) := by decide +kernel
theorem dX11_joined_191 : decode cX11_joined 191 = .ok (.iconst 1, 1) := by decide +kernel
theorem dX11_joined_192 : decode cX11_joined 192 = .ok (.goto 4, 3) := by decide +kernel
theorem dX11_joined_195 : decode cX11_joined 195 = .ok (.iconst 0, 1) := by decide +kernel
theorem dX11_joined_196 : decode cX11_joined 196 = .ok (.ireturn, 1) := by decide +kernel
theorem dX11_joined_197 : decode cX11_joined 197 = .ok (.iload_n 1, 1) := by decide +kernel
theorem dX11_joined_198 : decode cX11_joined 198 = .ok (.iload_n 2, 1) := by decide +kernel
theorem dX11_joined_199 : decode cX11_joined 199 = .ok (.if_icmp .gt 7, 3) := by decide +kernel
theorem dX11_joined_202 : decode cX11_joined 202 = .ok (.iconst 1, 1) := by decide +kernel
theorem dX11_joined_203 : decode cX11_joined 203 = .ok (.goto 4, 3) := by decide +kernel
theorem dX11_joined_206 : decode cX11_joined 206 = .ok (.iconst 0, 1) := by decide +kernel
theorem dX11_joined_207 : decode cX11_joined 207 = .ok (.ireturn, 1) := by decide +kernel
theorem dX11_joined_208 : decode cX11_joined 208 = .ok (.iload_n 1, 1) := by decide +kernel
theorem dX11_joined_209 : decode cX11_joined 209 = .ok (.iload_n 2, 1) := by decide +kernel
theorem dX11_joined_210 : decode cX11_joined 210 = .ok (.if_icmp .lt 7, 3) := by decide +kernel
theorem dX11_joined_213 : decode cX11_joined 213 = .ok (.iconst 1, 1) := by decide +kernel
theorem dX11_joined_214 : decode cX11_joined 214 = .ok (.goto 4, 3) := by decide +kernel
theorem dX11_joined_217 : decode cX11_joined 217 = .ok (.iconst 0, 1) := by decide +kernel
theorem dX11_joined_218 : decode cX11_joined 218 = .ok (.ireturn, 1) := by decide +kernel
theorem dX11_held_0 : decode cX11_held 0 = .ok (.iload_n 2, 1) := by decide +kernel
theorem dX11_held_1 : decode cX11_held 1 = .ok (.i2l, 1) := by decide +kernel
theorem dX11_held_2 : decode cX11_held 2 = .ok (.iload_n 3, 1) := by decide +kernel
theorem dX11_held_3 : decode cX11_held 3 = .ok (.i2l, 1) := by decide +kernel
theorem dX11_held_4 : decode cX11_held 4 = .ok (.lload_n 0, 1) := by decide +kernel
theorem dX11_held_5 : decode cX11_held 5 = .ok (.invokestatic 327, 3) := by decide +kernel
theorem dX11_held_8 : decode cX11_held 8 = .ok (.invokestatic 330, 3) := by decide +kernel
theorem dX11_held_11 : decode cX11_held 11 = .ok (.l2i, 1) := by decide +kernel
theorem dX11_held_12 : decode cX11_held 12 = .ok (.ireturn, 1) := by decide +kernel
theorem dX11_carryOut_0 : decode cX11_carryOut 0 = .ok (.aload_n 0, 1) := by decide +kernel
theorem dX11_carryOut_1 : decode cX11_carryOut 1 = .ok (.getfield 35, 3) := by decide +kernel
theorem dX11_carryOut_4 : decode cX11_carryOut 4 = .ok (.getfield 232, 3) := by decide +kernel
theorem dX11_carryOut_7 : decode cX11_carryOut 7 = .ok (.iload_n 2, 1) := by decide +kernel
theorem dX11_carryOut_8 : decode cX11_carryOut 8 = .ok (.iaload, 1) := by decide +kernel
theorem dX11_carryOut_9 : decode cX11_carryOut 9 = .ok (.istore_n 3, 1) := by decide +kernel
theorem dX11_carryOut_10 : decode cX11_carryOut 10 = .ok (.iload_n 3, 1) := by decide +kernel
theorem dX11_carryOut_11 : decode cX11_carryOut 11 = .ok (.istore 4, 2) := by decide +kernel
theorem dX11_carryOut_13 : decode cX11_carryOut 13 = .ok (.iload 4, 2) := by decide +kernel
theorem dX11_carryOut_15 : decode cX11_carryOut 15 = .ok (.aload_n 0, 1) := by decide +kernel
theorem dX11_carryOut_16 : decode cX11_carryOut 16 = .ok (.getfield 35, 3) := by decide +kernel
theorem dX11_carryOut_19 : decode cX11_carryOut 19 = .ok (.getfield 245, 3) := by decide +kernel
theorem dX11_carryOut_22 : decode cX11_carryOut 22 = .ok (.iload_n 2, 1) := by decide +kernel
theorem dX11_carryOut_23 : decode cX11_carryOut 23 = .ok (.iaload, 1) := by decide +kernel
theorem dX11_carryOut_24 : decode cX11_carryOut 24 = .ok (.if_icmp .ge 51, 3) := by decide +kernel
theorem dX11_carryOut_27 : decode cX11_carryOut 27 = .ok (.aload_n 0, 1) := by decide +kernel
theorem dX11_carryOut_28 : decode cX11_carryOut 28 = .ok (.getfield 42, 3) := by decide +kernel
theorem dX11_carryOut_31 : decode cX11_carryOut 31 = .ok (.iload 4, 2) := by decide +kernel
theorem dX11_carryOut_33 : decode cX11_carryOut 33 = .ok (.aload_n 0, 1) := by decide +kernel
theorem dX11_carryOut_34 : decode cX11_carryOut 34 = .ok (.aload_n 1, 1) := by decide +kernel
theorem dX11_carryOut_35 : decode cX11_carryOut 35 = .ok (.aload_n 0, 1) := by decide +kernel
theorem dX11_carryOut_36 : decode cX11_carryOut 36 = .ok (.getfield 35, 3) := by decide +kernel
theorem dX11_carryOut_39 : decode cX11_carryOut 39 = .ok (.getfield 140, 3) := by decide +kernel
theorem dX11_carryOut_42 : decode cX11_carryOut 42 = .ok (.iload 4, 2) := by decide +kernel
theorem dX11_carryOut_44 : decode cX11_carryOut 44 = .ok (.iaload, 1) := by decide +kernel
theorem dX11_carryOut_45 : decode cX11_carryOut 45 = .ok (.aload_n 0, 1) := by decide +kernel
theorem dX11_carryOut_46 : decode cX11_carryOut 46 = .ok (.getfield 35, 3) := by decide +kernel
theorem dX11_carryOut_49 : decode cX11_carryOut 49 = .ok (.getfield 143, 3) := by decide +kernel
theorem dX11_carryOut_52 : decode cX11_carryOut 52 = .ok (.iload 4, 2) := by decide +kernel
theorem dX11_carryOut_54 : decode cX11_carryOut 54 = .ok (.iaload, 1) := by decide +kernel
theorem dX11_carryOut_55 : decode cX11_carryOut 55 = .ok (.aload_n 0, 1) := by decide +kernel
theorem dX11_carryOut_56 : decode cX11_carryOut 56 = .ok (.getfield 35, 3) := by decide +kernel
theorem dX11_carryOut_59 : decode cX11_carryOut 59 = .ok (.getfield 146, 3) := by decide +kernel
theorem dX11_carryOut_62 : decode cX11_carryOut 62 = .ok (.iload 4, 2) := by decide +kernel
theorem dX11_carryOut_64 : decode cX11_carryOut 64 = .ok (.iaload, 1) := by decide +kernel
theorem dX11_carryOut_65 : decode cX11_carryOut 65 = .ok (.invokevirtual 332, 3) := by decide +kernel
theorem dX11_carryOut_68 : decode cX11_carryOut 68 = .ok (.iastore, 1) := by decide +kernel
theorem dX11_carryOut_69 : decode cX11_carryOut 69 = .ok (.iinc 4 1, 3) := by decide +kernel
theorem dX11_carryOut_72 : decode cX11_carryOut 72 = .ok (.goto (-59), 3) := by decide +kernel
theorem dX11_carryOut_75 : decode cX11_carryOut 75 = .ok (.aload_n 0, 1) := by decide +kernel
theorem dX11_carryOut_76 : decode cX11_carryOut 76 = .ok (.getfield 35, 3) := by decide +kernel
theorem dX11_carryOut_79 : decode cX11_carryOut 79 = .ok (.getfield 243, 3) := by decide +kernel
theorem dX11_carryOut_82 : decode cX11_carryOut 82 = .ok (.iload_n 2, 1) := by decide +kernel
theorem dX11_carryOut_83 : decode cX11_carryOut 83 = .ok (.iaload, 1) := by decide +kernel
theorem dX11_carryOut_84 : decode cX11_carryOut 84 = .ok (.iconst (-1), 1) := by decide +kernel
theorem dX11_carryOut_85 : decode cX11_carryOut 85 = .ok (.if_icmp .eq 21, 3) := by decide +kernel
theorem dX11_carryOut_88 : decode cX11_carryOut 88 = .ok (.aload_n 0, 1) := by decide +kernel
theorem dX11_carryOut_89 : decode cX11_carryOut 89 = .ok (.getfield 42, 3) := by decide +kernel
theorem dX11_carryOut_92 : decode cX11_carryOut 92 = .ok (.aload_n 0, 1) := by decide +kernel
theorem dX11_carryOut_93 : decode cX11_carryOut 93 = .ok (.getfield 35, 3) := by decide +kernel
theorem dX11_carryOut_96 : decode cX11_carryOut 96 = .ok (.getfield 243, 3) := by decide +kernel
theorem dX11_carryOut_99 : decode cX11_carryOut 99 = .ok (.iload_n 2, 1) := by decide +kernel
theorem dX11_carryOut_100 : decode cX11_carryOut 100 = .ok (.iaload, 1) := by decide +kernel
theorem dX11_carryOut_101 : decode cX11_carryOut 101 = .ok (.iaload, 1) := by decide +kernel
theorem dX11_carryOut_102 : decode cX11_carryOut 102 = .ok (.ifCond .ne 4, 3) := by decide +kernel
theorem dX11_carryOut_105 : decode cX11_carryOut 105 = .ok (.return_, 1) := by decide +kernel
theorem dX11_carryOut_106 : decode cX11_carryOut 106 = .ok (.aload_n 0, 1) := by decide +kernel
theorem dX11_carryOut_107 : decode cX11_carryOut 107 = .ok (.getfield 35, 3) := by decide +kernel
theorem dX11_carryOut_110 : decode cX11_carryOut 110 = .ok (.getfield 238, 3) := by decide +kernel
theorem dX11_carryOut_113 : decode cX11_carryOut 113 = .ok (.iload_n 2, 1) := by decide +kernel
theorem dX11_carryOut_114 : decode cX11_carryOut 114 = .ok (.iaload, 1) := by decide +kernel
theorem dX11_carryOut_115 : decode cX11_carryOut 115 = .ok (.istore 4, 2) := by decide +kernel
theorem dX11_carryOut_117 : decode cX11_carryOut 117 = .ok (.aload_n 0, 1) := by decide +kernel
theorem dX11_carryOut_118 : decode cX11_carryOut 118 = .ok (.getfield 35, 3) := by decide +kernel
theorem dX11_carryOut_121 : decode cX11_carryOut 121 = .ok (.getfield 241, 3) := by decide +kernel
theorem dX11_carryOut_124 : decode cX11_carryOut 124 = .ok (.iload_n 2, 1) := by decide +kernel
theorem dX11_carryOut_125 : decode cX11_carryOut 125 = .ok (.iaload, 1) := by decide +kernel
theorem dX11_carryOut_126 : decode cX11_carryOut 126 = .ok (.iconst (-1), 1) := by decide +kernel
theorem dX11_carryOut_127 : decode cX11_carryOut 127 = .ok (.if_icmp .ne 7, 3) := by decide +kernel
theorem dX11_carryOut_130 : decode cX11_carryOut 130 = .ok (.iconst 0, 1) := by decide +kernel
theorem dX11_carryOut_131 : decode cX11_carryOut 131 = .ok (.goto 17, 3) := by decide +kernel
theorem dX11_carryOut_134 : decode cX11_carryOut 134 = .ok (.aload_n 0, 1) := by decide +kernel
theorem dX11_carryOut_135 : decode cX11_carryOut 135 = .ok (.getfield 42, 3) := by decide +kernel
theorem dX11_carryOut_138 : decode cX11_carryOut 138 = .ok (.aload_n 0, 1) := by decide +kernel
theorem dX11_carryOut_139 : decode cX11_carryOut 139 = .ok (.getfield 35, 3) := by decide +kernel
theorem dX11_carryOut_142 : decode cX11_carryOut 142 = .ok (.getfield 241, 3) := by decide +kernel
theorem dX11_carryOut_145 : decode cX11_carryOut 145 = .ok (.iload_n 2, 1) := by decide +kernel
theorem dX11_carryOut_146 : decode cX11_carryOut 146 = .ok (.iaload, 1) := by decide +kernel
theorem dX11_carryOut_147 : decode cX11_carryOut 147 = .ok (.iaload, 1) := by decide +kernel
theorem dX11_carryOut_148 : decode cX11_carryOut 148 = .ok (.istore 5, 2) := by decide +kernel
theorem dX11_carryOut_150 : decode cX11_carryOut 150 = .ok (.aload_n 0, 1) := by decide +kernel
theorem dX11_carryOut_151 : decode cX11_carryOut 151 = .ok (.getfield 35, 3) := by decide +kernel
theorem dX11_carryOut_154 : decode cX11_carryOut 154 = .ok (.getfield 235, 3) := by decide +kernel
theorem dX11_carryOut_157 : decode cX11_carryOut 157 = .ok (.iload_n 2, 1) := by decide +kernel
theorem dX11_carryOut_158 : decode cX11_carryOut 158 = .ok (.iaload, 1) := by decide +kernel
theorem dX11_carryOut_159 : decode cX11_carryOut 159 = .ok (.iconst 3, 1) := by decide +kernel
theorem dX11_carryOut_160 : decode cX11_carryOut 160 = .ok (.if_icmp .ne 32, 3) := by decide +kernel
theorem dX11_carryOut_163 : decode cX11_carryOut 163 = .ok (.aload_n 1, 1) := by decide +kernel
theorem dX11_carryOut_164 : decode cX11_carryOut 164 = .ok (.getfield 293, 3) := by decide +kernel
theorem dX11_carryOut_167 : decode cX11_carryOut 167 = .ok (.iload 4, 2) := by decide +kernel
theorem dX11_carryOut_169 : decode cX11_carryOut 169 = .ok (.aload_n 1, 1) := by decide +kernel
theorem dX11_carryOut_170 : decode cX11_carryOut 170 = .ok (.getfield 293, 3) := by decide +kernel
theorem dX11_carryOut_173 : decode cX11_carryOut 173 = .ok (.iload 4, 2) := by decide +kernel
theorem dX11_carryOut_175 : decode cX11_carryOut 175 = .ok (.iaload, 1) := by decide +kernel
theorem dX11_carryOut_176 : decode cX11_carryOut 176 = .ok (.i2l, 1) := by decide +kernel
theorem dX11_carryOut_177 : decode cX11_carryOut 177 = .ok (.iload 5, 2) := by decide +kernel
theorem dX11_carryOut_179 : decode cX11_carryOut 179 = .ok (.i2l, 1) := by decide +kernel
theorem dX11_carryOut_180 : decode cX11_carryOut 180 = .ok (.ladd, 1) := by decide +kernel
theorem dX11_carryOut_181 : decode cX11_carryOut 181 = .ok (.bipush (-90), 2) := by decide +kernel
theorem dX11_carryOut_183 : decode cX11_carryOut 183 = .ok (.bipush 90, 2) := by decide +kernel
theorem dX11_carryOut_185 : decode cX11_carryOut 185 = .ok (.invokestatic 336, 3) := by decide +kernel
theorem dX11_carryOut_188 : decode cX11_carryOut 188 = .ok (.iastore, 1) := by decide +kernel
theorem dX11_carryOut_189 : decode cX11_carryOut 189 = .ok (.goto 65, 3) := by decide +kernel
theorem dX11_carryOut_192 : decode cX11_carryOut 192 = .ok (.aload_n 0, 1) := by decide +kernel
theorem dX11_carryOut_193 : decode cX11_carryOut 193 = .ok (.getfield 35, 3) := by decide +kernel
theorem dX11_carryOut_196 : decode cX11_carryOut 196 = .ok (.getfield 235, 3) := by decide +kernel
theorem dX11_carryOut_199 : decode cX11_carryOut 199 = .ok (.iload_n 2, 1) := by decide +kernel
theorem dX11_carryOut_200 : decode cX11_carryOut 200 = .ok (.iaload, 1) := by decide +kernel
theorem dX11_carryOut_201 : decode cX11_carryOut 201 = .ok (.iconst 4, 1) := by decide +kernel
theorem dX11_carryOut_202 : decode cX11_carryOut 202 = .ok (.if_icmp .ne 36, 3) := by decide +kernel
theorem dX11_carryOut_205 : decode cX11_carryOut 205 = .ok (.aload_n 1, 1) := by decide +kernel
theorem dX11_carryOut_206 : decode cX11_carryOut 206 = .ok (.getfield 292, 3) := by decide +kernel
theorem dX11_carryOut_209 : decode cX11_carryOut 209 = .ok (.iload 4, 2) := by decide +kernel
theorem dX11_carryOut_211 : decode cX11_carryOut 211 = .ok (.aload_n 1, 1) := by decide +kernel
theorem dX11_carryOut_212 : decode cX11_carryOut 212 = .ok (.getfield 292, 3) := by decide +kernel
theorem dX11_carryOut_215 : decode cX11_carryOut 215 = .ok (.iload 4, 2) := by decide +kernel
theorem dX11_carryOut_217 : decode cX11_carryOut 217 = .ok (.iaload, 1) := by decide +kernel
theorem dX11_carryOut_218 : decode cX11_carryOut 218 = .ok (.i2l, 1) := by decide +kernel
theorem dX11_carryOut_219 : decode cX11_carryOut 219 = .ok (.iload 5, 2) := by decide +kernel
theorem dX11_carryOut_221 : decode cX11_carryOut 221 = .ok (.i2l, 1) := by decide +kernel
theorem dX11_carryOut_222 : decode cX11_carryOut 222 = .ok (.lsub, 1) := by decide +kernel
theorem dX11_carryOut_223 : decode cX11_carryOut 223 = .ok (.iconst 0, 1) := by decide +kernel
theorem dX11_carryOut_224 : decode cX11_carryOut 224 = .ok (.aload_n 1, 1) := by decide +kernel
theorem dX11_carryOut_225 : decode cX11_carryOut 225 = .ok (.getfield 314, 3) := by decide +kernel
theorem dX11_carryOut_228 : decode cX11_carryOut 228 = .ok (.iload 4, 2) := by decide +kernel
theorem dX11_carryOut_230 : decode cX11_carryOut 230 = .ok (.iaload, 1) := by decide +kernel
theorem dX11_carryOut_231 : decode cX11_carryOut 231 = .ok (.invokestatic 336, 3) := by decide +kernel
theorem dX11_carryOut_234 : decode cX11_carryOut 234 = .ok (.iastore, 1) := by decide +kernel
theorem dX11_carryOut_235 : decode cX11_carryOut 235 = .ok (.goto 19, 3) := by decide +kernel
theorem dX11_carryOut_238 : decode cX11_carryOut 238 = .ok (.aload_n 1, 1) := by decide +kernel
theorem dX11_carryOut_239 : decode cX11_carryOut 239 = .ok (.aload_n 0, 1) := by decide +kernel
theorem dX11_carryOut_240 : decode cX11_carryOut 240 = .ok (.getfield 35, 3) := by decide +kernel
theorem dX11_carryOut_243 : decode cX11_carryOut 243 = .ok (.getfield 235, 3) := by decide +kernel
theorem dX11_carryOut_246 : decode cX11_carryOut 246 = .ok (.iload_n 2, 1) := by decide +kernel
theorem dX11_carryOut_247 : decode cX11_carryOut 247 = .ok (.iaload, 1) := by decide +kernel
theorem dX11_carryOut_248 : decode cX11_carryOut 248 = .ok (.iload 4, 2) := by decide +kernel
theorem dX11_carryOut_250 : decode cX11_carryOut 250 = .ok (.invokevirtual 340, 3) := by decide +kernel
theorem dX11_carryOut_253 : decode cX11_carryOut 253 = .ok (.pop, 1) := by decide +kernel
theorem dX11_carryOut_254 : decode cX11_carryOut 254 = .ok (.return_, 1) := by decide +kernel
theorem dX11_pass_0 : decode cX11_pass 0 = .ok (.iconst 0, 1) := by decide +kernel
theorem dX11_pass_1 : decode cX11_pass 1 = .ok (.istore_n 2, 1) := by decide +kernel
theorem dX11_pass_2 : decode cX11_pass 2 = .ok (.iload_n 2, 1) := by decide +kernel
theorem dX11_pass_3 : decode cX11_pass 3 = .ok (.aload_n 0, 1) := by decide +kernel
theorem dX11_pass_4 : decode cX11_pass 4 = .ok (.getfield 35, 3) := by decide +kernel
theorem dX11_pass_7 : decode cX11_pass 7 = .ok (.getfield 229, 3) := by decide +kernel
theorem dX11_pass_10 : decode cX11_pass 10 = .ok (.if_icmp .ge 15, 3) := by decide +kernel
theorem dX11_pass_13 : decode cX11_pass 13 = .ok (.aload_n 0, 1) := by decide +kernel
theorem dX11_pass_14 : decode cX11_pass 14 = .ok (.aload_n 1, 1) := by decide +kernel
theorem dX11_pass_15 : decode cX11_pass 15 = .ok (.iload_n 2, 1) := by decide +kernel
theorem dX11_pass_16 : decode cX11_pass 16 = .ok (.invokevirtual 342, 3) := by decide +kernel
theorem dX11_pass_19 : decode cX11_pass 19 = .ok (.iinc 2 1, 3) := by decide +kernel
theorem dX11_pass_22 : decode cX11_pass 22 = .ok (.goto (-20), 3) := by decide +kernel
theorem dX11_pass_25 : decode cX11_pass 25 = .ok (.aload_n 1, 1) := by decide +kernel
theorem dX11_pass_26 : decode cX11_pass 26 = .ok (.invokevirtual 346, 3) := by decide +kernel
theorem dX11_pass_29 : decode cX11_pass 29 = .ok (.istore_n 2, 1) := by decide +kernel
theorem dX11_pass_30 : decode cX11_pass 30 = .ok (.aload_n 1, 1) := by decide +kernel
theorem dX11_pass_31 : decode cX11_pass 31 = .ok (.dup, 1) := by decide +kernel
theorem dX11_pass_32 : decode cX11_pass 32 = .ok (.getfield 308, 3) := by decide +kernel
theorem dX11_pass_35 : decode cX11_pass 35 = .ok (.iconst 1, 1) := by decide +kernel
theorem dX11_pass_36 : decode cX11_pass 36 = .ok (.iadd, 1) := by decide +kernel
theorem dX11_pass_37 : decode cX11_pass 37 = .ok (.putfield 308, 3) := by decide +kernel
theorem dX11_pass_40 : decode cX11_pass 40 = .ok (.iload_n 2, 1) := by decide +kernel
theorem dX11_pass_41 : decode cX11_pass 41 = .ok (.ireturn, 1) := by decide +kernel
theorem dX11_mirrors_0 : decode cX11_mirrors 0 = .ok (.aload_n 0, 1) := by decide +kernel
theorem dX11_mirrors_1 : decode cX11_mirrors 1 = .ok (.aload_n 0, 1) := by decide +kernel
theorem dX11_mirrors_2 : decode cX11_mirrors 2 = .ok (.getfield 35, 3) := by decide +kernel
theorem dX11_mirrors_5 : decode cX11_mirrors 5 = .ok (.getfield 149, 3) := by decide +kernel
theorem dX11_mirrors_8 : decode cX11_mirrors 8 = .ok (.invokevirtual 280, 3) := by decide +kernel
theorem dX11_mirrors_11 : decode cX11_mirrors 11 = .ok (.ireturn, 1) := by decide +kernel
theorem dX11_orders_0 : decode cX11_orders 0 = .ok (.aload_n 0, 1) := by decide +kernel
theorem dX11_orders_1 : decode cX11_orders 1 = .ok (.aload_n 0, 1) := by decide +kernel
theorem dX11_orders_2 : decode cX11_orders 2 = .ok (.getfield 35, 3) := by decide +kernel
theorem dX11_orders_5 : decode cX11_orders 5 = .ok (.getfield 229, 3) := by decide +kernel
theorem dX11_orders_8 : decode cX11_orders 8 = .ok (.invokevirtual 280, 3) := by decide +kernel
theorem dX11_orders_11 : decode cX11_orders 11 = .ok (.ireturn, 1) := by decide +kernel
theorem dX11_minutes_0 : decode cX11_minutes 0 = .ok (.aload_n 0, 1) := by decide +kernel
theorem dX11_minutes_1 : decode cX11_minutes 1 = .ok (.aload_n 0, 1) := by decide +kernel
theorem dX11_minutes_2 : decode cX11_minutes 2 = .ok (.getfield 48, 3) := by decide +kernel
theorem dX11_minutes_5 : decode cX11_minutes 5 = .ok (.getfield 308, 3) := by decide +kernel
theorem dX11_minutes_8 : decode cX11_minutes 8 = .ok (.invokevirtual 280, 3) := by decide +kernel
theorem dX11_minutes_11 : decode cX11_minutes 11 = .ok (.ireturn, 1) := by decide +kernel
theorem dX11_tapeBytes_0 : decode cX11_tapeBytes 0 = .ok (.aload_n 0, 1) := by decide +kernel
theorem dX11_tapeBytes_1 : decode cX11_tapeBytes 1 = .ok (.aload_n 0, 1) := by decide +kernel
theorem dX11_tapeBytes_2 : decode cX11_tapeBytes 2 = .ok (.getfield 71, 3) := by decide +kernel
theorem dX11_tapeBytes_5 : decode cX11_tapeBytes 5 = .ok (.invokevirtual 280, 3) := by decide +kernel
theorem dX11_tapeBytes_8 : decode cX11_tapeBytes 8 = .ok (.ireturn, 1) := by decide +kernel
theorem dX11_lightAtEnd_0 : decode cX11_lightAtEnd 0 = .ok (.aload_n 0, 1) := by decide +kernel
theorem dX11_lightAtEnd_1 : decode cX11_lightAtEnd 1 = .ok (.aload_n 0, 1) := by decide +kernel
theorem dX11_lightAtEnd_2 : decode cX11_lightAtEnd 2 = .ok (.aload_n 0, 1) := by decide +kernel
theorem dX11_lightAtEnd_3 : decode cX11_lightAtEnd 3 = .ok (.getfield 48, 3) := by decide +kernel
theorem dX11_lightAtEnd_6 : decode cX11_lightAtEnd 6 = .ok (.invokevirtual 304, 3) := by decide +kernel
theorem dX11_lightAtEnd_9 : decode cX11_lightAtEnd 9 = .ok (.invokevirtual 280, 3) := by decide +kernel
theorem dX11_lightAtEnd_12 : decode cX11_lightAtEnd 12 = .ok (.ireturn, 1) := by decide +kernel
theorem dX11_tiltAtEnd_0 : decode cX11_tiltAtEnd 0 = .ok (.aload_n 0, 1) := by decide +kernel
theorem dX11_tiltAtEnd_1 : decode cX11_tiltAtEnd 1 = .ok (.aload_n 0, 1) := by decide +kernel
theorem dX11_tiltAtEnd_2 : decode cX11_tiltAtEnd 2 = .ok (.getfield 48, 3) := by decide +kernel
theorem dX11_tiltAtEnd_5 : decode cX11_tiltAtEnd 5 = .ok (.invokevirtual 300, 3) := by decide +kernel
theorem dX11_tiltAtEnd_8 : decode cX11_tiltAtEnd 8 = .ok (.aload_n 0, 1) := by decide +kernel
theorem dX11_tiltAtEnd_9 : decode cX11_tiltAtEnd 9 = .ok (.aload_n 0, 1) := by decide +kernel
theorem dX11_tiltAtEnd_10 : decode cX11_tiltAtEnd 10 = .ok (.getfield 297, 3) := by decide +kernel
theorem dX11_tiltAtEnd_13 : decode cX11_tiltAtEnd 13 = .ok (.invokevirtual 280, 3) := by decide +kernel
theorem dX11_tiltAtEnd_16 : decode cX11_tiltAtEnd 16 = .ok (.ireturn, 1) := by decide +kernel
theorem dX11_isSeen_0 : decode cX11_isSeen 0 = .ok (.aload_n 0, 1) := by decide +kernel
theorem dX11_isSeen_1 : decode cX11_isSeen 1 = .ok (.iconst 0, 1) := by decide +kernel
theorem dX11_isSeen_2 : decode cX11_isSeen 2 = .ok (.putfield 64, 3) := by decide +kernel
theorem dX11_isSeen_5 : decode cX11_isSeen 5 = .ok (.aload_n 0, 1) := by decide +kernel
theorem dX11_isSeen_6 : decode cX11_isSeen 6 = .ok (.aload_n 0, 1) := by decide +kernel
theorem dX11_isSeen_7 : decode cX11_isSeen 7 = .ok (.getfield 48, 3) := by decide +kernel
theorem dX11_isSeen_10 : decode cX11_isSeen 10 = .ok (.invokevirtual 317, 3) := by decide +kernel
theorem dX11_isSeen_13 : decode cX11_isSeen 13 = .ok (.ireturn, 1) := by decide +kernel
theorem dX11_worstMirror_0 : decode cX11_worstMirror 0 = .ok (.aload_n 0, 1) := by decide +kernel
theorem dX11_worstMirror_1 : decode cX11_worstMirror 1 = .ok (.iconst 0, 1) := by decide +kernel
theorem dX11_worstMirror_2 : decode cX11_worstMirror 2 = .ok (.putfield 64, 3) := by decide +kernel
theorem dX11_worstMirror_5 : decode cX11_worstMirror 5 = .ok (.aload_n 0, 1) := by decide +kernel
theorem dX11_worstMirror_6 : decode cX11_worstMirror 6 = .ok (.getfield 35, 3) := by decide +kernel
theorem dX11_worstMirror_9 : decode cX11_worstMirror 9 = .ok (.getfield 149, 3) := by decide +kernel
theorem dX11_worstMirror_12 : decode cX11_worstMirror 12 = .ok (.ifCond .ne 9, 3) := by decide +kernel
theorem dX11_worstMirror_15 : decode cX11_worstMirror 15 = .ok (.aload_n 0, 1) := by decide +kernel
theorem dX11_worstMirror_16 : decode cX11_worstMirror 16 = .ok (.iconst 1, 1) := by decide +kernel
theorem dX11_worstMirror_17 : decode cX11_worstMirror 17 = .ok (.invokevirtual 262, 3) := by decide +kernel
theorem dX11_worstMirror_20 : decode cX11_worstMirror 20 = .ok (.ireturn, 1) := by decide +kernel
theorem dX11_worstMirror_21 : decode cX11_worstMirror 21 = .ok (.aload_n 0, 1) := by decide +kernel
theorem dX11_worstMirror_22 : decode cX11_worstMirror 22 = .ok (.aload_n 0, 1) := by decide +kernel
theorem dX11_worstMirror_23 : decode cX11_worstMirror 23 = .ok (.getfield 48, 3) := by decide +kernel
theorem dX11_worstMirror_26 : decode cX11_worstMirror 26 = .ok (.invokevirtual 300, 3) := by decide +kernel
theorem dX11_worstMirror_29 : decode cX11_worstMirror 29 = .ok (.aload_n 0, 1) := by decide +kernel
theorem dX11_worstMirror_30 : decode cX11_worstMirror 30 = .ok (.getfield 48, 3) := by decide +kernel
theorem dX11_worstMirror_33 : decode cX11_worstMirror 33 = .ok (.getfield 283, 3) := by decide +kernel
theorem dX11_worstMirror_36 : decode cX11_worstMirror 36 = .ok (.iconst 0, 1) := by decide +kernel
theorem dX11_worstMirror_37 : decode cX11_worstMirror 37 = .ok (.iaload, 1) := by decide +kernel
theorem dX11_worstMirror_38 : decode cX11_worstMirror 38 = .ok (.istore_n 1, 1) := by decide +kernel
theorem dX11_worstMirror_39 : decode cX11_worstMirror 39 = .ok (.iconst 1, 1) := by decide +kernel
theorem dX11_worstMirror_40 : decode cX11_worstMirror 40 = .ok (.istore_n 2, 1) := by decide +kernel
theorem dX11_worstMirror_41 : decode cX11_worstMirror 41 = .ok (.iload_n 2, 1) := by decide +kernel
theorem dX11_worstMirror_42 : decode cX11_worstMirror 42 = .ok (.aload_n 0, 1) := by decide +kernel
theorem dX11_worstMirror_43 : decode cX11_worstMirror 43 = .ok (.getfield 35, 3) := by decide +kernel
theorem dX11_worstMirror_46 : decode cX11_worstMirror 46 = .ok (.getfield 149, 3) := by decide +kernel
theorem dX11_worstMirror_49 : decode cX11_worstMirror 49 = .ok (.if_icmp .ge 50, 3) := by decide +kernel
theorem dX11_worstMirror_52 : decode cX11_worstMirror 52 = .ok (.aload_n 0, 1) := by decide +kernel
theorem dX11_worstMirror_53 : decode cX11_worstMirror 53 = .ok (.getfield 48, 3) := by decide +kernel
theorem dX11_worstMirror_56 : decode cX11_worstMirror 56 = .ok (.getfield 283, 3) := by decide +kernel
theorem dX11_worstMirror_59 : decode cX11_worstMirror 59 = .ok (.iload_n 2, 1) := by decide +kernel
theorem dX11_worstMirror_60 : decode cX11_worstMirror 60 = .ok (.iaload, 1) := by decide +kernel
theorem dX11_worstMirror_61 : decode cX11_worstMirror 61 = .ok (.istore_n 3, 1) := by decide +kernel
theorem dX11_worstMirror_62 : decode cX11_worstMirror 62 = .ok (.aload_n 0, 1) := by decide +kernel
theorem dX11_worstMirror_63 : decode cX11_worstMirror 63 = .ok (.getfield 55, 3) := by decide +kernel
theorem dX11_worstMirror_66 : decode cX11_worstMirror 66 = .ok (.iload_n 3, 1) := by decide +kernel
theorem dX11_worstMirror_67 : decode cX11_worstMirror 67 = .ok (.iaload, 1) := by decide +kernel
theorem dX11_worstMirror_68 : decode cX11_worstMirror 68 = .ok (.aload_n 0, 1) := by decide +kernel
theorem dX11_worstMirror_69 : decode cX11_worstMirror 69 = .ok (.getfield 58, 3) := by decide +kernel
theorem dX11_worstMirror_72 : decode cX11_worstMirror 72 = .ok (.iload_n 3, 1) := by decide +kernel
theorem dX11_worstMirror_73 : decode cX11_worstMirror 73 = .ok (.iaload, 1) := by decide +kernel
theorem dX11_worstMirror_74 : decode cX11_worstMirror 74 = .ok (.isub, 1) := by decide +kernel
theorem dX11_worstMirror_75 : decode cX11_worstMirror 75 = .ok (.aload_n 0, 1) := by decide +kernel
theorem dX11_worstMirror_76 : decode cX11_worstMirror 76 = .ok (.getfield 55, 3) := by decide +kernel
theorem dX11_worstMirror_79 : decode cX11_worstMirror 79 = .ok (.iload_n 1, 1) := by decide +kernel
theorem dX11_worstMirror_80 : decode cX11_worstMirror 80 = .ok (.iaload, 1) := by decide +kernel
theorem dX11_worstMirror_81 : decode cX11_worstMirror 81 = .ok (.aload_n 0, 1) := by decide +kernel
theorem dX11_worstMirror_82 : decode cX11_worstMirror 82 = .ok (.getfield 58, 3) := by decide +kernel
theorem dX11_worstMirror_85 : decode cX11_worstMirror 85 = .ok (.iload_n 1, 1) := by decide +kernel
theorem dX11_worstMirror_86 : decode cX11_worstMirror 86 = .ok (.iaload, 1) := by decide +kernel
theorem dX11_worstMirror_87 : decode cX11_worstMirror 87 = .ok (.isub, 1) := by decide +kernel
theorem dX11_worstMirror_88 : decode cX11_worstMirror 88 = .ok (.if_icmp .le 5, 3) := by decide +kernel
theorem dX11_worstMirror_91 : decode cX11_worstMirror 91 = .ok (.iload_n 3, 1) := by decide +kernel
theorem dX11_worstMirror_92 : decode cX11_worstMirror 92 = .ok (.istore_n 1, 1) := by decide +kernel
theorem dX11_worstMirror_93 : decode cX11_worstMirror 93 = .ok (.iinc 2 1, 3) := by decide +kernel
theorem dX11_worstMirror_96 : decode cX11_worstMirror 96 = .ok (.goto (-55), 3) := by decide +kernel
theorem dX11_worstMirror_99 : decode cX11_worstMirror 99 = .ok (.iload_n 1, 1) := by decide +kernel
theorem dX11_worstMirror_100 : decode cX11_worstMirror 100 = .ok (.ireturn, 1) := by decide +kernel
theorem dX11_isMirror_0 : decode cX11_isMirror 0 = .ok (.iload_n 1, 1) := by decide +kernel
theorem dX11_isMirror_1 : decode cX11_isMirror 1 = .ok (.iconst 0, 1) := by decide +kernel
theorem dX11_isMirror_2 : decode cX11_isMirror 2 = .ok (.aload_n 0, 1) := by decide +kernel
theorem dX11_isMirror_3 : decode cX11_isMirror 3 = .ok (.getfield 35, 3) := by decide +kernel
theorem dX11_isMirror_6 : decode cX11_isMirror 6 = .ok (.getfield 149, 3) := by decide +kernel
theorem dX11_isMirror_9 : decode cX11_isMirror 9 = .ok (.iconst 1, 1) := by decide +kernel
theorem dX11_isMirror_10 : decode cX11_isMirror 10 = .ok (.isub, 1) := by decide +kernel
theorem dX11_isMirror_11 : decode cX11_isMirror 11 = .ok (.invokestatic 67, 3) := by decide +kernel
theorem dX11_isMirror_14 : decode cX11_isMirror 14 = .ok (.istore_n 2, 1) := by decide +kernel
theorem dX11_isMirror_15 : decode cX11_isMirror 15 = .ok (.aload_n 0, 1) := by decide +kernel
theorem dX11_isMirror_16 : decode cX11_isMirror 16 = .ok (.iload_n 2, 1) := by decide +kernel
theorem dX11_isMirror_17 : decode cX11_isMirror 17 = .ok (.ifCond .eq 7, 3) := by decide +kernel
theorem dX11_isMirror_20 : decode cX11_isMirror 20 = .ok (.iconst 0, 1) := by decide +kernel
theorem dX11_isMirror_21 : decode cX11_isMirror 21 = .ok (.goto 4, 3) := by decide +kernel
theorem dX11_isMirror_24 : decode cX11_isMirror 24 = .ok (.iconst 1, 1) := by decide +kernel
theorem dX11_isMirror_25 : decode cX11_isMirror 25 = .ok (.putfield 64, 3) := by decide +kernel
theorem dX11_isMirror_28 : decode cX11_isMirror 28 = .ok (.iload_n 2, 1) := by decide +kernel
theorem dX11_isMirror_29 : decode cX11_isMirror 29 = .ok (.ireturn, 1) := by decide +kernel
theorem dX11_clarityOf_0 : decode cX11_clarityOf 0 = .ok (.aload_n 0, 1) := by decide +kernel
theorem dX11_clarityOf_1 : decode cX11_clarityOf 1 = .ok (.iload_n 1, 1) := by decide +kernel
theorem dX11_clarityOf_2 : decode cX11_clarityOf 2 = .ok (.invokevirtual 349, 3) := by decide +kernel
theorem dX11_clarityOf_5 : decode cX11_clarityOf 5 = .ok (.ifCond .eq 15, 3) := by decide +kernel
theorem dX11_clarityOf_8 : decode cX11_clarityOf 8 = .ok (.aload_n 0, 1) := by decide +kernel
theorem dX11_clarityOf_9 : decode cX11_clarityOf 9 = .ok (.getfield 48, 3) := by decide +kernel
theorem dX11_clarityOf_12 : decode cX11_clarityOf 12 = .ok (.getfield 292, 3) := by decide +kernel
theorem dX11_clarityOf_15 : decode cX11_clarityOf 15 = .ok (.iload_n 1, 1) := by decide +kernel
theorem dX11_clarityOf_16 : decode cX11_clarityOf 16 = .ok (.iaload, 1) := by decide +kernel
theorem dX11_clarityOf_17 : decode cX11_clarityOf 17 = .ok (.goto 4, 3) := by decide +kernel
theorem dX11_clarityOf_20 : decode cX11_clarityOf 20 = .ok (.iconst 0, 1) := by decide +kernel
theorem dX11_clarityOf_21 : decode cX11_clarityOf 21 = .ok (.ireturn, 1) := by decide +kernel
theorem dX11_bestClarityOf_0 : decode cX11_bestClarityOf 0 = .ok (.aload_n 0, 1) := by decide +kernel
theorem dX11_bestClarityOf_1 : decode cX11_bestClarityOf 1 = .ok (.iload_n 1, 1) := by decide +kernel
theorem dX11_bestClarityOf_2 : decode cX11_bestClarityOf 2 = .ok (.invokevirtual 349, 3) := by decide +kernel
theorem dX11_bestClarityOf_5 : decode cX11_bestClarityOf 5 = .ok (.ifCond .eq 15, 3) := by decide +kernel
theorem dX11_bestClarityOf_8 : decode cX11_bestClarityOf 8 = .ok (.aload_n 0, 1) := by decide +kernel
theorem dX11_bestClarityOf_9 : decode cX11_bestClarityOf 9 = .ok (.getfield 48, 3) := by decide +kernel
theorem dX11_bestClarityOf_12 : decode cX11_bestClarityOf 12 = .ok (.getfield 314, 3) := by decide +kernel
theorem dX11_bestClarityOf_15 : decode cX11_bestClarityOf 15 = .ok (.iload_n 1, 1) := by decide +kernel
theorem dX11_bestClarityOf_16 : decode cX11_bestClarityOf 16 = .ok (.iaload, 1) := by decide +kernel
theorem dX11_bestClarityOf_17 : decode cX11_bestClarityOf 17 = .ok (.goto 4, 3) := by decide +kernel
theorem dX11_bestClarityOf_20 : decode cX11_bestClarityOf 20 = .ok (.iconst 0, 1) := by decide +kernel
theorem dX11_bestClarityOf_21 : decode cX11_bestClarityOf 21 = .ok (.ireturn, 1) := by decide +kernel
theorem dX11_offsetOf_0 : decode cX11_offsetOf 0 = .ok (.aload_n 0, 1) := by decide +kernel
theorem dX11_offsetOf_1 : decode cX11_offsetOf 1 = .ok (.iload_n 1, 1) := by decide +kernel
theorem dX11_offsetOf_2 : decode cX11_offsetOf 2 = .ok (.invokevirtual 349, 3) := by decide +kernel
theorem dX11_offsetOf_5 : decode cX11_offsetOf 5 = .ok (.ifCond .eq 15, 3) := by decide +kernel
theorem dX11_offsetOf_8 : decode cX11_offsetOf 8 = .ok (.aload_n 0, 1) := by decide +kernel
theorem dX11_offsetOf_9 : decode cX11_offsetOf 9 = .ok (.getfield 48, 3) := by decide +kernel
theorem dX11_offsetOf_12 : decode cX11_offsetOf 12 = .ok (.getfield 293, 3) := by decide +kernel
theorem dX11_offsetOf_15 : decode cX11_offsetOf 15 = .ok (.iload_n 1, 1) := by decide +kernel
theorem dX11_offsetOf_16 : decode cX11_offsetOf 16 = .ok (.iaload, 1) := by decide +kernel
theorem dX11_offsetOf_17 : decode cX11_offsetOf 17 = .ok (.goto 4, 3) := by decide +kernel
theorem dX11_offsetOf_20 : decode cX11_offsetOf 20 = .ok (.iconst 0, 1) := by decide +kernel
theorem dX11_offsetOf_21 : decode cX11_offsetOf 21 = .ok (.ireturn, 1) := by decide +kernel
theorem dX11_place_0 : decode cX11_place 0 = .ok (.iconst 0, 1) := by decide +kernel
theorem dX11_place_1 : decode cX11_place 1 = .ok (.istore_n 2, 1) := by decide +kernel
theorem dX11_place_2 : decode cX11_place 2 = .ok (.aload_n 0, 1) := by decide +kernel
theorem dX11_place_3 : decode cX11_place 3 = .ok (.getfield 48, 3) := by decide +kernel
theorem dX11_place_6 : decode cX11_place 6 = .ok (.getfield 283, 3) := by decide +kernel
theorem dX11_place_9 : decode cX11_place 9 = .ok (.iload_n 2, 1) := by decide +kernel
theorem dX11_place_10 : decode cX11_place 10 = .ok (.iaload, 1) := by decide +kernel
theorem dX11_place_11 : decode cX11_place 11 = .ok (.iload_n 1, 1) := by decide +kernel
theorem dX11_place_12 : decode cX11_place 12 = .ok (.if_icmp .eq 9, 3) := by decide +kernel
theorem dX11_place_15 : decode cX11_place 15 = .ok (.iinc 2 1, 3) := by decide +kernel
theorem dX11_place_18 : decode cX11_place 18 = .ok (.goto (-16), 3) := by decide +kernel
theorem dX11_place_21 : decode cX11_place 21 = .ok (.iload_n 2, 1) := by decide +kernel
theorem dX11_place_22 : decode cX11_place 22 = .ok (.ireturn, 1) := by decide +kernel
theorem dX11_placeOf_0 : decode cX11_placeOf 0 = .ok (.aload_n 0, 1) := by decide +kernel
theorem dX11_placeOf_1 : decode cX11_placeOf 1 = .ok (.iload_n 1, 1) := by decide +kernel
theorem dX11_placeOf_2 : decode cX11_placeOf 2 = .ok (.invokevirtual 349, 3) := by decide +kernel
theorem dX11_placeOf_5 : decode cX11_placeOf 5 = .ok (.ifCond .eq 11, 3) := by decide +kernel
theorem dX11_placeOf_8 : decode cX11_placeOf 8 = .ok (.aload_n 0, 1) := by decide +kernel
theorem dX11_placeOf_9 : decode cX11_placeOf 9 = .ok (.iload_n 1, 1) := by decide +kernel
theorem dX11_placeOf_10 : decode cX11_placeOf 10 = .ok (.invokevirtual 352, 3) := by decide +kernel
theorem dX11_placeOf_13 : decode cX11_placeOf 13 = .ok (.goto 4, 3) := by decide +kernel
theorem dX11_placeOf_16 : decode cX11_placeOf 16 = .ok (.iconst 0, 1) := by decide +kernel
theorem dX11_placeOf_17 : decode cX11_placeOf 17 = .ok (.ireturn, 1) := by decide +kernel
theorem dX11_lightBehind_0 : decode cX11_lightBehind 0 = .ok (.aload_n 0, 1) := by decide +kernel
theorem dX11_lightBehind_1 : decode cX11_lightBehind 1 = .ok (.aload_n 0, 1) := by decide +kernel
theorem dX11_lightBehind_2 : decode cX11_lightBehind 2 = .ok (.getfield 48, 3) := by decide +kernel
theorem dX11_lightBehind_5 : decode cX11_lightBehind 5 = .ok (.invokevirtual 300, 3) := by decide +kernel
theorem dX11_lightBehind_8 : decode cX11_lightBehind 8 = .ok (.aload_n 0, 1) := by decide +kernel
theorem dX11_lightBehind_9 : decode cX11_lightBehind 9 = .ok (.iload_n 1, 1) := by decide +kernel
theorem dX11_lightBehind_10 : decode cX11_lightBehind 10 = .ok (.invokevirtual 349, 3) := by decide +kernel
theorem dX11_lightBehind_13 : decode cX11_lightBehind 13 = .ok (.ifCond .eq 12, 3) := by decide +kernel
theorem dX11_lightBehind_16 : decode cX11_lightBehind 16 = .ok (.aload_n 0, 1) := by decide +kernel
theorem dX11_lightBehind_17 : decode cX11_lightBehind 17 = .ok (.getfield 58, 3) := by decide +kernel
theorem dX11_lightBehind_20 : decode cX11_lightBehind 20 = .ok (.iload_n 1, 1) := by decide +kernel
theorem dX11_lightBehind_21 : decode cX11_lightBehind 21 = .ok (.iaload, 1) := by decide +kernel
theorem dX11_lightBehind_22 : decode cX11_lightBehind 22 = .ok (.goto 4, 3) := by decide +kernel
theorem dX11_lightBehind_25 : decode cX11_lightBehind 25 = .ok (.iconst 0, 1) := by decide +kernel
theorem dX11_lightBehind_26 : decode cX11_lightBehind 26 = .ok (.ireturn, 1) := by decide +kernel
theorem dX11_lostAt_0 : decode cX11_lostAt 0 = .ok (.aload_n 0, 1) := by decide +kernel
theorem dX11_lostAt_1 : decode cX11_lostAt 1 = .ok (.aload_n 0, 1) := by decide +kernel
theorem dX11_lostAt_2 : decode cX11_lostAt 2 = .ok (.getfield 48, 3) := by decide +kernel
theorem dX11_lostAt_5 : decode cX11_lostAt 5 = .ok (.invokevirtual 300, 3) := by decide +kernel
theorem dX11_lostAt_8 : decode cX11_lostAt 8 = .ok (.aload_n 0, 1) := by decide +kernel
theorem dX11_lostAt_9 : decode cX11_lostAt 9 = .ok (.iload_n 1, 1) := by decide +kernel
theorem dX11_lostAt_10 : decode cX11_lostAt 10 = .ok (.invokevirtual 349, 3) := by decide +kernel
theorem dX11_lostAt_13 : decode cX11_lostAt 13 = .ok (.ifCond .eq 19, 3) := by decide +kernel
theorem dX11_lostAt_16 : decode cX11_lostAt 16 = .ok (.aload_n 0, 1) := by decide +kernel
theorem dX11_lostAt_17 : decode cX11_lostAt 17 = .ok (.getfield 55, 3) := by decide +kernel
theorem dX11_lostAt_20 : decode cX11_lostAt 20 = .ok (.iload_n 1, 1) := by decide +kernel
theorem dX11_lostAt_21 : decode cX11_lostAt 21 = .ok (.iaload, 1) := by decide +kernel
theorem dX11_lostAt_22 : decode cX11_lostAt 22 = .ok (.aload_n 0, 1) := by decide +kernel
theorem dX11_lostAt_23 : decode cX11_lostAt 23 = .ok (.getfield 58, 3) := by decide +kernel
theorem dX11_lostAt_26 : decode cX11_lostAt 26 = .ok (.iload_n 1, 1) := by decide +kernel
theorem dX11_lostAt_27 : decode cX11_lostAt 27 = .ok (.iaload, 1) := by decide +kernel
theorem dX11_lostAt_28 : decode cX11_lostAt 28 = .ok (.isub, 1) := by decide +kernel
theorem dX11_lostAt_29 : decode cX11_lostAt 29 = .ok (.goto 4, 3) := by decide +kernel
theorem dX11_lostAt_32 : decode cX11_lostAt 32 = .ok (.iconst 0, 1) := by decide +kernel
theorem dX11_lostAt_33 : decode cX11_lostAt 33 = .ok (.ireturn, 1) := by decide +kernel
theorem dX11_tiltBehind_0 : decode cX11_tiltBehind 0 = .ok (.aload_n 0, 1) := by decide +kernel
theorem dX11_tiltBehind_1 : decode cX11_tiltBehind 1 = .ok (.aload_n 0, 1) := by decide +kernel
theorem dX11_tiltBehind_2 : decode cX11_tiltBehind 2 = .ok (.getfield 48, 3) := by decide +kernel
theorem dX11_tiltBehind_5 : decode cX11_tiltBehind 5 = .ok (.invokevirtual 300, 3) := by decide +kernel
theorem dX11_tiltBehind_8 : decode cX11_tiltBehind 8 = .ok (.aload_n 0, 1) := by decide +kernel
theorem dX11_tiltBehind_9 : decode cX11_tiltBehind 9 = .ok (.iload_n 1, 1) := by decide +kernel
theorem dX11_tiltBehind_10 : decode cX11_tiltBehind 10 = .ok (.invokevirtual 349, 3) := by decide +kernel
theorem dX11_tiltBehind_13 : decode cX11_tiltBehind 13 = .ok (.ifCond .eq 12, 3) := by decide +kernel
theorem dX11_tiltBehind_16 : decode cX11_tiltBehind 16 = .ok (.aload_n 0, 1) := by decide +kernel
theorem dX11_tiltBehind_17 : decode cX11_tiltBehind 17 = .ok (.getfield 61, 3) := by decide +kernel
theorem dX11_tiltBehind_20 : decode cX11_tiltBehind 20 = .ok (.iload_n 1, 1) := by decide +kernel
theorem dX11_tiltBehind_21 : decode cX11_tiltBehind 21 = .ok (.iaload, 1) := by decide +kernel
theorem dX11_tiltBehind_22 : decode cX11_tiltBehind 22 = .ok (.goto 4, 3) := by decide +kernel
theorem dX11_tiltBehind_25 : decode cX11_tiltBehind 25 = .ok (.iconst 0, 1) := by decide +kernel
theorem dX11_tiltBehind_26 : decode cX11_tiltBehind 26 = .ok (.ireturn, 1) := by decide +kernel
theorem dX11_isCovered_0 : decode cX11_isCovered 0 = .ok (.aload_n 0, 1) := by decide +kernel
theorem dX11_isCovered_1 : decode cX11_isCovered 1 = .ok (.iload_n 1, 1) := by decide +kernel
theorem dX11_isCovered_2 : decode cX11_isCovered 2 = .ok (.invokevirtual 349, 3) := by decide +kernel
theorem dX11_isCovered_5 : decode cX11_isCovered 5 = .ok (.ifCond .eq 18, 3) := by decide +kernel
theorem dX11_isCovered_8 : decode cX11_isCovered 8 = .ok (.aload_n 0, 1) := by decide +kernel
theorem dX11_isCovered_9 : decode cX11_isCovered 9 = .ok (.getfield 48, 3) := by decide +kernel
theorem dX11_isCovered_12 : decode cX11_isCovered 12 = .ok (.iload_n 1, 1) := by decide +kernel
theorem dX11_isCovered_13 : decode cX11_isCovered 13 = .ok (.invokevirtual 289, 3) := by decide +kernel
theorem dX11_isCovered_16 : decode cX11_isCovered 16 = .ok (.ifCond .eq 7, 3) := by decide +kernel
theorem dX11_isCovered_19 : decode cX11_isCovered 19 = .ok (.iconst 1, 1) := by decide +kernel
theorem dX11_isCovered_20 : decode cX11_isCovered 20 = .ok (.goto 4, 3) := by decide +kernel
theorem dX11_isCovered_23 : decode cX11_isCovered 23 = .ok (.iconst 0, 1) := by decide +kernel
theorem dX11_isCovered_24 : decode cX11_isCovered 24 = .ok (.ireturn, 1) := by decide +kernel
theorem dX11_mirrorAt_0 : decode cX11_mirrorAt 0 = .ok (.aload_n 0, 1) := by decide +kernel
theorem dX11_mirrorAt_1 : decode cX11_mirrorAt 1 = .ok (.iload_n 1, 1) := by decide +kernel
theorem dX11_mirrorAt_2 : decode cX11_mirrorAt 2 = .ok (.invokevirtual 349, 3) := by decide +kernel
theorem dX11_mirrorAt_5 : decode cX11_mirrorAt 5 = .ok (.ifCond .eq 15, 3) := by decide +kernel
theorem dX11_mirrorAt_8 : decode cX11_mirrorAt 8 = .ok (.aload_n 0, 1) := by decide +kernel
theorem dX11_mirrorAt_9 : decode cX11_mirrorAt 9 = .ok (.getfield 48, 3) := by decide +kernel
theorem dX11_mirrorAt_12 : decode cX11_mirrorAt 12 = .ok (.getfield 283, 3) := by decide +kernel
theorem dX11_mirrorAt_15 : decode cX11_mirrorAt 15 = .ok (.iload_n 1, 1) := by decide +kernel
theorem dX11_mirrorAt_16 : decode cX11_mirrorAt 16 = .ok (.iaload, 1) := by decide +kernel
theorem dX11_mirrorAt_17 : decode cX11_mirrorAt 17 = .ok (.goto 4, 3) := by decide +kernel
theorem dX11_mirrorAt_20 : decode cX11_mirrorAt 20 = .ok (.iconst 0, 1) := by decide +kernel
theorem dX11_mirrorAt_21 : decode cX11_mirrorAt 21 = .ok (.ireturn, 1) := by decide +kernel
theorem dX11_isJob_0 : decode cX11_isJob 0 = .ok (.iload_n 1, 1) := by decide +kernel
theorem dX11_isJob_1 : decode cX11_isJob 1 = .ok (.iconst 0, 1) := by decide +kernel
theorem dX11_isJob_2 : decode cX11_isJob 2 = .ok (.aload_n 0, 1) := by decide +kernel
theorem dX11_isJob_3 : decode cX11_isJob 3 = .ok (.getfield 48, 3) := by decide +kernel
theorem dX11_isJob_6 : decode cX11_isJob 6 = .ok (.getfield 311, 3) := by decide +kernel
theorem dX11_isJob_9 : decode cX11_isJob 9 = .ok (.iconst 1, 1) := by decide +kernel
theorem dX11_isJob_10 : decode cX11_isJob 10 = .ok (.isub, 1) := by decide +kernel
theorem dX11_isJob_11 : decode cX11_isJob 11 = .ok (.invokestatic 67, 3) := by decide +kernel
theorem dX11_isJob_14 : decode cX11_isJob 14 = .ok (.istore_n 2, 1) := by decide +kernel
theorem dX11_isJob_15 : decode cX11_isJob 15 = .ok (.aload_n 0, 1) := by decide +kernel
theorem dX11_isJob_16 : decode cX11_isJob 16 = .ok (.iload_n 2, 1) := by decide +kernel
theorem dX11_isJob_17 : decode cX11_isJob 17 = .ok (.ifCond .eq 7, 3) := by decide +kernel
theorem dX11_isJob_20 : decode cX11_isJob 20 = .ok (.iconst 0, 1) := by decide +kernel
theorem dX11_isJob_21 : decode cX11_isJob 21 = .ok (.goto 4, 3) := by decide +kernel
theorem dX11_isJob_24 : decode cX11_isJob 24 = .ok (.iconst 1, 1) := by decide +kernel
theorem dX11_isJob_25 : decode cX11_isJob 25 = .ok (.putfield 64, 3) := by decide +kernel
theorem dX11_isJob_28 : decode cX11_isJob 28 = .ok (.iload_n 2, 1) := by decide +kernel
theorem dX11_isJob_29 : decode cX11_isJob 29 = .ok (.ireturn, 1) := by decide +kernel
theorem dX11_jobs_0 : decode cX11_jobs 0 = .ok (.aload_n 0, 1) := by decide +kernel
theorem dX11_jobs_1 : decode cX11_jobs 1 = .ok (.aload_n 0, 1) := by decide +kernel
theorem dX11_jobs_2 : decode cX11_jobs 2 = .ok (.getfield 48, 3) := by decide +kernel
theorem dX11_jobs_5 : decode cX11_jobs 5 = .ok (.getfield 311, 3) := by decide +kernel
theorem dX11_jobs_8 : decode cX11_jobs 8 = .ok (.invokevirtual 280, 3) := by decide +kernel
theorem dX11_jobs_11 : decode cX11_jobs 11 = .ok (.ireturn, 1) := by decide +kernel
theorem dX11_jobsDone_0 : decode cX11_jobsDone 0 = .ok (.aload_n 0, 1) := by decide +kernel
theorem dX11_jobsDone_1 : decode cX11_jobsDone 1 = .ok (.aload_n 0, 1) := by decide +kernel
theorem dX11_jobsDone_2 : decode cX11_jobsDone 2 = .ok (.getfield 48, 3) := by decide +kernel
theorem dX11_jobsDone_5 : decode cX11_jobsDone 5 = .ok (.getfield 355, 3) := by decide +kernel
theorem dX11_jobsDone_8 : decode cX11_jobsDone 8 = .ok (.invokevirtual 280, 3) := by decide +kernel
theorem dX11_jobsDone_11 : decode cX11_jobsDone 11 = .ok (.ireturn, 1) := by decide +kernel
theorem dX11_kindOfJob_0 : decode cX11_kindOfJob 0 = .ok (.aload_n 0, 1) := by decide +kernel
theorem dX11_kindOfJob_1 : decode cX11_kindOfJob 1 = .ok (.iload_n 1, 1) := by decide +kernel
theorem dX11_kindOfJob_2 : decode cX11_kindOfJob 2 = .ok (.invokevirtual 358, 3) := by decide +kernel
theorem dX11_kindOfJob_5 : decode cX11_kindOfJob 5 = .ok (.ifCond .eq 15, 3) := by decide +kernel
theorem dX11_kindOfJob_8 : decode cX11_kindOfJob 8 = .ok (.aload_n 0, 1) := by decide +kernel
theorem dX11_kindOfJob_9 : decode cX11_kindOfJob 9 = .ok (.getfield 48, 3) := by decide +kernel
theorem dX11_kindOfJob_12 : decode cX11_kindOfJob 12 = .ok (.getfield 361, 3) := by decide +kernel
theorem dX11_kindOfJob_15 : decode cX11_kindOfJob 15 = .ok (.iload_n 1, 1) := by decide +kernel
theorem dX11_kindOfJob_16 : decode cX11_kindOfJob 16 = .ok (.iaload, 1) := by decide +kernel
theorem dX11_kindOfJob_17 : decode cX11_kindOfJob 17 = .ok (.goto 4, 3) := by decide +kernel
theorem dX11_kindOfJob_20 : decode cX11_kindOfJob 20 = .ok (.iconst 0, 1) := by decide +kernel
theorem dX11_kindOfJob_21 : decode cX11_kindOfJob 21 = .ok (.ireturn, 1) := by decide +kernel
theorem dX11_mirrorOfJob_0 : decode cX11_mirrorOfJob 0 = .ok (.aload_n 0, 1) := by decide +kernel
theorem dX11_mirrorOfJob_1 : decode cX11_mirrorOfJob 1 = .ok (.iload_n 1, 1) := by decide +kernel
theorem dX11_mirrorOfJob_2 : decode cX11_mirrorOfJob 2 = .ok (.invokevirtual 358, 3) := by decide +kernel
theorem dX11_mirrorOfJob_5 : decode cX11_mirrorOfJob 5 = .ok (.ifCond .eq 15, 3) := by decide +kernel
theorem dX11_mirrorOfJob_8 : decode cX11_mirrorOfJob 8 = .ok (.aload_n 0, 1) := by decide +kernel
theorem dX11_mirrorOfJob_9 : decode cX11_mirrorOfJob 9 = .ok (.getfield 48, 3) := by decide +kernel
theorem dX11_mirrorOfJob_12 : decode cX11_mirrorOfJob 12 = .ok (.getfield 364, 3) := by decide +kernel
theorem dX11_mirrorOfJob_15 : decode cX11_mirrorOfJob 15 = .ok (.iload_n 1, 1) := by decide +kernel
theorem dX11_mirrorOfJob_16 : decode cX11_mirrorOfJob 16 = .ok (.iaload, 1) := by decide +kernel
theorem dX11_mirrorOfJob_17 : decode cX11_mirrorOfJob 17 = .ok (.goto 4, 3) := by decide +kernel
theorem dX11_mirrorOfJob_20 : decode cX11_mirrorOfJob 20 = .ok (.iconst 0, 1) := by decide +kernel
theorem dX11_mirrorOfJob_21 : decode cX11_mirrorOfJob 21 = .ok (.ireturn, 1) := by decide +kernel
theorem dX11_minutesToGo_0 : decode cX11_minutesToGo 0 = .ok (.aload_n 0, 1) := by decide +kernel
theorem dX11_minutesToGo_1 : decode cX11_minutesToGo 1 = .ok (.aload_n 0, 1) := by decide +kernel
theorem dX11_minutesToGo_2 : decode cX11_minutesToGo 2 = .ok (.getfield 48, 3) := by decide +kernel
theorem dX11_minutesToGo_5 : decode cX11_minutesToGo 5 = .ok (.getfield 367, 3) := by decide +kernel
theorem dX11_minutesToGo_8 : decode cX11_minutesToGo 8 = .ok (.invokevirtual 280, 3) := by decide +kernel
theorem dX11_minutesToGo_11 : decode cX11_minutesToGo 11 = .ok (.ireturn, 1) := by decide +kernel
theorem dX11_orderJob_0 : decode cX11_orderJob 0 = .ok (.aload_n 0, 1) := by decide +kernel
theorem dX11_orderJob_1 : decode cX11_orderJob 1 = .ok (.iload_n 1, 1) := by decide +kernel
theorem dX11_orderJob_2 : decode cX11_orderJob 2 = .ok (.invokevirtual 349, 3) := by decide +kernel
theorem dX11_orderJob_5 : decode cX11_orderJob 5 = .ok (.ifCond .ne 5, 3) := by decide +kernel
theorem dX11_orderJob_8 : decode cX11_orderJob 8 = .ok (.iconst 0, 1) := by decide +kernel
theorem dX11_orderJob_9 : decode cX11_orderJob 9 = .ok (.ireturn, 1) := by decide +kernel
theorem dX11_orderJob_10 : decode cX11_orderJob 10 = .ok (.iload_n 2, 1) := by decide +kernel
theorem dX11_orderJob_11 : decode cX11_orderJob 11 = .ok (.iconst 0, 1) := by decide +kernel
theorem dX11_orderJob_12 : decode cX11_orderJob 12 = .ok (.iconst 2, 1) := by decide +kernel
theorem dX11_orderJob_13 : decode cX11_orderJob 13 = .ok (.invokestatic 67, 3) := by decide +kernel
theorem dX11_orderJob_16 : decode cX11_orderJob 16 = .ok (.ifCond .ne 9, 3) := by decide +kernel
theorem dX11_orderJob_19 : decode cX11_orderJob 19 = .ok (.aload_n 0, 1) := by decide +kernel
theorem dX11_orderJob_20 : decode cX11_orderJob 20 = .ok (.iconst 2, 1) := by decide +kernel
theorem dX11_orderJob_21 : decode cX11_orderJob 21 = .ok (.invokevirtual 262, 3) := by decide +kernel
theorem dX11_orderJob_24 : decode cX11_orderJob 24 = .ok (.ireturn, 1) := by decide +kernel
theorem dX11_orderJob_25 : decode cX11_orderJob 25 = .ok (.aload_n 0, 1) := by decide +kernel
theorem dX11_orderJob_26 : decode cX11_orderJob 26 = .ok (.getfield 48, 3) := by decide +kernel
theorem dX11_orderJob_29 : decode cX11_orderJob 29 = .ok (.iload_n 2, 1) := by decide +kernel
theorem dX11_orderJob_30 : decode cX11_orderJob 30 = .ok (.iload_n 1, 1) := by decide +kernel
theorem dX11_orderJob_31 : decode cX11_orderJob 31 = .ok (.invokevirtual 340, 3) := by decide +kernel
theorem dX11_orderJob_34 : decode cX11_orderJob 34 = .ok (.ifCond .eq 13, 3) := by decide +kernel
theorem dX11_orderJob_37 : decode cX11_orderJob 37 = .ok (.aload_n 0, 1) := by decide +kernel
theorem dX11_orderJob_38 : decode cX11_orderJob 38 = .ok (.getfield 48, 3) := by decide +kernel
theorem dX11_orderJob_41 : decode cX11_orderJob 41 = .ok (.getfield 311, 3) := by decide +kernel
theorem dX11_orderJob_44 : decode cX11_orderJob 44 = .ok (.goto 8, 3) := by decide +kernel
theorem dX11_orderJob_47 : decode cX11_orderJob 47 = .ok (.aload_n 0, 1) := by decide +kernel
theorem dX11_orderJob_48 : decode cX11_orderJob 48 = .ok (.iconst 3, 1) := by decide +kernel
theorem dX11_orderJob_49 : decode cX11_orderJob 49 = .ok (.invokevirtual 262, 3) := by decide +kernel
theorem dX11_orderJob_52 : decode cX11_orderJob 52 = .ok (.ireturn, 1) := by decide +kernel
theorem dX11_cancelJob_0 : decode cX11_cancelJob 0 = .ok (.aload_n 0, 1) := by decide +kernel
theorem dX11_cancelJob_1 : decode cX11_cancelJob 1 = .ok (.iload_n 1, 1) := by decide +kernel
theorem dX11_cancelJob_2 : decode cX11_cancelJob 2 = .ok (.invokevirtual 358, 3) := by decide +kernel
theorem dX11_cancelJob_5 : decode cX11_cancelJob 5 = .ok (.ifCond .eq 14, 3) := by decide +kernel
theorem dX11_cancelJob_8 : decode cX11_cancelJob 8 = .ok (.aload_n 0, 1) := by decide +kernel
theorem dX11_cancelJob_9 : decode cX11_cancelJob 9 = .ok (.getfield 48, 3) := by decide +kernel
theorem dX11_cancelJob_12 : decode cX11_cancelJob 12 = .ok (.iload_n 1, 1) := by decide +kernel
theorem dX11_cancelJob_13 : decode cX11_cancelJob 13 = .ok (.invokevirtual 370, 3) := by decide +kernel
theorem dX11_cancelJob_16 : decode cX11_cancelJob 16 = .ok (.goto 4, 3) := by decide +kernel
theorem dX11_cancelJob_19 : decode cX11_cancelJob 19 = .ok (.iconst 0, 1) := by decide +kernel
theorem dX11_cancelJob_20 : decode cX11_cancelJob 20 = .ok (.ireturn, 1) := by decide +kernel
theorem dX11_turnMirror_0 : decode cX11_turnMirror 0 = .ok (.aload_n 0, 1) := by decide +kernel
theorem dX11_turnMirror_1 : decode cX11_turnMirror 1 = .ok (.iload_n 1, 1) := by decide +kernel
theorem dX11_turnMirror_2 : decode cX11_turnMirror 2 = .ok (.invokevirtual 349, 3) := by decide +kernel
theorem dX11_turnMirror_5 : decode cX11_turnMirror 5 = .ok (.ifCond .ne 5, 3) := by decide +kernel
theorem dX11_turnMirror_8 : decode cX11_turnMirror 8 = .ok (.iconst 0, 1) := by decide +kernel
theorem dX11_turnMirror_9 : decode cX11_turnMirror 9 = .ok (.ireturn, 1) := by decide +kernel
theorem dX11_turnMirror_10 : decode cX11_turnMirror 10 = .ok (.iload_n 2, 1) := by decide +kernel
theorem dX11_turnMirror_11 : decode cX11_turnMirror 11 = .ok (.bipush (-90), 2) := by decide +kernel
theorem dX11_turnMirror_13 : decode cX11_turnMirror 13 = .ok (.bipush 90, 2) := by decide +kernel
theorem dX11_turnMirror_15 : decode cX11_turnMirror 15 = .ok (.invokestatic 67, 3) := by decide +kernel
theorem dX11_turnMirror_18 : decode cX11_turnMirror 18 = .ok (.ifCond .ne 9, 3) := by decide +kernel
theorem dX11_turnMirror_21 : decode cX11_turnMirror 21 = .ok (.aload_n 0, 1) := by decide +kernel
theorem dX11_turnMirror_22 : decode cX11_turnMirror 22 = .ok (.iconst 2, 1) := by decide +kernel
theorem dX11_turnMirror_23 : decode cX11_turnMirror 23 = .ok (.invokevirtual 262, 3) := by decide +kernel
theorem dX11_turnMirror_26 : decode cX11_turnMirror 26 = .ok (.ireturn, 1) := by decide +kernel
theorem dX11_turnMirror_27 : decode cX11_turnMirror 27 = .ok (.aload_n 0, 1) := by decide +kernel
theorem dX11_turnMirror_28 : decode cX11_turnMirror 28 = .ok (.getfield 48, 3) := by decide +kernel
theorem dX11_turnMirror_31 : decode cX11_turnMirror 31 = .ok (.getfield 293, 3) := by decide +kernel
theorem dX11_turnMirror_34 : decode cX11_turnMirror 34 = .ok (.iload_n 1, 1) := by decide +kernel
theorem dX11_turnMirror_35 : decode cX11_turnMirror 35 = .ok (.iaload, 1) := by decide +kernel
theorem dX11_turnMirror_36 : decode cX11_turnMirror 36 = .ok (.istore_n 3, 1) := by decide +kernel
theorem dX11_turnMirror_37 : decode cX11_turnMirror 37 = .ok (.aload_n 0, 1) := by decide +kernel
theorem dX11_turnMirror_38 : decode cX11_turnMirror 38 = .ok (.getfield 48, 3) := by decide +kernel
theorem dX11_turnMirror_41 : decode cX11_turnMirror 41 = .ok (.getfield 293, 3) := by decide +kernel
theorem dX11_turnMirror_44 : decode cX11_turnMirror 44 = .ok (.iload_n 1, 1) := by decide +kernel
theorem dX11_turnMirror_45 : decode cX11_turnMirror 45 = .ok (.iload_n 2, 1) := by decide +kernel
theorem dX11_turnMirror_46 : decode cX11_turnMirror 46 = .ok (.iastore, 1) := by decide +kernel
theorem dX11_turnMirror_47 : decode cX11_turnMirror 47 = .ok (.iload_n 3, 1) := by decide +kernel
theorem dX11_turnMirror_48 : decode cX11_turnMirror 48 = .ok (.ireturn, 1) := by decide +kernel
theorem dX11_dustMirror_0 : decode cX11_dustMirror 0 = .ok (.aload_n 0, 1) := by decide +kernel
theorem dX11_dustMirror_1 : decode cX11_dustMirror 1 = .ok (.iload_n 1, 1) := by decide +kernel
theorem dX11_dustMirror_2 : decode cX11_dustMirror 2 = .ok (.invokevirtual 349, 3) := by decide +kernel
theorem dX11_dustMirror_5 : decode cX11_dustMirror 5 = .ok (.ifCond .ne 5, 3) := by decide +kernel
theorem dX11_dustMirror_8 : decode cX11_dustMirror 8 = .ok (.iconst 0, 1) := by decide +kernel
theorem dX11_dustMirror_9 : decode cX11_dustMirror 9 = .ok (.ireturn, 1) := by decide +kernel
theorem dX11_dustMirror_10 : decode cX11_dustMirror 10 = .ok (.iload_n 2, 1) := by decide +kernel
theorem dX11_dustMirror_11 : decode cX11_dustMirror 11 = .ok (.iconst 0, 1) := by decide +kernel
theorem dX11_dustMirror_12 : decode cX11_dustMirror 12 = .ok (.bipush 100, 2) := by decide +kernel
theorem dX11_dustMirror_14 : decode cX11_dustMirror 14 = .ok (.invokestatic 67, 3) := by decide +kernel
theorem dX11_dustMirror_17 : decode cX11_dustMirror 17 = .ok (.ifCond .ne 9, 3) := by decide +kernel
theorem dX11_dustMirror_20 : decode cX11_dustMirror 20 = .ok (.aload_n 0, 1) := by decide +kernel
theorem dX11_dustMirror_21 : decode cX11_dustMirror 21 = .ok (.iconst 2, 1) := by decide +kernel
theorem dX11_dustMirror_22 : decode cX11_dustMirror 22 = .ok (.invokevirtual 262, 3) := by decide +kernel
theorem dX11_dustMirror_25 : decode cX11_dustMirror 25 = .ok (.ireturn, 1) := by decide +kernel
theorem dX11_dustMirror_26 : decode cX11_dustMirror 26 = .ok (.aload_n 0, 1) := by decide +kernel
theorem dX11_dustMirror_27 : decode cX11_dustMirror 27 = .ok (.getfield 48, 3) := by decide +kernel
theorem dX11_dustMirror_30 : decode cX11_dustMirror 30 = .ok (.getfield 292, 3) := by decide +kernel
theorem dX11_dustMirror_33 : decode cX11_dustMirror 33 = .ok (.iload_n 1, 1) := by decide +kernel
theorem dX11_dustMirror_34 : decode cX11_dustMirror 34 = .ok (.iconst 0, 1) := by decide +kernel
theorem dX11_dustMirror_35 : decode cX11_dustMirror 35 = .ok (.aload_n 0, 1) := by decide +kernel
theorem dX11_dustMirror_36 : decode cX11_dustMirror 36 = .ok (.getfield 48, 3) := by decide +kernel
theorem dX11_dustMirror_39 : decode cX11_dustMirror 39 = .ok (.getfield 292, 3) := by decide +kernel
theorem dX11_dustMirror_42 : decode cX11_dustMirror 42 = .ok (.iload_n 1, 1) := by decide +kernel
theorem dX11_dustMirror_43 : decode cX11_dustMirror 43 = .ok (.iaload, 1) := by decide +kernel
theorem dX11_dustMirror_44 : decode cX11_dustMirror 44 = .ok (.iload_n 2, 1) := by decide +kernel
theorem dX11_dustMirror_45 : decode cX11_dustMirror 45 = .ok (.isub, 1) := by decide +kernel
theorem dX11_dustMirror_46 : decode cX11_dustMirror 46 = .ok (.invokestatic 166, 3) := by decide +kernel
theorem dX11_dustMirror_49 : decode cX11_dustMirror 49 = .ok (.iastore, 1) := by decide +kernel
theorem dX11_dustMirror_50 : decode cX11_dustMirror 50 = .ok (.aload_n 0, 1) := by decide +kernel
theorem dX11_dustMirror_51 : decode cX11_dustMirror 51 = .ok (.getfield 48, 3) := by decide +kernel
theorem dX11_dustMirror_54 : decode cX11_dustMirror 54 = .ok (.getfield 292, 3) := by decide +kernel
theorem dX11_dustMirror_57 : decode cX11_dustMirror 57 = .ok (.iload_n 1, 1) := by decide +kernel
theorem dX11_dustMirror_58 : decode cX11_dustMirror 58 = .ok (.iaload, 1) := by decide +kernel
theorem dX11_dustMirror_59 : decode cX11_dustMirror 59 = .ok (.ireturn, 1) := by decide +kernel
theorem dX11_moveMirror_0 : decode cX11_moveMirror 0 = .ok (.aload_n 0, 1) := by decide +kernel
theorem dX11_moveMirror_1 : decode cX11_moveMirror 1 = .ok (.iload_n 1, 1) := by decide +kernel
theorem dX11_moveMirror_2 : decode cX11_moveMirror 2 = .ok (.invokevirtual 349, 3) := by decide +kernel
theorem dX11_moveMirror_5 : decode cX11_moveMirror 5 = .ok (.ifCond .eq 11, 3) := by decide +kernel
theorem dX11_moveMirror_8 : decode cX11_moveMirror 8 = .ok (.aload_n 0, 1) := by decide +kernel
theorem dX11_moveMirror_9 : decode cX11_moveMirror 9 = .ok (.iload_n 2, 1) := by decide +kernel
theorem dX11_moveMirror_10 : decode cX11_moveMirror 10 = .ok (.invokevirtual 349, 3) := by decide +kernel
theorem dX11_moveMirror_13 : decode cX11_moveMirror 13 = .ok (.ifCond .ne 5, 3) := by decide +kernel
theorem dX11_moveMirror_16 : decode cX11_moveMirror 16 = .ok (.iconst 0, 1) := by decide +kernel
theorem dX11_moveMirror_17 : decode cX11_moveMirror 17 = .ok (.ireturn, 1) := by decide +kernel
theorem dX11_moveMirror_18 : decode cX11_moveMirror 18 = .ok (.aload_n 0, 1) := by decide +kernel
theorem dX11_moveMirror_19 : decode cX11_moveMirror 19 = .ok (.iload_n 1, 1) := by decide +kernel
theorem dX11_moveMirror_20 : decode cX11_moveMirror 20 = .ok (.invokevirtual 352, 3) := by decide +kernel
theorem dX11_moveMirror_23 : decode cX11_moveMirror 23 = .ok (.istore_n 3, 1) := by decide +kernel
theorem dX11_moveMirror_24 : decode cX11_moveMirror 24 = .ok (.iload_n 3, 1) := by decide +kernel
theorem dX11_moveMirror_25 : decode cX11_moveMirror 25 = .ok (.iload_n 2, 1) := by decide +kernel
theorem dX11_moveMirror_26 : decode cX11_moveMirror 26 = .ok (.if_icmp .ge 7, 3) := by decide +kernel
theorem dX11_moveMirror_29 : decode cX11_moveMirror 29 = .ok (.iconst 1, 1) := by decide +kernel
theorem dX11_moveMirror_30 : decode cX11_moveMirror 30 = .ok (.goto 4, 3) := by decide +kernel
theorem dX11_moveMirror_33 : decode cX11_moveMirror 33 = .ok (.iconst (-1), 1) := by decide +kernel
theorem dX11_moveMirror_34 : decode cX11_moveMirror 34 = .ok (.istore 4, 2) := by decide +kernel
theorem dX11_moveMirror_36 : decode cX11_moveMirror 36 = .ok (.iload_n 3, 1) := by decide +kernel
theorem dX11_moveMirror_37 : decode cX11_moveMirror 37 = .ok (.istore 5, 2) := by decide +kernel
theorem dX11_moveMirror_39 : decode cX11_moveMirror 39 = .ok (.iload 5, 2) := by decide +kernel
theorem dX11_moveMirror_41 : decode cX11_moveMirror 41 = .ok (.iload_n 2, 1) := by decide +kernel
theorem dX11_moveMirror_42 : decode cX11_moveMirror 42 = .ok (.if_icmp .eq 36, 3) := by decide +kernel
theorem dX11_moveMirror_45 : decode cX11_moveMirror 45 = .ok (.aload_n 0, 1) := by decide +kernel
theorem dX11_moveMirror_46 : decode cX11_moveMirror 46 = .ok (.getfield 48, 3) := by decide +kernel
theorem dX11_moveMirror_49 : decode cX11_moveMirror 49 = .ok (.getfield 283, 3) := by decide +kernel
theorem dX11_moveMirror_52 : decode cX11_moveMirror 52 = .ok (.iload 5, 2) := by decide +kernel
theorem dX11_moveMirror_54 : decode cX11_moveMirror 54 = .ok (.aload_n 0, 1) := by decide +kernel
theorem dX11_moveMirror_55 : decode cX11_moveMirror 55 = .ok (.getfield 48, 3) := by decide +kernel
theorem dX11_moveMirror_58 : decode cX11_moveMirror 58 = .ok (.getfield 283, 3) := by decide +kernel
theorem dX11_moveMirror_61 : decode cX11_moveMirror 61 = .ok (.iload 5, 2) := by decide +kernel
theorem dX11_moveMirror_63 : decode cX11_moveMirror 63 = .ok (.iload 4, 2) := by decide +kernel
theorem dX11_moveMirror_65 : decode cX11_moveMirror 65 = .ok (.iadd, 1) := by decide +kernel
theorem dX11_moveMirror_66 : decode cX11_moveMirror 66 = .ok (.iaload, 1) := by decide +kernel
theorem dX11_moveMirror_67 : decode cX11_moveMirror 67 = .ok (.iastore, 1) := by decide +kernel
theorem dX11_moveMirror_68 : decode cX11_moveMirror 68 = .ok (.iload 5, 2) := by decide +kernel
theorem dX11_moveMirror_70 : decode cX11_moveMirror 70 = .ok (.iload 4, 2) := by decide +kernel
theorem dX11_moveMirror_72 : decode cX11_moveMirror 72 = .ok (.iadd, 1) := by decide +kernel
theorem dX11_moveMirror_73 : decode cX11_moveMirror 73 = .ok (.istore 5, 2) := by decide +kernel
theorem dX11_moveMirror_75 : decode cX11_moveMirror 75 = .ok (.goto (-36), 3) := by decide +kernel
theorem dX11_moveMirror_78 : decode cX11_moveMirror 78 = .ok (.aload_n 0, 1) := by decide +kernel
theorem dX11_moveMirror_79 : decode cX11_moveMirror 79 = .ok (.getfield 48, 3) := by decide +kernel
theorem dX11_moveMirror_82 : decode cX11_moveMirror 82 = .ok (.getfield 283, 3) := by decide +kernel
theorem dX11_moveMirror_85 : decode cX11_moveMirror 85 = .ok (.iload_n 2, 1) := by decide +kernel
theorem dX11_moveMirror_86 : decode cX11_moveMirror 86 = .ok (.iload_n 1, 1) := by decide +kernel
theorem dX11_moveMirror_87 : decode cX11_moveMirror 87 = .ok (.iastore, 1) := by decide +kernel
theorem dX11_moveMirror_88 : decode cX11_moveMirror 88 = .ok (.iload_n 3, 1) := by decide +kernel
theorem dX11_moveMirror_89 : decode cX11_moveMirror 89 = .ok (.ireturn, 1) := by decide +kernel
theorem dX11_passMinutes_0 : decode cX11_passMinutes 0 = .ok (.aload_n 0, 1) := by decide +kernel
theorem dX11_passMinutes_1 : decode cX11_passMinutes 1 = .ok (.iconst 0, 1) := by decide +kernel
theorem dX11_passMinutes_2 : decode cX11_passMinutes 2 = .ok (.putfield 64, 3) := by decide +kernel
theorem dX11_passMinutes_5 : decode cX11_passMinutes 5 = .ok (.iload_n 1, 1) := by decide +kernel
theorem dX11_passMinutes_6 : decode cX11_passMinutes 6 = .ok (.iconst 1, 1) := by decide +kernel
theorem dX11_passMinutes_7 : decode cX11_passMinutes 7 = .ok (.bipush 100, 2) := by decide +kernel
theorem dX11_passMinutes_9 : decode cX11_passMinutes 9 = .ok (.invokestatic 67, 3) := by decide +kernel
theorem dX11_passMinutes_12 : decode cX11_passMinutes 12 = .ok (.ifCond .ne 9, 3) := by decide +kernel
theorem dX11_passMinutes_15 : decode cX11_passMinutes 15 = .ok (.aload_n 0, 1) := by decide +kernel
theorem dX11_passMinutes_16 : decode cX11_passMinutes 16 = .ok (.iconst 1, 1) := by decide +kernel
theorem dX11_passMinutes_17 : decode cX11_passMinutes 17 = .ok (.invokevirtual 262, 3) := by decide +kernel
theorem dX11_passMinutes_20 : decode cX11_passMinutes 20 = .ok (.ireturn, 1) := by decide +kernel
theorem dX11_passMinutes_21 : decode cX11_passMinutes 21 = .ok (.aload_n 0, 1) := by decide +kernel
theorem dX11_passMinutes_22 : decode cX11_passMinutes 22 = .ok (.getfield 48, 3) := by decide +kernel
theorem dX11_passMinutes_25 : decode cX11_passMinutes 25 = .ok (.getfield 355, 3) := by decide +kernel
theorem dX11_passMinutes_28 : decode cX11_passMinutes 28 = .ok (.istore_n 2, 1) := by decide +kernel
theorem dX11_passMinutes_29 : decode cX11_passMinutes 29 = .ok (.iconst 0, 1) := by decide +kernel
theorem dX11_passMinutes_30 : decode cX11_passMinutes 30 = .ok (.istore_n 3, 1) := by decide +kernel
theorem dX11_passMinutes_31 : decode cX11_passMinutes 31 = .ok (.iload_n 3, 1) := by decide +kernel
theorem dX11_passMinutes_32 : decode cX11_passMinutes 32 = .ok (.iload_n 1, 1) := by decide +kernel
theorem dX11_passMinutes_33 : decode cX11_passMinutes 33 = .ok (.if_icmp .ge 18, 3) := by decide +kernel
theorem dX11_passMinutes_36 : decode cX11_passMinutes 36 = .ok (.aload_n 0, 1) := by decide +kernel
theorem dX11_passMinutes_37 : decode cX11_passMinutes 37 = .ok (.aload_n 0, 1) := by decide +kernel
theorem dX11_passMinutes_38 : decode cX11_passMinutes 38 = .ok (.getfield 48, 3) := by decide +kernel
theorem dX11_passMinutes_41 : decode cX11_passMinutes 41 = .ok (.invokevirtual 372, 3) := by decide +kernel
theorem dX11_passMinutes_44 : decode cX11_passMinutes 44 = .ok (.pop, 1) := by decide +kernel
theorem dX11_passMinutes_45 : decode cX11_passMinutes 45 = .ok (.iinc 3 1, 3) := by decide +kernel
theorem dX11_passMinutes_48 : decode cX11_passMinutes 48 = .ok (.goto (-17), 3) := by decide +kernel
theorem dX11_passMinutes_51 : decode cX11_passMinutes 51 = .ok (.aload_n 0, 1) := by decide +kernel
theorem dX11_passMinutes_52 : decode cX11_passMinutes 52 = .ok (.getfield 48, 3) := by decide +kernel
theorem dX11_passMinutes_55 : decode cX11_passMinutes 55 = .ok (.getfield 355, 3) := by decide +kernel
theorem dX11_passMinutes_58 : decode cX11_passMinutes 58 = .ok (.iload_n 2, 1) := by decide +kernel
theorem dX11_passMinutes_59 : decode cX11_passMinutes 59 = .ok (.isub, 1) := by decide +kernel
theorem dX11_passMinutes_60 : decode cX11_passMinutes 60 = .ok (.ireturn, 1) := by decide +kernel
theorem dX11_lightAfter_0 : decode cX11_lightAfter 0 = .ok (.aload_n 0, 1) := by decide +kernel
theorem dX11_lightAfter_1 : decode cX11_lightAfter 1 = .ok (.iconst 0, 1) := by decide +kernel
theorem dX11_lightAfter_2 : decode cX11_lightAfter 2 = .ok (.putfield 64, 3) := by decide +kernel
theorem dX11_lightAfter_5 : decode cX11_lightAfter 5 = .ok (.iload_n 1, 1) := by decide +kernel
theorem dX11_lightAfter_6 : decode cX11_lightAfter 6 = .ok (.iconst 1, 1) := by decide +kernel
theorem dX11_lightAfter_7 : decode cX11_lightAfter 7 = .ok (.bipush 100, 2) := by decide +kernel
theorem dX11_lightAfter_9 : decode cX11_lightAfter 9 = .ok (.invokestatic 67, 3) := by decide +kernel
theorem dX11_lightAfter_12 : decode cX11_lightAfter 12 = .ok (.ifCond .ne 9, 3) := by decide +kernel
theorem dX11_lightAfter_15 : decode cX11_lightAfter 15 = .ok (.aload_n 0, 1) := by decide +kernel
theorem dX11_lightAfter_16 : decode cX11_lightAfter 16 = .ok (.iconst 1, 1) := by decide +kernel
theorem dX11_lightAfter_17 : decode cX11_lightAfter 17 = .ok (.invokevirtual 262, 3) := by decide +kernel
theorem dX11_lightAfter_20 : decode cX11_lightAfter 20 = .ok (.ireturn, 1) := by decide +kernel
theorem dX11_lightAfter_21 : decode cX11_lightAfter 21 = .ok (.aload_n 0, 1) := by decide +kernel
theorem dX11_lightAfter_22 : decode cX11_lightAfter 22 = .ok (.getfield 52, 3) := by decide +kernel
theorem dX11_lightAfter_25 : decode cX11_lightAfter 25 = .ok (.aload_n 0, 1) := by decide +kernel
theorem dX11_lightAfter_26 : decode cX11_lightAfter 26 = .ok (.getfield 48, 3) := by decide +kernel
theorem dX11_lightAfter_29 : decode cX11_lightAfter 29 = .ok (.invokevirtual 375, 3) := by decide +kernel
theorem dX11_lightAfter_32 : decode cX11_lightAfter 32 = .ok (.iconst 0, 1) := by decide +kernel
theorem dX11_lightAfter_33 : decode cX11_lightAfter 33 = .ok (.istore_n 2, 1) := by decide +kernel
theorem dX11_lightAfter_34 : decode cX11_lightAfter 34 = .ok (.iload_n 2, 1) := by decide +kernel
theorem dX11_lightAfter_35 : decode cX11_lightAfter 35 = .ok (.iload_n 1, 1) := by decide +kernel
theorem dX11_lightAfter_36 : decode cX11_lightAfter 36 = .ok (.if_icmp .ge 18, 3) := by decide +kernel
theorem dX11_lightAfter_39 : decode cX11_lightAfter 39 = .ok (.aload_n 0, 1) := by decide +kernel
theorem dX11_lightAfter_40 : decode cX11_lightAfter 40 = .ok (.aload_n 0, 1) := by decide +kernel
theorem dX11_lightAfter_41 : decode cX11_lightAfter 41 = .ok (.getfield 52, 3) := by decide +kernel
theorem dX11_lightAfter_44 : decode cX11_lightAfter 44 = .ok (.invokevirtual 372, 3) := by decide +kernel
theorem dX11_lightAfter_47 : decode cX11_lightAfter 47 = .ok (.pop, 1) := by decide +kernel
theorem dX11_lightAfter_48 : decode cX11_lightAfter 48 = .ok (.iinc 2 1, 3) := by decide +kernel
theorem dX11_lightAfter_51 : decode cX11_lightAfter 51 = .ok (.goto (-17), 3) := by decide +kernel
theorem dX11_lightAfter_54 : decode cX11_lightAfter 54 = .ok (.aload_n 0, 1) := by decide +kernel
theorem dX11_lightAfter_55 : decode cX11_lightAfter 55 = .ok (.aload_n 0, 1) := by decide +kernel
theorem dX11_lightAfter_56 : decode cX11_lightAfter 56 = .ok (.getfield 52, 3) := by decide +kernel
theorem dX11_lightAfter_59 : decode cX11_lightAfter 59 = .ok (.invokevirtual 304, 3) := by decide +kernel
theorem dX11_lightAfter_62 : decode cX11_lightAfter 62 = .ok (.ireturn, 1) := by decide +kernel
theorem dX11_minutesUntilSeen_0 : decode cX11_minutesUntilSeen 0 = .ok (.aload_n 0, 1) := by decide +kernel
theorem dX11_minutesUntilSeen_1 : decode cX11_minutesUntilSeen 1 = .ok (.iconst 0, 1) := by decide +kernel
theorem dX11_minutesUntilSeen_2 : decode cX11_minutesUntilSeen 2 = .ok (.putfield 64, 3) := by decide +kernel
theorem dX11_minutesUntilSeen_5 : decode cX11_minutesUntilSeen 5 = .ok (.aload_n 0, 1) := by decide +kernel
theorem dX11_minutesUntilSeen_6 : decode cX11_minutesUntilSeen 6 = .ok (.getfield 52, 3) := by decide +kernel
theorem dX11_minutesUntilSeen_9 : decode cX11_minutesUntilSeen 9 = .ok (.aload_n 0, 1) := by decide +kernel
theorem dX11_minutesUntilSeen_10 : decode cX11_minutesUntilSeen 10 = .ok (.getfield 48, 3) := by decide +kernel
theorem dX11_minutesUntilSeen_13 : decode cX11_minutesUntilSeen 13 = .ok (.invokevirtual 375, 3) := by decide +kernel
theorem dX11_minutesUntilSeen_16 : decode cX11_minutesUntilSeen 16 = .ok (.iconst 0, 1) := by decide +kernel
theorem dX11_minutesUntilSeen_17 : decode cX11_minutesUntilSeen 17 = .ok (.istore_n 1, 1) := by decide +kernel
theorem dX11_minutesUntilSeen_18 : decode cX11_minutesUntilSeen 18 = .ok (.iload_n 1, 1) := by decide +kernel
theorem dX11_minutesUntilSeen_19 : decode cX11_minutesUntilSeen 19 = .ok (.bipush 100, 2) := by decide +kernel
theorem dX11_minutesUntilSeen_21 : decode cX11_minutesUntilSeen 21 = .ok (.if_icmp .gt 31, 3) := by decide +kernel
theorem dX11_minutesUntilSeen_24 : decode cX11_minutesUntilSeen 24 = .ok (.aload_n 0, 1) := by decide +kernel
theorem dX11_minutesUntilSeen_25 : decode cX11_minutesUntilSeen 25 = .ok (.aload_n 0, 1) := by decide +kernel
theorem dX11_minutesUntilSeen_26 : decode cX11_minutesUntilSeen 26 = .ok (.getfield 52, 3) := by decide +kernel
theorem dX11_minutesUntilSeen_29 : decode cX11_minutesUntilSeen 29 = .ok (.invokevirtual 317, 3) := by decide +kernel
theorem dX11_minutesUntilSeen_32 : decode cX11_minutesUntilSeen 32 = .ok (.ifCond .eq 5, 3) := by decide +kernel
theorem dX11_minutesUntilSeen_35 : decode cX11_minutesUntilSeen 35 = .ok (.iload_n 1, 1) := by decide +kernel
theorem dX11_minutesUntilSeen_36 : decode cX11_minutesUntilSeen 36 = .ok (.ireturn, 1) := by decide +kernel
theorem dX11_minutesUntilSeen_37 : decode cX11_minutesUntilSeen 37 = .ok (.aload_n 0, 1) := by decide +kernel
theorem dX11_minutesUntilSeen_38 : decode cX11_minutesUntilSeen 38 = .ok (.aload_n 0, 1) := by decide +kernel
theorem dX11_minutesUntilSeen_39 : decode cX11_minutesUntilSeen 39 = .ok (.getfield 52, 3) := by decide +kernel
theorem dX11_minutesUntilSeen_42 : decode cX11_minutesUntilSeen 42 = .ok (.invokevirtual 372, 3) := by decide +kernel
theorem dX11_minutesUntilSeen_45 : decode cX11_minutesUntilSeen 45 = .ok (.pop, 1) := by decide +kernel
theorem dX11_minutesUntilSeen_46 : decode cX11_minutesUntilSeen 46 = .ok (.iinc 1 1, 3) := by decide +kernel
theorem dX11_minutesUntilSeen_49 : decode cX11_minutesUntilSeen 49 = .ok (.goto (-31), 3) := by decide +kernel
theorem dX11_minutesUntilSeen_52 : decode cX11_minutesUntilSeen 52 = .ok (.iconst (-1), 1) := by decide +kernel
theorem dX11_minutesUntilSeen_53 : decode cX11_minutesUntilSeen 53 = .ok (.ireturn, 1) := by decide +kernel
theorem dX11_minutesUntilDone_0 : decode cX11_minutesUntilDone 0 = .ok (.aload_n 0, 1) := by decide +kernel
theorem dX11_minutesUntilDone_1 : decode cX11_minutesUntilDone 1 = .ok (.iload_n 1, 1) := by decide +kernel
theorem dX11_minutesUntilDone_2 : decode cX11_minutesUntilDone 2 = .ok (.invokevirtual 358, 3) := by decide +kernel
theorem dX11_minutesUntilDone_5 : decode cX11_minutesUntilDone 5 = .ok (.ifCond .ne 5, 3) := by decide +kernel
theorem dX11_minutesUntilDone_8 : decode cX11_minutesUntilDone 8 = .ok (.iconst 0, 1) := by decide +kernel
theorem dX11_minutesUntilDone_9 : decode cX11_minutesUntilDone 9 = .ok (.ireturn, 1) := by decide +kernel
theorem dX11_minutesUntilDone_10 : decode cX11_minutesUntilDone 10 = .ok (.aload_n 0, 1) := by decide +kernel
theorem dX11_minutesUntilDone_11 : decode cX11_minutesUntilDone 11 = .ok (.getfield 52, 3) := by decide +kernel
theorem dX11_minutesUntilDone_14 : decode cX11_minutesUntilDone 14 = .ok (.aload_n 0, 1) := by decide +kernel
theorem dX11_minutesUntilDone_15 : decode cX11_minutesUntilDone 15 = .ok (.getfield 48, 3) := by decide +kernel
theorem dX11_minutesUntilDone_18 : decode cX11_minutesUntilDone 18 = .ok (.invokevirtual 375, 3) := by decide +kernel
theorem dX11_minutesUntilDone_21 : decode cX11_minutesUntilDone 21 = .ok (.iload_n 1, 1) := by decide +kernel
theorem dX11_minutesUntilDone_22 : decode cX11_minutesUntilDone 22 = .ok (.iconst 1, 1) := by decide +kernel
theorem dX11_minutesUntilDone_23 : decode cX11_minutesUntilDone 23 = .ok (.iadd, 1) := by decide +kernel
theorem dX11_minutesUntilDone_24 : decode cX11_minutesUntilDone 24 = .ok (.istore_n 2, 1) := by decide +kernel
theorem dX11_minutesUntilDone_25 : decode cX11_minutesUntilDone 25 = .ok (.iconst 1, 1) := by decide +kernel
theorem dX11_minutesUntilDone_26 : decode cX11_minutesUntilDone 26 = .ok (.istore_n 3, 1) := by decide +kernel
theorem dX11_minutesUntilDone_27 : decode cX11_minutesUntilDone 27 = .ok (.iload_n 3, 1) := by decide +kernel
theorem dX11_minutesUntilDone_28 : decode cX11_minutesUntilDone 28 = .ok (.sipush 300, 3) := by decide +kernel
theorem dX11_minutesUntilDone_31 : decode cX11_minutesUntilDone 31 = .ok (.if_icmp .gt 29, 3) := by decide +kernel
theorem dX11_minutesUntilDone_34 : decode cX11_minutesUntilDone 34 = .ok (.aload_n 0, 1) := by decide +kernel
theorem dX11_minutesUntilDone_35 : decode cX11_minutesUntilDone 35 = .ok (.aload_n 0, 1) := by decide +kernel
theorem dX11_minutesUntilDone_36 : decode cX11_minutesUntilDone 36 = .ok (.getfield 52, 3) := by decide +kernel
theorem dX11_minutesUntilDone_39 : decode cX11_minutesUntilDone 39 = .ok (.invokevirtual 372, 3) := by decide +kernel
theorem dX11_minutesUntilDone_42 : decode cX11_minutesUntilDone 42 = .ok (.ifCond .eq 6, 3) := by decide +kernel
theorem dX11_minutesUntilDone_45 : decode cX11_minutesUntilDone 45 = .ok (.iinc 2 (-1), 3) := by decide +kernel
theorem dX11_minutesUntilDone_48 : decode cX11_minutesUntilDone 48 = .ok (.iload_n 2, 1) := by decide +kernel
theorem dX11_minutesUntilDone_49 : decode cX11_minutesUntilDone 49 = .ok (.ifCond .ne 5, 3) := by decide +kernel
theorem dX11_minutesUntilDone_52 : decode cX11_minutesUntilDone 52 = .ok (.iload_n 3, 1) := by decide +kernel
theorem dX11_minutesUntilDone_53 : decode cX11_minutesUntilDone 53 = .ok (.ireturn, 1) := by decide +kernel
theorem dX11_minutesUntilDone_54 : decode cX11_minutesUntilDone 54 = .ok (.iinc 3 1, 3) := by decide +kernel
theorem dX11_minutesUntilDone_57 : decode cX11_minutesUntilDone 57 = .ok (.goto (-30), 3) := by decide +kernel
theorem dX11_minutesUntilDone_60 : decode cX11_minutesUntilDone 60 = .ok (.iconst (-1), 1) := by decide +kernel
theorem dX11_minutesUntilDone_61 : decode cX11_minutesUntilDone 61 = .ok (.ireturn, 1) := by decide +kernel
theorem dX11_bestToClean_0 : decode cX11_bestToClean 0 = .ok (.aload_n 0, 1) := by decide +kernel
theorem dX11_bestToClean_1 : decode cX11_bestToClean 1 = .ok (.iconst 0, 1) := by decide +kernel
theorem dX11_bestToClean_2 : decode cX11_bestToClean 2 = .ok (.putfield 64, 3) := by decide +kernel
theorem dX11_bestToClean_5 : decode cX11_bestToClean 5 = .ok (.iconst (-1), 1) := by decide +kernel
theorem dX11_bestToClean_6 : decode cX11_bestToClean 6 = .ok (.istore_n 1, 1) := by decide +kernel
theorem dX11_bestToClean_7 : decode cX11_bestToClean 7 = .ok (.aload_n 0, 1) := by decide +kernel
theorem dX11_bestToClean_8 : decode cX11_bestToClean 8 = .ok (.aload_n 0, 1) := by decide +kernel
theorem dX11_bestToClean_9 : decode cX11_bestToClean 9 = .ok (.getfield 48, 3) := by decide +kernel
theorem dX11_bestToClean_12 : decode cX11_bestToClean 12 = .ok (.invokevirtual 304, 3) := by decide +kernel
theorem dX11_bestToClean_15 : decode cX11_bestToClean 15 = .ok (.istore_n 2, 1) := by decide +kernel
theorem dX11_bestToClean_16 : decode cX11_bestToClean 16 = .ok (.iconst 0, 1) := by decide +kernel
theorem dX11_bestToClean_17 : decode cX11_bestToClean 17 = .ok (.istore_n 3, 1) := by decide +kernel
theorem dX11_bestToClean_18 : decode cX11_bestToClean 18 = .ok (.iload_n 3, 1) := by decide +kernel
theorem dX11_bestToClean_19 : decode cX11_bestToClean 19 = .ok (.aload_n 0, 1) := by decide +kernel
theorem dX11_bestToClean_20 : decode cX11_bestToClean 20 = .ok (.getfield 35, 3) := by decide +kernel
theorem dX11_bestToClean_23 : decode cX11_bestToClean 23 = .ok (.getfield 149, 3) := by decide +kernel
theorem dX11_bestToClean_26 : decode cX11_bestToClean 26 = .ok (.if_icmp .ge 50, 3) := by decide +kernel
theorem dX11_bestToClean_29 : decode cX11_bestToClean 29 = .ok (.aload_n 0, 1) := by decide +kernel
theorem dX11_bestToClean_30 : decode cX11_bestToClean 30 = .ok (.getfield 52, 3) := by decide +kernel
theorem dX11_bestToClean_33 : decode cX11_bestToClean 33 = .ok (.aload_n 0, 1) := by decide +kernel
theorem dX11_bestToClean_34 : decode cX11_bestToClean 34 = .ok (.getfield 48, 3) := by decide +kernel
theorem dX11_bestToClean_37 : decode cX11_bestToClean 37 = .ok (.invokevirtual 375, 3) := by decide +kernel
theorem dX11_bestToClean_40 : decode cX11_bestToClean 40 = .ok (.aload_n 0, 1) := by decide +kernel
theorem dX11_bestToClean_41 : decode cX11_bestToClean 41 = .ok (.getfield 52, 3) := by decide +kernel
theorem dX11_bestToClean_44 : decode cX11_bestToClean 44 = .ok (.iload_n 3, 1) := by decide +kernel
theorem dX11_bestToClean_45 : decode cX11_bestToClean 45 = .ok (.invokevirtual 377, 3) := by decide +kernel
theorem dX11_bestToClean_48 : decode cX11_bestToClean 48 = .ok (.aload_n 0, 1) := by decide +kernel
theorem dX11_bestToClean_49 : decode cX11_bestToClean 49 = .ok (.aload_n 0, 1) := by decide +kernel
theorem dX11_bestToClean_50 : decode cX11_bestToClean 50 = .ok (.getfield 52, 3) := by decide +kernel
theorem dX11_bestToClean_53 : decode cX11_bestToClean 53 = .ok (.invokevirtual 304, 3) := by decide +kernel
theorem dX11_bestToClean_56 : decode cX11_bestToClean 56 = .ok (.iload_n 2, 1) := by decide +kernel
theorem dX11_bestToClean_57 : decode cX11_bestToClean 57 = .ok (.if_icmp .gt 6, 3) := by decide +kernel
theorem dX11_bestToClean_60 : decode cX11_bestToClean 60 = .ok (.goto 10, 3) := by decide +kernel
theorem dX11_bestToClean_63 : decode cX11_bestToClean 63 = .ok (.iload_n 3, 1) := by decide +kernel
theorem dX11_bestToClean_64 : decode cX11_bestToClean 64 = .ok (.istore_n 1, 1) := by decide +kernel
theorem dX11_bestToClean_65 : decode cX11_bestToClean 65 = .ok (.aload_n 0, 1) := by decide +kernel
theorem dX11_bestToClean_66 : decode cX11_bestToClean 66 = .ok (.getfield 294, 3) := by decide +kernel
theorem dX11_bestToClean_69 : decode cX11_bestToClean 69 = .ok (.istore_n 2, 1) := by decide +kernel
theorem dX11_bestToClean_70 : decode cX11_bestToClean 70 = .ok (.iinc 3 1, 3) := by decide +kernel
theorem dX11_bestToClean_73 : decode cX11_bestToClean 73 = .ok (.goto (-55), 3) := by decide +kernel
theorem dX11_bestToClean_76 : decode cX11_bestToClean 76 = .ok (.iload_n 1, 1) := by decide +kernel
theorem dX11_bestToClean_77 : decode cX11_bestToClean 77 = .ok (.ireturn, 1) := by decide +kernel
theorem dX11_bestOffset_0 : decode cX11_bestOffset 0 = .ok (.aload_n 0, 1) := by decide +kernel
theorem dX11_bestOffset_1 : decode cX11_bestOffset 1 = .ok (.iload_n 1, 1) := by decide +kernel
theorem dX11_bestOffset_2 : decode cX11_bestOffset 2 = .ok (.invokevirtual 349, 3) := by decide +kernel
theorem dX11_bestOffset_5 : decode cX11_bestOffset 5 = .ok (.ifCond .ne 5, 3) := by decide +kernel
theorem dX11_bestOffset_8 : decode cX11_bestOffset 8 = .ok (.iconst 0, 1) := by decide +kernel
theorem dX11_bestOffset_9 : decode cX11_bestOffset 9 = .ok (.ireturn, 1) := by decide +kernel
theorem dX11_bestOffset_10 : decode cX11_bestOffset 10 = .ok (.aload_n 0, 1) := by decide +kernel
theorem dX11_bestOffset_11 : decode cX11_bestOffset 11 = .ok (.getfield 52, 3) := by decide +kernel
theorem dX11_bestOffset_14 : decode cX11_bestOffset 14 = .ok (.aload_n 0, 1) := by decide +kernel
theorem dX11_bestOffset_15 : decode cX11_bestOffset 15 = .ok (.getfield 48, 3) := by decide +kernel
theorem dX11_bestOffset_18 : decode cX11_bestOffset 18 = .ok (.invokevirtual 375, 3) := by decide +kernel
theorem dX11_bestOffset_21 : decode cX11_bestOffset 21 = .ok (.iconst 0, 1) := by decide +kernel
theorem dX11_bestOffset_22 : decode cX11_bestOffset 22 = .ok (.istore_n 2, 1) := by decide +kernel
theorem dX11_bestOffset_23 : decode cX11_bestOffset 23 = .ok (.iconst (-1), 1) := by decide +kernel
theorem dX11_bestOffset_24 : decode cX11_bestOffset 24 = .ok (.istore_n 3, 1) := by decide +kernel
theorem dX11_bestOffset_25 : decode cX11_bestOffset 25 = .ok (.iconst 0, 1) := by decide +kernel
theorem dX11_bestOffset_26 : decode cX11_bestOffset 26 = .ok (.istore 4, 2) := by decide +kernel
theorem dX11_bestOffset_28 : decode cX11_bestOffset 28 = .ok (.iload 4, 2) := by decide +kernel
theorem dX11_bestOffset_30 : decode cX11_bestOffset 30 = .ok (.bipush 90, 2) := by decide +kernel
theorem dX11_bestOffset_32 : decode cX11_bestOffset 32 = .ok (.if_icmp .gt 64, 3) := by decide +kernel
theorem dX11_bestOffset_35 : decode cX11_bestOffset 35 = .ok (.iconst 1, 1) := by decide +kernel
theorem dX11_bestOffset_36 : decode cX11_bestOffset 36 = .ok (.istore 5, 2) := by decide +kernel
theorem dX11_bestOffset_38 : decode cX11_bestOffset 38 = .ok (.iload 5, 2) := by decide +kernel
theorem dX11_bestOffset_40 : decode cX11_bestOffset 40 = .ok (.iconst (-1), 1) := by decide +kernel
theorem dX11_bestOffset_41 : decode cX11_bestOffset 41 = .ok (.if_icmp .lt 49, 3) := by decide +kernel
theorem dX11_bestOffset_44 : decode cX11_bestOffset 44 = .ok (.aload_n 0, 1) := by decide +kernel
theorem dX11_bestOffset_45 : decode cX11_bestOffset 45 = .ok (.getfield 52, 3) := by decide +kernel
theorem dX11_bestOffset_48 : decode cX11_bestOffset 48 = .ok (.getfield 293, 3) := by decide +kernel
theorem dX11_bestOffset_51 : decode cX11_bestOffset 51 = .ok (.iload_n 1, 1) := by decide +kernel
theorem dX11_bestOffset_52 : decode cX11_bestOffset 52 = .ok (.iload 5, 2) := by decide +kernel
theorem dX11_bestOffset_54 : decode cX11_bestOffset 54 = .ok (.iload 4, 2) := by decide +kernel
theorem dX11_bestOffset_56 : decode cX11_bestOffset 56 = .ok (.imul, 1) := by decide +kernel
theorem dX11_bestOffset_57 : decode cX11_bestOffset 57 = .ok (.iastore, 1) := by decide +kernel
theorem dX11_bestOffset_58 : decode cX11_bestOffset 58 = .ok (.aload_n 0, 1) := by decide +kernel
theorem dX11_bestOffset_59 : decode cX11_bestOffset 59 = .ok (.aload_n 0, 1) := by decide +kernel
theorem dX11_bestOffset_60 : decode cX11_bestOffset 60 = .ok (.getfield 52, 3) := by decide +kernel
theorem dX11_bestOffset_63 : decode cX11_bestOffset 63 = .ok (.invokevirtual 304, 3) := by decide +kernel
theorem dX11_bestOffset_66 : decode cX11_bestOffset 66 = .ok (.iload_n 3, 1) := by decide +kernel
theorem dX11_bestOffset_67 : decode cX11_bestOffset 67 = .ok (.if_icmp .gt 6, 3) := by decide +kernel
theorem dX11_bestOffset_70 : decode cX11_bestOffset 70 = .ok (.goto 14, 3) := by decide +kernel
theorem dX11_bestOffset_73 : decode cX11_bestOffset 73 = .ok (.iload 5, 2) := by decide +kernel
theorem dX11_bestOffset_75 : decode cX11_bestOffset 75 = .ok (.iload 4, 2) := by decide +kernel
theorem dX11_bestOffset_77 : decode cX11_bestOffset 77 = .ok (.imul, 1) := by decide +kernel
theorem dX11_bestOffset_78 : decode cX11_bestOffset 78 = .ok (.istore_n 2, 1) := by decide +kernel
theorem dX11_bestOffset_79 : decode cX11_bestOffset 79 = .ok (.aload_n 0, 1) := by decide +kernel
theorem dX11_bestOffset_80 : decode cX11_bestOffset 80 = .ok (.getfield 294, 3) := by decide +kernel
theorem dX11_bestOffset_83 : decode cX11_bestOffset 83 = .ok (.istore_n 3, 1) := by decide +kernel
theorem dX11_bestOffset_84 : decode cX11_bestOffset 84 = .ok (.iinc 5 (-2), 3) := by decide +kernel
theorem dX11_bestOffset_87 : decode cX11_bestOffset 87 = .ok (.goto (-49), 3) := by decide +kernel
theorem dX11_bestOffset_90 : decode cX11_bestOffset 90 = .ok (.iinc 4 1, 3) := by decide +kernel
theorem dX11_bestOffset_93 : decode cX11_bestOffset 93 = .ok (.goto (-65), 3) := by decide +kernel
theorem dX11_bestOffset_96 : decode cX11_bestOffset 96 = .ok (.iload_n 2, 1) := by decide +kernel
theorem dX11_bestOffset_97 : decode cX11_bestOffset 97 = .ok (.ireturn, 1) := by decide +kernel
theorem dX11_meanClarity_0 : decode cX11_meanClarity 0 = .ok (.aload_n 0, 1) := by decide +kernel
theorem dX11_meanClarity_1 : decode cX11_meanClarity 1 = .ok (.iconst 0, 1) := by decide +kernel
theorem dX11_meanClarity_2 : decode cX11_meanClarity 2 = .ok (.putfield 64, 3) := by decide +kernel
theorem dX11_meanClarity_5 : decode cX11_meanClarity 5 = .ok (.iconst 0, 1) := by decide +kernel
theorem dX11_meanClarity_6 : decode cX11_meanClarity 6 = .ok (.istore_n 1, 1) := by decide +kernel
theorem dX11_meanClarity_7 : decode cX11_meanClarity 7 = .ok (.iconst 0, 1) := by decide +kernel
theorem dX11_meanClarity_8 : decode cX11_meanClarity 8 = .ok (.istore_n 2, 1) := by decide +kernel
theorem dX11_meanClarity_9 : decode cX11_meanClarity 9 = .ok (.iload_n 2, 1) := by decide +kernel
theorem dX11_meanClarity_10 : decode cX11_meanClarity 10 = .ok (.aload_n 0, 1) := by decide +kernel
theorem dX11_meanClarity_11 : decode cX11_meanClarity 11 = .ok (.getfield 35, 3) := by decide +kernel
theorem dX11_meanClarity_14 : decode cX11_meanClarity 14 = .ok (.getfield 149, 3) := by decide +kernel
theorem dX11_meanClarity_17 : decode cX11_meanClarity 17 = .ok (.if_icmp .ge 21, 3) := by decide +kernel
theorem dX11_meanClarity_20 : decode cX11_meanClarity 20 = .ok (.iload_n 1, 1) := by decide +kernel
theorem dX11_meanClarity_21 : decode cX11_meanClarity 21 = .ok (.aload_n 0, 1) := by decide +kernel
theorem dX11_meanClarity_22 : decode cX11_meanClarity 22 = .ok (.getfield 48, 3) := by decide +kernel
theorem dX11_meanClarity_25 : decode cX11_meanClarity 25 = .ok (.getfield 292, 3) := by decide +kernel
theorem dX11_meanClarity_28 : decode cX11_meanClarity 28 = .ok (.iload_n 2, 1) := by decide +kernel
theorem dX11_meanClarity_29 : decode cX11_meanClarity 29 = .ok (.iaload, 1) := by decide +kernel
theorem dX11_meanClarity_30 : decode cX11_meanClarity 30 = .ok (.iadd, 1) := by decide +kernel
theorem dX11_meanClarity_31 : decode cX11_meanClarity 31 = .ok (.istore_n 1, 1) := by decide +kernel
theorem dX11_meanClarity_32 : decode cX11_meanClarity 32 = .ok (.iinc 2 1, 3) := by decide +kernel
theorem dX11_meanClarity_35 : decode cX11_meanClarity 35 = .ok (.goto (-26), 3) := by decide +kernel
theorem dX11_meanClarity_38 : decode cX11_meanClarity 38 = .ok (.aload_n 0, 1) := by decide +kernel
theorem dX11_meanClarity_39 : decode cX11_meanClarity 39 = .ok (.getfield 35, 3) := by decide +kernel
theorem dX11_meanClarity_42 : decode cX11_meanClarity 42 = .ok (.getfield 149, 3) := by decide +kernel
theorem dX11_meanClarity_45 : decode cX11_meanClarity 45 = .ok (.ifCond .ne 7, 3) := by decide +kernel
theorem dX11_meanClarity_48 : decode cX11_meanClarity 48 = .ok (.dconst 0, 1) := by decide +kernel
theorem dX11_meanClarity_49 : decode cX11_meanClarity 49 = .ok (.goto 14, 3) := by decide +kernel
theorem dX11_meanClarity_52 : decode cX11_meanClarity 52 = .ok (.iload_n 1, 1) := by decide +kernel
theorem dX11_meanClarity_53 : decode cX11_meanClarity 53 = .ok (.i2d, 1) := by decide +kernel
theorem dX11_meanClarity_54 : decode cX11_meanClarity 54 = .ok (.aload_n 0, 1) := by decide +kernel
theorem dX11_meanClarity_55 : decode cX11_meanClarity 55 = .ok (.getfield 35, 3) := by decide +kernel
theorem dX11_meanClarity_58 : decode cX11_meanClarity 58 = .ok (.getfield 149, 3) := by decide +kernel
theorem dX11_meanClarity_61 : decode cX11_meanClarity 61 = .ok (.i2d, 1) := by decide +kernel
theorem dX11_meanClarity_62 : decode cX11_meanClarity 62 = .ok (.ddiv, 1) := by decide +kernel
theorem dX11_meanClarity_63 : decode cX11_meanClarity 63 = .ok (.dreturn, 1) := by decide +kernel
theorem dX11_digest_0 : decode cX11_digest 0 = .ok (.aload_n 0, 1) := by decide +kernel
theorem dX11_digest_1 : decode cX11_digest 1 = .ok (.aload_n 0, 1) := by decide +kernel
theorem dX11_digest_2 : decode cX11_digest 2 = .ok (.getfield 48, 3) := by decide +kernel
theorem dX11_digest_5 : decode cX11_digest 5 = .ok (.invokevirtual 317, 3) := by decide +kernel
theorem dX11_digest_8 : decode cX11_digest 8 = .ok (.istore_n 1, 1) := by decide +kernel
theorem dX11_digest_9 : decode cX11_digest 9 = .ok (.bipush 7, 2) := by decide +kernel
theorem dX11_digest_11 : decode cX11_digest 11 = .ok (.newarray .int, 2) := by decide +kernel
theorem dX11_digest_13 : decode cX11_digest 13 = .ok (.dup, 1) := by decide +kernel
theorem dX11_digest_14 : decode cX11_digest 14 = .ok (.iconst 0, 1) := by decide +kernel
theorem dX11_digest_15 : decode cX11_digest 15 = .ok (.aload_n 0, 1) := by decide +kernel
theorem dX11_digest_16 : decode cX11_digest 16 = .ok (.getfield 35, 3) := by decide +kernel
theorem dX11_digest_19 : decode cX11_digest 19 = .ok (.getfield 149, 3) := by decide +kernel
theorem dX11_digest_22 : decode cX11_digest 22 = .ok (.iastore, 1) := by decide +kernel
theorem dX11_digest_23 : decode cX11_digest 23 = .ok (.dup, 1) := by decide +kernel
theorem dX11_digest_24 : decode cX11_digest 24 = .ok (.iconst 1, 1) := by decide +kernel
theorem dX11_digest_25 : decode cX11_digest 25 = .ok (.aload_n 0, 1) := by decide +kernel
theorem dX11_digest_26 : decode cX11_digest 26 = .ok (.getfield 35, 3) := by decide +kernel
theorem dX11_digest_29 : decode cX11_digest 29 = .ok (.getfield 229, 3) := by decide +kernel
theorem dX11_digest_32 : decode cX11_digest 32 = .ok (.iastore, 1) := by decide +kernel
theorem dX11_digest_33 : decode cX11_digest 33 = .ok (.dup, 1) := by decide +kernel
theorem dX11_digest_34 : decode cX11_digest 34 = .ok (.iconst 2, 1) := by decide +kernel
theorem dX11_digest_35 : decode cX11_digest 35 = .ok (.aload_n 0, 1) := by decide +kernel
theorem dX11_digest_36 : decode cX11_digest 36 = .ok (.getfield 48, 3) := by decide +kernel
theorem dX11_digest_39 : decode cX11_digest 39 = .ok (.getfield 308, 3) := by decide +kernel
theorem dX11_digest_42 : decode cX11_digest 42 = .ok (.iastore, 1) := by decide +kernel
theorem dX11_digest_43 : decode cX11_digest 43 = .ok (.dup, 1) := by decide +kernel
theorem dX11_digest_44 : decode cX11_digest 44 = .ok (.iconst 3, 1) := by decide +kernel
theorem dX11_digest_45 : decode cX11_digest 45 = .ok (.aload_n 0, 1) := by decide +kernel
theorem dX11_digest_46 : decode cX11_digest 46 = .ok (.getfield 71, 3) := by decide +kernel
theorem dX11_digest_49 : decode cX11_digest 49 = .ok (.iastore, 1) := by decide +kernel
theorem dX11_digest_50 : decode cX11_digest 50 = .ok (.dup, 1) := by decide +kernel
theorem dX11_digest_51 : decode cX11_digest 51 = .ok (.iconst 4, 1) := by decide +kernel
theorem dX11_digest_52 : decode cX11_digest 52 = .ok (.aload_n 0, 1) := by decide +kernel
theorem dX11_digest_53 : decode cX11_digest 53 = .ok (.getfield 294, 3) := by decide +kernel
theorem dX11_digest_56 : decode cX11_digest 56 = .ok (.iastore, 1) := by decide +kernel
theorem dX11_digest_57 : decode cX11_digest 57 = .ok (.dup, 1) := by decide +kernel
theorem dX11_digest_58 : decode cX11_digest 58 = .ok (.iconst 5, 1) := by decide +kernel
theorem dX11_digest_59 : decode cX11_digest 59 = .ok (.aload_n 0, 1) := by decide +kernel
theorem dX11_digest_60 : decode cX11_digest 60 = .ok (.getfield 297, 3) := by decide +kernel
theorem dX11_digest_63 : decode cX11_digest 63 = .ok (.iastore, 1) := by decide +kernel
theorem dX11_digest_64 : decode cX11_digest 64 = .ok (.dup, 1) := by decide +kernel
theorem dX11_digest_65 : decode cX11_digest 65 = .ok (.bipush 6, 2) := by decide +kernel
theorem dX11_digest_67 : decode cX11_digest 67 = .ok (.iload_n 1, 1) := by decide +kernel
theorem dX11_digest_68 : decode cX11_digest 68 = .ok (.ifCond .eq 7, 3) := by decide +kernel
theorem dX11_digest_71 : decode cX11_digest 71 = .ok (.iconst 1, 1) := by decide +kernel
theorem dX11_digest_72 : decode cX11_digest 72 = .ok (.goto 4, 3) := by decide +kernel
theorem dX11_digest_75 : decode cX11_digest 75 = .ok (.iconst 0, 1) := by decide +kernel
theorem dX11_digest_76 : decode cX11_digest 76 = .ok (.iastore, 1) := by decide +kernel
theorem dX11_digest_77 : decode cX11_digest 77 = .ok (.astore_n 2, 1) := by decide +kernel
theorem dX11_digest_78 : decode cX11_digest 78 = .ok (.ldc2_w 380, 3) := by decide +kernel
theorem dX11_digest_81 : decode cX11_digest 81 = .ok (.lstore_n 3, 1) := by decide +kernel
theorem dX11_digest_82 : decode cX11_digest 82 = .ok (.aload_n 2, 1) := by decide +kernel
theorem dX11_digest_83 : decode cX11_digest 83 = .ok (.astore 5, 2) := by decide +kernel
theorem dX11_digest_85 : decode cX11_digest 85 = .ok (.aload 5, 2) := by decide +kernel
theorem dX11_digest_87 : decode cX11_digest 87 = .ok (.arraylength, 1) := by decide +kernel
theorem dX11_digest_88 : decode cX11_digest 88 = .ok (.istore 6, 2) := by decide +kernel
theorem dX11_digest_90 : decode cX11_digest 90 = .ok (.iconst 0, 1) := by decide +kernel
theorem dX11_digest_91 : decode cX11_digest 91 = .ok (.istore 7, 2) := by decide +kernel
theorem dX11_digest_93 : decode cX11_digest 93 = .ok (.iload 7, 2) := by decide +kernel
theorem dX11_digest_95 : decode cX11_digest 95 = .ok (.iload 6, 2) := by decide +kernel
theorem dX11_digest_97 : decode cX11_digest 97 = .ok (.if_icmp .ge 26, 3) := by decide +kernel
theorem dX11_digest_100 : decode cX11_digest 100 = .ok (.aload 5, 2) := by decide +kernel
theorem dX11_digest_102 : decode cX11_digest 102 = .ok (.iload 7, 2) := by decide +kernel
theorem dX11_digest_104 : decode cX11_digest 104 = .ok (.iaload, 1) := by decide +kernel
theorem dX11_digest_105 : decode cX11_digest 105 = .ok (.istore 8, 2) := by decide +kernel
theorem dX11_digest_107 : decode cX11_digest 107 = .ok (.lload_n 3, 1) := by decide +kernel
theorem dX11_digest_108 : decode cX11_digest 108 = .ok (.ldc2_w 382, 3) := by decide +kernel
theorem dX11_digest_111 : decode cX11_digest 111 = .ok (.lmul, 1) := by decide +kernel
theorem dX11_digest_112 : decode cX11_digest 112 = .ok (.iload 8, 2) := by decide +kernel
theorem dX11_digest_114 : decode cX11_digest 114 = .ok (.i2l, 1) := by decide +kernel
theorem dX11_digest_115 : decode cX11_digest 115 = .ok (.ladd, 1) := by decide +kernel
theorem dX11_digest_116 : decode cX11_digest 116 = .ok (.lstore_n 3, 1) := by decide +kernel
theorem dX11_digest_117 : decode cX11_digest 117 = .ok (.iinc 7 1, 3) := by decide +kernel
theorem dX11_digest_120 : decode cX11_digest 120 = .ok (.goto (-27), 3) := by decide +kernel
theorem dX11_digest_123 : decode cX11_digest 123 = .ok (.iconst 0, 1) := by decide +kernel
theorem dX11_digest_124 : decode cX11_digest 124 = .ok (.istore 5, 2) := by decide +kernel
theorem dX11_digest_126 : decode cX11_digest 126 = .ok (.iload 5, 2) := by decide +kernel
theorem dX11_digest_128 : decode cX11_digest 128 = .ok (.aload_n 0, 1) := by decide +kernel
theorem dX11_digest_129 : decode cX11_digest 129 = .ok (.getfield 35, 3) := by decide +kernel
theorem dX11_digest_132 : decode cX11_digest 132 = .ok (.getfield 149, 3) := by decide +kernel
theorem dX11_digest_135 : decode cX11_digest 135 = .ok (.if_icmp .ge 165, 3) := by decide +kernel
theorem dX11_digest_138 : decode cX11_digest 138 = .ok (.bipush 8, 2) := by decide +kernel
theorem dX11_digest_140 : decode cX11_digest 140 = .ok (.newarray .int, 2) := by decide +kernel
theorem dX11_digest_142 : decode cX11_digest 142 = .ok (.dup, 1) := by decide +kernel
theorem dX11_digest_143 : decode cX11_digest 143 = .ok (.iconst 0, 1) := by decide +kernel
theorem dX11_digest_144 : decode cX11_digest 144 = .ok (.aload_n 0, 1) := by decide +kernel
theorem dX11_digest_145 : decode cX11_digest 145 = .ok (.getfield 48, 3) := by decide +kernel
theorem dX11_digest_148 : decode cX11_digest 148 = .ok (.getfield 292, 3) := by decide +kernel
theorem dX11_digest_151 : decode cX11_digest 151 = .ok (.iload 5, 2) := by decide +kernel
theorem dX11_digest_153 : decode cX11_digest 153 = .ok (.iaload, 1) := by decide +kernel
theorem dX11_digest_154 : decode cX11_digest 154 = .ok (.iastore, 1) := by decide +kernel
theorem dX11_digest_155 : decode cX11_digest 155 = .ok (.dup, 1) := by decide +kernel
theorem dX11_digest_156 : decode cX11_digest 156 = .ok (.iconst 1, 1) := by decide +kernel
theorem dX11_digest_157 : decode cX11_digest 157 = .ok (.aload_n 0, 1) := by decide +kernel
theorem dX11_digest_158 : decode cX11_digest 158 = .ok (.getfield 48, 3) := by decide +kernel
theorem dX11_digest_161 : decode cX11_digest 161 = .ok (.getfield 314, 3) := by decide +kernel
theorem dX11_digest_164 : decode cX11_digest 164 = .ok (.iload 5, 2) := by decide +kernel
theorem dX11_digest_166 : decode cX11_digest 166 = .ok (.iaload, 1) := by decide +kernel
theorem dX11_digest_167 : decode cX11_digest 167 = .ok (.iastore, 1) := by decide +kernel
theorem dX11_digest_168 : decode cX11_digest 168 = .ok (.dup, 1) := by decide +kernel
theorem dX11_digest_169 : decode cX11_digest 169 = .ok (.iconst 2, 1) := by decide +kernel
theorem dX11_digest_170 : decode cX11_digest 170 = .ok (.aload_n 0, 1) := by decide +kernel
theorem dX11_digest_171 : decode cX11_digest 171 = .ok (.getfield 48, 3) := by decide +kernel
theorem dX11_digest_174 : decode cX11_digest 174 = .ok (.getfield 293, 3) := by decide +kernel
theorem dX11_digest_177 : decode cX11_digest 177 = .ok (.iload 5, 2) := by decide +kernel
theorem dX11_digest_179 : decode cX11_digest 179 = .ok (.iaload, 1) := by decide +kernel
theorem dX11_digest_180 : decode cX11_digest 180 = .ok (.iastore, 1) := by decide +kernel
theorem dX11_digest_181 : decode cX11_digest 181 = .ok (.dup, 1) := by decide +kernel
theorem dX11_digest_182 : decode cX11_digest 182 = .ok (.iconst 3, 1) := by decide +kernel
theorem dX11_digest_183 : decode cX11_digest 183 = .ok (.aload_n 0, 1) := by decide +kernel
theorem dX11_digest_184 : decode cX11_digest 184 = .ok (.iload 5, 2) := by decide +kernel
theorem dX11_digest_186 : decode cX11_digest 186 = .ok (.invokevirtual 352, 3) := by decide +kernel
theorem dX11_digest_189 : decode cX11_digest 189 = .ok (.iastore, 1) := by decide +kernel
theorem dX11_digest_190 : decode cX11_digest 190 = .ok (.dup, 1) := by decide +kernel
theorem dX11_digest_191 : decode cX11_digest 191 = .ok (.iconst 4, 1) := by decide +kernel
theorem dX11_digest_192 : decode cX11_digest 192 = .ok (.aload_n 0, 1) := by decide +kernel
theorem dX11_digest_193 : decode cX11_digest 193 = .ok (.getfield 58, 3) := by decide +kernel
theorem dX11_digest_196 : decode cX11_digest 196 = .ok (.iload 5, 2) := by decide +kernel
theorem dX11_digest_198 : decode cX11_digest 198 = .ok (.iaload, 1) := by decide +kernel
theorem dX11_digest_199 : decode cX11_digest 199 = .ok (.iastore, 1) := by decide +kernel
theorem dX11_digest_200 : decode cX11_digest 200 = .ok (.dup, 1) := by decide +kernel
theorem dX11_digest_201 : decode cX11_digest 201 = .ok (.iconst 5, 1) := by decide +kernel
theorem dX11_digest_202 : decode cX11_digest 202 = .ok (.aload_n 0, 1) := by decide +kernel
theorem dX11_digest_203 : decode cX11_digest 203 = .ok (.getfield 55, 3) := by decide +kernel
theorem dX11_digest_206 : decode cX11_digest 206 = .ok (.iload 5, 2) := by decide +kernel
theorem dX11_digest_208 : decode cX11_digest 208 = .ok (.iaload, 1) := by decide +kernel
theorem dX11_digest_209 : decode cX11_digest 209 = .ok (.aload_n 0, 1) := by decide +kernel
theorem dX11_digest_210 : decode cX11_digest 210 = .ok (.getfield 58, 3) := by decide +kernel
theorem dX11_digest_213 : decode cX11_digest 213 = .ok (.iload 5, 2) := by decide +kernel
theorem dX11_digest_215 : decode cX11_digest 215 = .ok (.iaload, 1) := by decide +kernel
theorem dX11_digest_216 : decode cX11_digest 216 = .ok (.isub, 1) := by decide +kernel
theorem dX11_digest_217 : decode cX11_digest 217 = .ok (.iastore, 1) := by decide +kernel
theorem dX11_digest_218 : decode cX11_digest 218 = .ok (.dup, 1) := by decide +kernel
theorem dX11_digest_219 : decode cX11_digest 219 = .ok (.bipush 6, 2) := by decide +kernel
theorem dX11_digest_221 : decode cX11_digest 221 = .ok (.aload_n 0, 1) := by decide +kernel
theorem dX11_digest_222 : decode cX11_digest 222 = .ok (.getfield 61, 3) := by decide +kernel
theorem dX11_digest_225 : decode cX11_digest 225 = .ok (.iload 5, 2) := by decide +kernel
theorem dX11_digest_227 : decode cX11_digest 227 = .ok (.iaload, 1) := by decide +kernel
theorem dX11_digest_228 : decode cX11_digest 228 = .ok (.iastore, 1) := by decide +kernel
theorem dX11_digest_229 : decode cX11_digest 229 = .ok (.dup, 1) := by decide +kernel
theorem dX11_digest_230 : decode cX11_digest 230 = .ok (.bipush 7, 2) := by decide +kernel
theorem dX11_digest_232 : decode cX11_digest 232 = .ok (.aload_n 0, 1) := by decide +kernel
theorem dX11_digest_233 : decode cX11_digest 233 = .ok (.getfield 48, 3) := by decide +kernel
theorem dX11_digest_236 : decode cX11_digest 236 = .ok (.iload 5, 2) := by decide +kernel
theorem dX11_digest_238 : decode cX11_digest 238 = .ok (.invokevirtual 289, 3) := by decide +kernel
theorem dX11_digest_241 : decode cX11_digest 241 = .ok (.ifCond .eq 7, 3) := by decide +kernel
theorem dX11_digest_244 : decode cX11_digest 244 = .ok (.iconst 1, 1) := by decide +kernel
theorem dX11_digest_245 : decode cX11_digest 245 = .ok (.goto 4, 3) := by decide +kernel
theorem dX11_digest_248 : decode cX11_digest 248 = .ok (.iconst 0, 1) := by decide +kernel
theorem dX11_digest_249 : decode cX11_digest 249 = .ok (.iastore, 1) := by decide +kernel
theorem dX11_digest_250 : decode cX11_digest 250 = .ok (.astore 6, 2) := by decide +kernel
theorem dX11_digest_252 : decode cX11_digest 252 = .ok (.aload 6, 2) := by decide +kernel
theorem dX11_digest_254 : decode cX11_digest 254 = .ok (.astore 7, 2) := by decide +kernel
theorem dX11_digest_256 : decode cX11_digest 256 = .ok (.aload 7, 2) := by decide +kernel
theorem dX11_digest_258 : decode cX11_digest 258 = .ok (.arraylength, 1) := by decide +kernel
theorem dX11_digest_259 : decode cX11_digest 259 = .ok (.istore 8, 2) := by decide +kernel
theorem dX11_digest_261 : decode cX11_digest 261 = .ok (.iconst 0, 1) := by decide +kernel
theorem dX11_digest_262 : decode cX11_digest 262 = .ok (.istore 9, 2) := by decide +kernel
theorem dX11_digest_264 : decode cX11_digest 264 = .ok (.iload 9, 2) := by decide +kernel
theorem dX11_digest_266 : decode cX11_digest 266 = .ok (.iload 8, 2) := by decide +kernel
theorem dX11_digest_268 : decode cX11_digest 268 = .ok (.if_icmp .ge 26, 3) := by decide +kernel
theorem dX11_digest_271 : decode cX11_digest 271 = .ok (.aload 7, 2) := by decide +kernel
theorem dX11_digest_273 : decode cX11_digest 273 = .ok (.iload 9, 2) := by decide +kernel
theorem dX11_digest_275 : decode cX11_digest 275 = .ok (.iaload, 1) := by decide +kernel
theorem dX11_digest_276 : decode cX11_digest 276 = .ok (.istore 10, 2) := by decide +kernel
theorem dX11_digest_278 : decode cX11_digest 278 = .ok (.lload_n 3, 1) := by decide +kernel
theorem dX11_digest_279 : decode cX11_digest 279 = .ok (.ldc2_w 382, 3) := by decide +kernel
theorem dX11_digest_282 : decode cX11_digest 282 = .ok (.lmul, 1) := by decide +kernel
theorem dX11_digest_283 : decode cX11_digest 283 = .ok (.iload 10, 2) := by decide +kernel
theorem dX11_digest_285 : decode cX11_digest 285 = .ok (.i2l, 1) := by decide +kernel
theorem dX11_digest_286 : decode cX11_digest 286 = .ok (.ladd, 1) := by decide +kernel
theorem dX11_digest_287 : decode cX11_digest 287 = .ok (.lstore_n 3, 1) := by decide +kernel
theorem dX11_digest_288 : decode cX11_digest 288 = .ok (.iinc 9 1, 3) := by decide +kernel
theorem dX11_digest_291 : decode cX11_digest 291 = .ok (.goto (-27), 3) := by decide +kernel
theorem dX11_digest_294 : decode cX11_digest 294 = .ok (.iinc 5 1, 3) := by decide +kernel
theorem dX11_digest_297 : decode cX11_digest 297 = .ok (.goto (-171), 3) := by decide +kernel
theorem dX11_digest_300 : decode cX11_digest 300 = .ok (.lload_n 3, 1) := by decide +kernel
theorem dX11_digest_301 : decode cX11_digest 301 = .ok (.ldc2_w 382, 3) := by decide +kernel
theorem dX11_digest_304 : decode cX11_digest 304 = .ok (.lmul, 1) := by decide +kernel
theorem dX11_digest_305 : decode cX11_digest 305 = .ok (.aload_n 0, 1) := by decide +kernel
theorem dX11_digest_306 : decode cX11_digest 306 = .ok (.getfield 48, 3) := by decide +kernel
theorem dX11_digest_309 : decode cX11_digest 309 = .ok (.getfield 311, 3) := by decide +kernel
theorem dX11_digest_312 : decode cX11_digest 312 = .ok (.i2l, 1) := by decide +kernel
theorem dX11_digest_313 : decode cX11_digest 313 = .ok (.ladd, 1) := by decide +kernel
theorem dX11_digest_314 : decode cX11_digest 314 = .ok (.ldc2_w 382, 3) := by decide +kernel
theorem dX11_digest_317 : decode cX11_digest 317 = .ok (.lmul, 1) := by decide +kernel
theorem dX11_digest_318 : decode cX11_digest 318 = .ok (.aload_n 0, 1) := by decide +kernel
theorem dX11_digest_319 : decode cX11_digest 319 = .ok (.getfield 48, 3) := by decide +kernel
theorem dX11_digest_322 : decode cX11_digest 322 = .ok (.getfield 355, 3) := by decide +kernel
theorem dX11_digest_325 : decode cX11_digest 325 = .ok (.i2l, 1) := by decide +kernel
theorem dX11_digest_326 : decode cX11_digest 326 = .ok (.ladd, 1) := by decide +kernel
theorem dX11_digest_327 : decode cX11_digest 327 = .ok (.ldc2_w 382, 3) := by decide +kernel
theorem dX11_digest_330 : decode cX11_digest 330 = .ok (.lmul, 1) := by decide +kernel
theorem dX11_digest_331 : decode cX11_digest 331 = .ok (.aload_n 0, 1) := by decide +kernel
theorem dX11_digest_332 : decode cX11_digest 332 = .ok (.getfield 48, 3) := by decide +kernel
theorem dX11_digest_335 : decode cX11_digest 335 = .ok (.getfield 367, 3) := by decide +kernel
theorem dX11_digest_338 : decode cX11_digest 338 = .ok (.i2l, 1) := by decide +kernel
theorem dX11_digest_339 : decode cX11_digest 339 = .ok (.ladd, 1) := by decide +kernel
theorem dX11_digest_340 : decode cX11_digest 340 = .ok (.lstore_n 3, 1) := by decide +kernel
theorem dX11_digest_341 : decode cX11_digest 341 = .ok (.iconst 0, 1) := by decide +kernel
theorem dX11_digest_342 : decode cX11_digest 342 = .ok (.istore 5, 2) := by decide +kernel
theorem dX11_digest_344 : decode cX11_digest 344 = .ok (.iload 5, 2) := by decide +kernel
theorem dX11_digest_346 : decode cX11_digest 346 = .ok (.aload_n 0, 1) := by decide +kernel
theorem dX11_digest_347 : decode cX11_digest 347 = .ok (.getfield 48, 3) := by decide +kernel
theorem dX11_digest_350 : decode cX11_digest 350 = .ok (.getfield 311, 3) := by decide +kernel
theorem dX11_digest_353 : decode cX11_digest 353 = .ok (.if_icmp .ge 43, 3) := by decide +kernel
theorem dX11_digest_356 : decode cX11_digest 356 = .ok (.lload_n 3, 1) := by decide +kernel
theorem dX11_digest_357 : decode cX11_digest 357 = .ok (.ldc2_w 382, 3) := by decide +kernel
theorem dX11_digest_360 : decode cX11_digest 360 = .ok (.lmul, 1) := by decide +kernel
theorem dX11_digest_361 : decode cX11_digest 361 = .ok (.aload_n 0, 1) := by decide +kernel
theorem dX11_digest_362 : decode cX11_digest 362 = .ok (.getfield 48, 3) := by decide +kernel
theorem dX11_digest_365 : decode cX11_digest 365 = .ok (.getfield 361, 3) := by decide +kernel
theorem dX11_digest_368 : decode cX11_digest 368 = .ok (.iload 5, 2) := by decide +kernel
theorem dX11_digest_370 : decode cX11_digest 370 = .ok (.iaload, 1) := by decide +kernel
theorem dX11_digest_371 : decode cX11_digest 371 = .ok (.i2l, 1) := by decide +kernel
theorem dX11_digest_372 : decode cX11_digest 372 = .ok (.ladd, 1) := by decide +kernel
theorem dX11_digest_373 : decode cX11_digest 373 = .ok (.ldc2_w 382, 3) := by decide +kernel
theorem dX11_digest_376 : decode cX11_digest 376 = .ok (.lmul, 1) := by decide +kernel
theorem dX11_digest_377 : decode cX11_digest 377 = .ok (.aload_n 0, 1) := by decide +kernel
theorem dX11_digest_378 : decode cX11_digest 378 = .ok (.getfield 48, 3) := by decide +kernel
theorem dX11_digest_381 : decode cX11_digest 381 = .ok (.getfield 364, 3) := by decide +kernel
theorem dX11_digest_384 : decode cX11_digest 384 = .ok (.iload 5, 2) := by decide +kernel
theorem dX11_digest_386 : decode cX11_digest 386 = .ok (.iaload, 1) := by decide +kernel
theorem dX11_digest_387 : decode cX11_digest 387 = .ok (.i2l, 1) := by decide +kernel
theorem dX11_digest_388 : decode cX11_digest 388 = .ok (.ladd, 1) := by decide +kernel
theorem dX11_digest_389 : decode cX11_digest 389 = .ok (.lstore_n 3, 1) := by decide +kernel
theorem dX11_digest_390 : decode cX11_digest 390 = .ok (.iinc 5 1, 3) := by decide +kernel
theorem dX11_digest_393 : decode cX11_digest 393 = .ok (.goto (-49), 3) := by decide +kernel
theorem dX11_digest_396 : decode cX11_digest 396 = .ok (.aload_n 0, 1) := by decide +kernel
theorem dX11_digest_397 : decode cX11_digest 397 = .ok (.iconst 0, 1) := by decide +kernel
theorem dX11_digest_398 : decode cX11_digest 398 = .ok (.putfield 64, 3) := by decide +kernel
theorem dX11_digest_401 : decode cX11_digest 401 = .ok (.lload_n 3, 1) := by decide +kernel
theorem dX11_digest_402 : decode cX11_digest 402 = .ok (.lreturn, 1) := by decide +kernel
end
section
/-! the Strings that the run reads, by number: the class's keywords, "", its symbols; the reference's words (28 and on); the messages -/
def A0 (sz : Nat) : Nat → Prop := fun q => sz ≤ q
def sTab : List (String × Nat × String × List Int32) := [("PeriscopeTrain$Tokens", 97, "mirror", [109, 105, 114, 114, 111, 114]), ("PeriscopeTrain$Tokens", 99, "clarity", [99, 108, 97, 114, 105, 116, 121]), ("PeriscopeTrain$Tokens", 101, "offset", [111, 102, 102, 115, 101, 116]), ("PeriscopeTrain$Tokens", 103, "width", [119, 105, 100, 116, 104]), ("PeriscopeTrain$Tokens", 105, "limit", [108, 105, 109, 105, 116]), ("PeriscopeTrain$Tokens", 107, "shake", [115, 104, 97, 107, 101]), ("PeriscopeTrain$Tokens", 109, "by", [98, 121]), ("PeriscopeTrain$Tokens", 111, "dust", [100, 117, 115, 116]), ("PeriscopeTrain$Tokens", 113, "clean", [99, 108, 101, 97, 110]), ("PeriscopeTrain$Tokens", 115, "align", [97, 108, 105, 103, 110]), ("PeriscopeTrain$Tokens", 117, "replace", [114, 101, 112, 108, 97, 99, 101]), ("PeriscopeTrain$Tokens", 119, "when", [119, 104, 101, 110]), ("PeriscopeTrain$Tokens", 121, "minute", [109, 105, 110, 117, 116, 101]), ("PeriscopeTrain$Tokens", 123, "light", [108, 105, 103, 104, 116]), ("PeriscopeTrain$Tokens", 125, "jobs", [106, 111, 98, 115]), ("PeriscopeTrain$Tokens", 127, "lost", [108, 111, 115, 116]), ("PeriscopeTrain$Tokens", 129, "tilt", [116, 105, 108, 116]), ("PeriscopeTrain$Tokens", 131, "best", [98, 101, 115, 116]), ("PeriscopeTrain$Tokens", 133, "of", [111, 102]), ("PeriscopeTrain$Tokens", 135, "seen", [115, 101, 101, 110]), ("PeriscopeTrain$Tokens", 137, "waits", [119, 97, 105, 116, 115]), ("PeriscopeTrain$Tokens", 139, "not", [110, 111, 116]), ("PeriscopeTrain$Tokens", 141, "and", [97, 110, 100]), ("PeriscopeTrain$Tokens", 143, "or", [111, 114]), ("PeriscopeTrain$Tokens", 145, "min", [109, 105, 110]), ("PeriscopeTrain$Tokens", 147, "max", [109, 97, 120]), ("PeriscopeTrain$Tokens", 149, "", []), ("PeriscopeTrain$Tokens", 90, "()[];,+-*/<>=", [40, 41, 91, 93, 59, 44, 43, 45, 42, 47, 60, 62, 61]), ("PeriscopeTrainModel", 384, "mirror", [109, 105, 114, 114, 111, 114]), ("PeriscopeTrainModel", 385, "clarity", [99, 108, 97, 114, 105, 116, 121]), ("PeriscopeTrainModel", 386, "offset", [111, 102, 102, 115, 101, 116]), ("PeriscopeTrainModel", 387, "width", [119, 105, 100, 116, 104]), ("PeriscopeTrainModel", 388, "limit", [108, 105, 109, 105, 116]), ("PeriscopeTrainModel", 389, "shake", [115, 104, 97, 107, 101]), ("PeriscopeTrainModel", 391, "by", [98, 121]), ("PeriscopeTrainModel", 393, "dust", [100, 117, 115, 116]), ("PeriscopeTrainModel", 395, "clean", [99, 108, 101, 97, 110]), ("PeriscopeTrainModel", 396, "align", [97, 108, 105, 103, 110]), ("PeriscopeTrainModel", 398, "replace", [114, 101, 112, 108, 97, 99, 101]), ("PeriscopeTrainModel", 400, "when", [119, 104, 101, 110]), ("PeriscopeTrainModel", 402, "minute", [109, 105, 110, 117, 116, 101]), ("PeriscopeTrainModel", 404, "light", [108, 105, 103, 104, 116]), ("PeriscopeTrainModel", 405, "jobs", [106, 111, 98, 115]), ("PeriscopeTrainModel", 406, "lost", [108, 111, 115, 116]), ("PeriscopeTrainModel", 408, "tilt", [116, 105, 108, 116]), ("PeriscopeTrainModel", 409, "best", [98, 101, 115, 116]), ("PeriscopeTrainModel", 410, "of", [111, 102]), ("PeriscopeTrainModel", 412, "seen", [115, 101, 101, 110]), ("PeriscopeTrainModel", 413, "waits", [119, 97, 105, 116, 115]), ("PeriscopeTrainModel", 415, "not", [110, 111, 116]), ("PeriscopeTrainModel", 417, "and", [97, 110, 100]), ("PeriscopeTrainModel", 419, "or", [111, 114]), ("PeriscopeTrainModel", 421, "min", [109, 105, 110]), ("PeriscopeTrainModel", 422, "max", [109, 97, 120]), ("PeriscopeTrain", 74, "the tape would be too long", [116, 104, 101, 32, 116, 97, 112, 101, 32, 119, 111, 117, 108, 100, 32, 98, 101, 32, 116, 111, 111, 32, 108, 111, 110, 103]), ("PeriscopeTrain", 85, "the tape does not have so many bytes", [116, 104, 101, 32, 116, 97, 112, 101, 32, 100, 111, 101, 115, 32, 110, 111, 116, 32, 104, 97, 118, 101, 32, 115, 111, 32, 109, 97, 110, 121, 32, 98, 121, 116, 101, 115]), ("PeriscopeTrain", 137, "there are no mirrors", [116, 104, 101, 114, 101, 32, 97, 114, 101, 32, 110, 111, 32, 109, 105, 114, 114, 111, 114, 115]), ("PeriscopeTrain", 270, "there is no such mirror", [116, 104, 101, 114, 101, 32, 105, 115, 32, 110, 111, 32, 115, 117, 99, 104, 32, 109, 105, 114, 114, 111, 114]), ("PeriscopeTrain", 157, "there is no such place in the row", [116, 104, 101, 114, 101, 32, 105, 115, 32, 110, 111, 32, 115, 117, 99, 104, 32, 112, 108, 97, 99, 101, 32, 105, 110, 32, 116, 104, 101, 32, 114, 111, 119]), ("PeriscopeTrain", 272, "there is no job at this place", [116, 104, 101, 114, 101, 32, 105, 115, 32, 110, 111, 32, 106, 111, 98, 32, 97, 116, 32, 116, 104, 105, 115, 32, 112, 108, 97, 99, 101]), ("PeriscopeTrain", 185, "there is no such kind of job", [116, 104, 101, 114, 101, 32, 105, 115, 32, 110, 111, 32, 115, 117, 99, 104, 32, 107, 105, 110, 100, 32, 111, 102, 32, 106, 111, 98]), ("PeriscopeTrain", 191, "the queue is full or has this job", [116, 104, 101, 32, 113, 117, 101, 117, 101, 32, 105, 115, 32, 102, 117, 108, 108, 32, 111, 114, 32, 104, 97, 115, 32, 116, 104, 105, 115, 32, 106, 111, 98]), ("PeriscopeTrain", 200, "a mirror can't be turned so far", [97, 32, 109, 105, 114, 114, 111, 114, 32, 99, 97, 110, 39, 116, 32, 98, 101, 32, 116, 117, 114, 110, 101, 100, 32, 115, 111, 32, 102, 97, 114]), ("PeriscopeTrain", 205, "there is no such dust", [116, 104, 101, 114, 101, 32, 105, 115, 32, 110, 111, 32, 115, 117, 99, 104, 32, 100, 117, 115, 116]), ("PeriscopeTrain", 274, "minutes are 1 to 100", [109, 105, 110, 117, 116, 101, 115, 32, 97, 114, 101, 32, 49, 32, 116, 111, 32, 49, 48, 48])]
abbrev NS : Nat := 65
def sG (i : Nat) : String × Nat × String × List Int32 := sTab.getD i ("", 0, "", [])
def sB (i : Nat) : List Int32 := (sG i).2.2.2
def sL (i : Nat) : Nat := (sB i).length
def SO1 (sz : Nat) (aK aV : Nat → Nat) (i : Nat) (U : State) (H : Heap) : Prop := va_O "java/lang/String" (aK i) (A0 sz) U H ∧ va_OF "java/lang/String" "coder" "B" (.int 0) (aK i) (A0 sz) U H ∧ va_OF "java/lang/String" "value" "[B" (.ref (aV i)) (aK i) (A0 sz) U H ∧ va_T .byte (aV i) (sL i) (fun j => .int ((sB i).getD j 0)) (A0 sz) U H
def OOx (sz : Nat) (aK aV : Nat → Nat) (tW : Nat) (U : State) (H : Heap) : Prop :=
  va_Z "java/lang/String" "COMPACT_STRINGS" "Z" (.int 1) (A0 sz) U H ∧ va_Zq "jdk/internal/util/Preconditions" "SIOOBE_FORMATTER" "Ljava/util/function/BiFunction;" (A0 sz) U H ∧
  vx_Zq Bundle.tN "UNASSIGNED_STACK" Bundle.steD (A0 sz) U H ∧ vx_Zq Bundle.tN "SUPPRESSED_SENTINEL" Bundle.listD (A0 sz) U H ∧
  va_Z "PeriscopeTrainModel" "WORDS" "[Ljava/lang/String;" (.ref tW) (A0 sz) U H ∧ va_T (.object "java/lang/String") tW 26 (fun j => .ref (aK (28 + j))) (A0 sz) U H ∧
  ∀ i, i < NS → SO1 sz aK aV i U H ∧ vk_R (sG i).1 (sG i).2.1 (sG i).2.2.1 (aK i) U
theorem OOx.same {sz : Nat} {aK aV : Nat → Nat} {tW : Nat} {u U : State} {H : Heap} (hv : U.vm = u.vm) (h : OOx sz aK aV tW u H) : OOx sz aK aV tW U H := by
  have hvm : u.vm.Alike U.vm := by rw [hv]; exact Vm.Alike.refl _
  obtain ⟨h1, h2, h3, h4, h5, h6, h7⟩ := h
  exact ⟨h1.moved hvm, h2.moved hvm, h3.moved hvm, h4.moved hvm, h5.moved hvm, h6.moved hvm, fun i hi => ⟨⟨(h7 i hi).1.1.moved hvm, (h7 i hi).1.2.1.moved hvm, (h7 i hi).1.2.2.1.moved hvm, (h7 i hi).1.2.2.2.moved hvm⟩, vk_R.same hv (h7 i hi).2⟩⟩
theorem OOx.step {sz : Nat} {aK aV : Nat → Nat} {tW : Nat} {u U : State} {H H1 : Heap} (hW : u.WarmedH U.vm) (hq : ∀ a : Nat, a < H.size → ¬ A0 sz a → H1[a]? = H[a]?) (h : OOx sz aK aV tW u H) : OOx sz aK aV tW U H1 := by
  have hvm : u.vm.Alike U.vm := hW.alike
  obtain ⟨h1, h2, h3, h4, h5, h6, h7⟩ := h
  exact ⟨(h1.moved hvm).kept hq, (h2.moved hvm).kept hq, (h3.moved hvm).kept hq, (h4.moved hvm).kept hq, (h5.moved hvm).kept hq, (h6.moved hvm).kept hq, fun i hi => ⟨⟨((h7 i hi).1.1.moved hvm).kept hq, ((h7 i hi).1.2.1.moved hvm).kept hq, ((h7 i hi).1.2.2.1.moved hvm).kept hq, ((h7 i hi).1.2.2.2.moved hvm).kept hq⟩, vk_R.warm hW (h7 i hi).2⟩⟩
end
section
/-! the words that every contract may use: all good words of the tables -/
def TB : List Cond := lw_tbl.filter goodWord
def isNest : Cond → Bool
  | .fieldLinkNest _ _ _ _ _ _ => true
  | .methodLinkNest _ _ _ _ => true
  | .castable _ _ => true
  | .declares _ => true
  | _ => false
def NB : List Cond := tables_1.filter isNest
theorem mTB {w : Cond} (h : (decide (w ∈ lw_tbl) && goodWord w) = true) : w ∈ TB := by
  simp only [Bool.and_eq_true, decide_eq_true_eq] at h
  exact List.mem_filter.mpr h
theorem mNB {w : Cond} (h : (decide (w ∈ tables_1) && isNest w) = true) : w ∈ NB := by
  simp only [Bool.and_eq_true, decide_eq_true_eq] at h
  exact List.mem_filter.mpr h
theorem goodTB {w : Cond} (h : w ∈ TB) : goodWord w = true := (List.mem_filter.mp h).2
theorem gTB : GoodIn TB TB := fun _ h => ⟨h, good_of_word (goodTB h)⟩
theorem nestNB {w : Cond} (h : w ∈ NB) : isNest w = true := (List.mem_filter.mp h).2
theorem Nw_warm {w : Cond} {s U : State} (hW : s.WarmedH U.vm) (h : w ∈ NB) (hZ : va_Nw w s) : va_Nw w U := by
  have hn := nestNB h
  cases w <;> first | exact va_Nw.warmF hW hZ | exact va_Nw.warmM hW hZ | exact va_Nw.warmC hW hZ | exact va_Nw.warmD hW hZ | cases hn
theorem Nw_same {w : Cond} {u U : State} (hv : u.vm = U.vm) (h : w ∈ NB) (hZ : va_Nw w u) : va_Nw w U := by
  have hn := nestNB h
  cases w <;> first | exact va_Nw.same rfl hv hZ | cases hn
def wz (y : MethodName) (c : ByteArray) (n : Nat) (r : Option FieldType) : List Cond := Cond.code y c n r :: TB
theorem gwz {y : MethodName} {c : ByteArray} {n : Nat} {r : Option FieldType} (h : Cond.code y c n r ∈ TB) : GoodIn TB (wz y c n r) := fun w hw => by
  rcases List.mem_cons.mp hw with rfl | hw
  · exact gTB _ h
  · exact gTB _ hw
/-! the layout: 96 cells; kd: what lies where (below 12: an object of that class; 100000 + n: an int array of n; 200000 + n: a byte array of n) -/
abbrev NC : Nat := 96
def kdL : List Nat := [8, 5, 202000, 6, 100401, 100401, 100401, 100401, 2, 100010, 100010, 100400, 100400, 0, 1, 100010, 2, 100010, 100010, 100400, 100400, 7, 4, 100010, 100010, 100010, 100010, 100010, 100010, 100010, 3, 100012, 100012, 100400, 7, 4, 100010, 100010, 100010, 100010, 100010, 100010, 100010, 3, 100012, 100012, 100400, 11, 102000, 100402, 100402, 100402, 100402, 100010, 10, 100011, 100011, 100017, 100017, 100017, 100017, 100017, 100017, 100800, 100800, 100800, 10, 100011, 100011, 100017, 100017, 100017, 100017, 100017, 100017, 100800, 100800, 100800, 100800, 9, 100010, 100010, 100010, 100010, 100012, 100012, 9, 100010, 100010, 100010, 100010, 100012, 100012, 100010, 100010, 100010]
def kd (i : Nat) : Nat := kdL.getD i 999999
/-- slots: 0 a number; 1000 + d the cell d places on; 2000 + j the cell j -/
def skL : List (List Nat) := [[2003, 2008, 0], [2001, 2003, 2008, 2015, 0], [1001, 1002, 1003, 1004, 0, 0, 0, 0, 0], [1001, 1002, 0, 0, 0], [1001, 1002, 1003, 1004, 1005, 1006, 1007, 0, 0, 0, 0, 0, 0, 0], [2002, 0], [2001, 2004, 2005, 2006, 2007, 0], [2016, 1001, 1009, 1012, 0, 0], [2001, 2003, 2013, 2014, 2008, 2016, 2021, 2034, 0], [1001, 1002, 1003, 1004, 1005, 1006, 0, 0, 0, 0], [0, 0, 0, 1001, 1002, 0, 1003, 1004, 1005, 1006, 1007, 1008, 0, 1009, 1010, 1011], [0, 2048, 0, 0, 2049, 2050, 2051, 2052, 0, 0, 0, 0, 0, 2053, 2054, 2066, 2078, 2079, 2086, 2093, 2094, 2095, 0, 0]]
def sk (ci k : Nat) : Nat := (skL.getD ci []).getD k 0
def nsl (ci : Nat) : Nat := (skL.getD ci []).length
abbrev G : Type := Nat → Nat → Int32
def up (g : G) (o k : Nat) (v : Int32) : G := fun o' k' => if o' = o ∧ k' = k then v else g o' k'
/-- what stays through a run: classes, the two array classes, where the law's heap ended, addresses of cells, of Strings, of their bytes, of the static row of words -/
abbrev EV : Type := va_G × ClassId × ClassId × Nat × (Nat → Nat) × (Nat → Nat) × (Nat → Nat) × Nat
abbrev EV.D (E : EV) : va_G := E.1
abbrev EV.tI (E : EV) : ClassId := E.2.1
abbrev EV.tB (E : EV) : ClassId := E.2.2.1
abbrev EV.sz (E : EV) : Nat := E.2.2.2.1
abbrev EV.ad (E : EV) : Nat → Nat := E.2.2.2.2.1
abbrev EV.aK (E : EV) : Nat → Nat := E.2.2.2.2.2.1
abbrev EV.aV (E : EV) : Nat → Nat := E.2.2.2.2.2.2.1
abbrev EV.tW (E : EV) : Nat := E.2.2.2.2.2.2.2
abbrev EV.tys (E : EV) : List (ClassId × FieldType) := [(E.tI, .int), (E.tB, .byte)]
def fval (E : EV) (g : G) (o c k : Nat) : Value := if c = 0 then .int (g o k) else if c < 2000 then .ref (E.ad (o + (c - 1000))) else .ref (E.ad (c - 2000))
def fsl (E : EV) (g : G) (o ci : Nat) : List Value := (List.range (nsl ci)).map (fun k => fval E g o (sk ci k) k)
def cel (E : EV) (g : G) (o : Nat) : va_E := if kd o < 12 then .inr (kd o, fsl E g o (kd o)) else if kd o < 200000 then .inl (E.tI, kd o - 100000, .inl (g o)) else .inl (E.tB, kd o - 200000, .inl (g o))
def wl (E : EV) (g : G) : va_W := (List.range NC).map (fun o => (E.ad o, cel E g o))
theorem kd_lt {o n : Nat} (h : kd o = n) (hn : n < 999999) : o < NC := by
  rcases Nat.lt_or_ge o NC with q | q
  · exact q
  · exfalso
    have hl : kdL.length ≤ o := Nat.le_trans (by decide) q
    have : kd o = 999999 := by
      unfold kd
      rw [List.getD_eq_getElem?_getD, List.getElem?_eq_none hl]
      rfl
    omega
theorem wl_len {E : EV} {g : G} : (wl E g).length = NC := by simp [wl]
theorem wl_at {E : EV} {g : G} {o : Nat} (ho : o < NC) : (wl E g)[o]? = some (E.ad o, cel E g o) := by
  unfold wl
  rw [List.getElem?_map, List.getElem?_range ho]
  rfl
theorem wlx_at {E : EV} {g : G} {xs : va_W} {o : Nat} (ho : o < NC) : (wl E g ++ xs)[o]? = some (E.ad o, cel E g o) := by
  rw [List.getElem?_append_left (by rw [wl_len]; exact ho), wl_at ho]
theorem wlx_ge {E : EV} {g : G} {xs : va_W} {o : Nat} (ho : ¬ o < NC) : (wl E g ++ xs)[o]? = xs[o - NC]? := by
  rw [List.getElem?_append_right (by rw [wl_len]; omega), wl_len]
theorem cel_o {E : EV} {g : G} {o ci : Nat} (h : kd o = ci) (hc : ci < 12) : cel E g o = .inr (ci, fsl E g o ci) := by
  unfold cel
  rw [h, if_pos hc]
theorem cel_i {E : EV} {g : G} {o n : Nat} (h : kd o = 100000 + n) (hn : n < 100000) : cel E g o = .inl (E.tI, n, .inl (g o)) := by
  unfold cel
  rw [h, if_neg (by omega), if_pos (by omega), Nat.add_sub_cancel_left]
theorem cel_b {E : EV} {g : G} {o n : Nat} (h : kd o = 200000 + n) (hn : n < 100000) : cel E g o = .inl (E.tB, n, .inl (g o)) := by
  unfold cel
  rw [h, if_neg (by omega), if_neg (by omega), Nat.add_sub_cancel_left]
theorem fs_at {E : EV} {g : G} {o ci k : Nat} (hk : k < nsl ci) : (fsl E g o ci)[k]? = some (fval E g o (sk ci k) k) := by
  unfold fsl
  rw [List.getElem?_map, List.getElem?_range hk]
  rfl
theorem fs_len {E : EV} {g : G} {o ci : Nat} : (fsl E g o ci).length = nsl ci := by simp [fsl]
theorem up_ne {g : G} {o k : Nat} {v : Int32} {i : Nat} (h : i ≠ o) : up g o k v i = g i := funext fun _ => if_neg (fun q => h q.1)
theorem up_eq {g : G} {o k : Nat} {v : Int32} : up g o k v o = upd (g o) k v := funext fun j => by simp [up, upd]
theorem cel_same {E : EV} {g : G} {o k : Nat} {v : Int32} {i : Nat} (h : i ≠ o) : cel E (up g o k v) i = cel E g i := by
  unfold cel fsl fval
  rw [up_ne h]
theorem wl_set {E : EV} {g : G} {xs : va_W} {o k : Nat} {v : Int32} {y : va_E} (hy : cel E (up g o k v) o = y) (ho : o < NC) : (wl E g ++ xs).set o (E.ad o, y) = wl E (up g o k v) ++ xs := by
  apply List.ext_getElem?
  intro i
  rw [List.getElem?_set]
  by_cases hi : o = i
  · subst hi
    rw [if_pos rfl, if_pos (by rw [List.length_append, wl_len]; omega), wlx_at ho, hy]
  · rw [if_neg hi]
    by_cases hN : i < NC
    · rw [wlx_at hN, wlx_at hN, cel_same (Ne.symm hi)]
    · rw [wlx_ge hN, wlx_ge hN]
theorem fs_set {E : EV} {g : G} {o ci k : Nat} {v : Int32} (hs : sk ci k = 0) : (fsl E g o ci).set k (.int v) = fsl E (up g o k v) o ci := by
  apply List.ext_getElem?
  intro i
  rw [List.getElem?_set]
  by_cases hi : k = i
  · subst hi
    rw [if_pos rfl]
    by_cases hN : k < nsl ci
    · rw [if_pos (by rw [fs_len]; exact hN), fs_at hN, hs]
      simp [fval, up]
    · rw [if_neg (by rw [fs_len]; exact hN), List.getElem?_eq_none (by rw [fs_len]; omega)]
  · rw [if_neg hi]
    by_cases hN : i < nsl ci
    · rw [fs_at hN, fs_at hN]
      have e : up g o k v o i = g o i := if_neg (fun q => hi q.2.symm)
      unfold fval
      rw [e]
    · rw [List.getElem?_eq_none (by rw [fs_len]; omega), List.getElem?_eq_none (by rw [fs_len]; omega)]
/-! the classes -/
def KC (ci : Nat) (C : String) (T : u_T) (N : Nat) (ty : Nat → FieldType) : Prop := vwCl[ci]? = some (C, T, N) ∧ (∀ w ∈ u_ws C T N, w ∈ TB) ∧ (∀ k, k < N → parseFieldDescriptor (T k).2.2.1 = some (ty k)) ∧ (∀ a, a < N → ∀ b, b < N → a ≠ b → (T a).2.1 ≠ (T b).2.1) ∧ nsl ci = N
theorem KC0 : KC 0 RX0 TX0 3 tyX0 := ⟨rfl, by decide +kernel, tyX0_ok, nmX0, by decide⟩
theorem KC1 : KC 1 RX1 TX1 5 tyX1 := ⟨rfl, by decide +kernel, tyX1_ok, nmX1, by decide⟩
theorem KC2 : KC 2 RX2 TX2 9 tyX2 := ⟨rfl, by decide +kernel, tyX2_ok, nmX2, by decide⟩
theorem KC3 : KC 3 RX3 TX3 5 tyX3 := ⟨rfl, by decide +kernel, tyX3_ok, nmX3, by decide⟩
theorem KC4 : KC 4 RX4 TX4 14 tyX4 := ⟨rfl, by decide +kernel, tyX4_ok, nmX4, by decide⟩
theorem KC5 : KC 5 RX5 TX5 2 tyX5 := ⟨rfl, by decide +kernel, tyX5_ok, nmX5, by decide⟩
theorem KC6 : KC 6 RX6 TX6 6 tyX6 := ⟨rfl, by decide +kernel, tyX6_ok, nmX6, by decide⟩
theorem KC7 : KC 7 RX7 TX7 6 tyX7 := ⟨rfl, by decide +kernel, tyX7_ok, nmX7, by decide⟩
theorem KC8 : KC 8 RX8 TX8 9 tyX8 := ⟨rfl, by decide +kernel, tyX8_ok, nmX8, by decide⟩
theorem KC9 : KC 9 RX9 TX9 10 tyX9 := ⟨rfl, by decide +kernel, tyX9_ok, nmX9, by decide⟩
theorem KC10 : KC 10 RX10 TX10 16 tyX10 := ⟨rfl, by decide +kernel, tyX10_ok, nmX10, by decide⟩
theorem KC11 : KC 11 RX11 TX11 24 tyX11 := ⟨rfl, by decide +kernel, tyX11_ok, nmX11, by decide⟩
theorem KC_lt {ci : Nat} {C : String} {T : u_T} {N : Nat} {ty : Nat → FieldType} (h : KC ci C T N ty) : ci < 12 := (List.getElem?_eq_some_iff.mp h.1).1
def FL (own : String) (index ci k : Nat) (fin : Bool) (ty : FieldType) : Prop := ∃ (C : String) (T : u_T) (N : Nat) (tt : Nat → FieldType), KC ci C T N tt ∧ k < N ∧ (T k).2.2.2 = fin ∧ tt k = ty ∧ (Cond.fieldLink own index (T k).1 (T k).2.1 (T k).2.2.1 ∈ TB ∨ ∃ host, Cond.fieldLinkNest own index (T k).1 (T k).2.1 (T k).2.2.1 host ∈ NB)
/-! outer facts (Strings, statics) -/
def OO (E : EV) (U : State) (H : Heap) : Prop := OOx E.sz E.aK E.aV E.tW U H
theorem OO.same {E : EV} {u U : State} {H : Heap} (hv : U.vm = u.vm) (h : OO E u H) : OO E U H := OOx.same hv h
theorem OO.step {E : EV} {u U : State} {H H1 : Heap} (hW : u.WarmedH U.vm) (hz : E.sz ≤ H.size) (hq : ∀ a : Nat, a < E.sz → H1[a]? = H[a]?) (h : OO E u H) : OO E U H1 := OOx.step hW (fun a _ ha => hq a (Nat.not_le.mp ha)) h
/-! contracts -/
def AA (E : EV) (sz : Nat) : Nat → Prop := fun q => (∃ i, i < NC ∧ q = E.ad i) ∨ sz ≤ q
def AD (E : EV) : Prop := (∀ i j, i < NC → j < NC → E.ad i = E.ad j → i = j) ∧ ∀ i, i < NC → E.sz ≤ E.ad i
def NK (U : State) : Prop := ∀ w ∈ NB, va_Nw w U
def WB (E : EV) (g : G) (U : State) : Prop := E.sz ≤ U.heap.size ∧ va_P E.D vwCl (wl E g) U.heap ∧ va_K E.D vwCl E.tys U ∧ AD E ∧ NK U ∧ OO E U U.heap
def PC (E : EV) (sz : Nat) (av : List Value) (g : G) : Array Value → State → Prop := va_Pc av (fun U => U.heap.size = sz ∧ WB E g U)
def PT (E : EV) (g : G) : Unit → State → Prop := fun _ t => va_P E.D vwCl (wl E g) t.heap
def QI (E : EV) (sz : Nat) (r : Int32) (g : G) : Array Value → State → Outcome → State → Prop := va_Qi (fun (r' : Int32) (_ : Unit) => r' = r) (PT E g) (AA E sz)
def QL (E : EV) (sz : Nat) (r : Int64) (g : G) : Array Value → State → Outcome → State → Prop := va_Ql (fun (r' : Int64) (_ : Unit) => r' = r) (PT E g) (AA E sz)
def QV (E : EV) (sz : Nat) (g : G) : Array Value → State → Outcome → State → Prop := va_Qv (fun (_ : Unit) => True) (PT E g) (AA E sz)
def QA (E : EV) (sz : Nat) (r : Nat) (g : G) : Array Value → State → Outcome → State → Prop := va_Qr (fun (_ : Unit) => True) (fun _ a t => a = r ∧ PT E g () t) (AA E sz)
def rmD (k mc ms : Nat) : Room := { frames := k, cells := mc, slots := ms, locals := 60 * k }
def MG (E : EV) (l : Launch) (y : MethodName) (c : ByteArray) (n : Nat) (rt : Option FieldType) (k mc ms : Nat) (av : List Value) (g : G) (QQ : Nat → Array Value → State → Outcome → State → Prop) : Prop := ∀ sz, Met l y (wz y c n rt) (rmD k mc ms) (PC E sz av g) (QQ sz) mc ms (AA E sz)
/-- a method with a number as its answer -/
abbrev MI (E : EV) (l : Launch) (y : MethodName) (c : ByteArray) (n : Nat) (rt : Option FieldType) (k mc ms : Nat) (av : List Value) (g : G) (u : Int32 × G) : Prop := MG E l y c n rt k mc ms av g (fun sz => QI E sz u.1 u.2)
abbrev ML (E : EV) (l : Launch) (y : MethodName) (c : ByteArray) (n : Nat) (rt : Option FieldType) (k mc ms : Nat) (av : List Value) (g : G) (u : Int64 × G) : Prop := MG E l y c n rt k mc ms av g (fun sz => QL E sz u.1 u.2)
abbrev MV (E : EV) (l : Launch) (y : MethodName) (c : ByteArray) (n : Nat) (rt : Option FieldType) (k mc ms : Nat) (av : List Value) (g : G) (u : G) : Prop := MG E l y c n rt k mc ms av g (fun sz => QV E sz u)
abbrev MA (E : EV) (l : Launch) (y : MethodName) (c : ByteArray) (n : Nat) (rt : Option FieldType) (k mc ms : Nat) (av : List Value) (g : G) (u : Nat × G) : Prop := MG E l y c n rt k mc ms av g (fun sz => QA E sz (E.aK u.1) u.2)
/-- what holds in a method's frame -/
def Cx (p : Program) (s : State) (m : MethodId) (args : Array Value) (meth : Method) (c : Code) (cc : ByteArray) (n : Nat) (own : String) (E : EV) : Prop :=
  p.tables.exec = Jvm.exec ∧ c.code = cc ∧ c.maxLocals = n ∧ s.vm.findClass own = some m.cls ∧ (∀ w ∈ TB, w.before args s = true) ∧ va_K E.D vwCl E.tys s ∧ NK s ∧ meth.locks = false ∧ E.sz ≤ s.heap.size ∧ AD E ∧ OO E s s.heap
def Gd (E : EV) (s : State) (H : Heap) (locs : List Loc) (g : G) (xs : va_W) : Prop := va_P E.D vwCl (wl E g ++ xs) H ∧ va_D (AA E s.heap.size) (wl E g ++ xs) ∧ va_S (AA E s.heap.size) s.heap H locs
theorem wl_D {E : EV} {g : G} {A : Nat → Prop} (h : AD E) (hA : ∀ i, i < NC → A (E.ad i)) : va_D A (wl E g) := by
  have key : ∀ (k : Nat) (q : Nat × va_E), (wl E g)[k]? = some q → k < NC ∧ q.1 = E.ad k := by
    intro k q hq
    have hk : k < NC := by
      have := (List.getElem?_eq_some_iff.mp hq).1
      rwa [wl_len] at this
    rw [wl_at hk] at hq
    cases hq
    exact ⟨hk, rfl⟩
  refine ⟨fun i j p q hp hq he => ?_, fun k q hq => ?_⟩
  · obtain ⟨hi, ei⟩ := key i p hp
    obtain ⟨hj, ej⟩ := key j q hq
    exact h.1 i j hi hj (by rw [← ei, ← ej, he])
  · obtain ⟨hk, ek⟩ := key k q hq
    rw [ek]
    exact hA k hk
theorem PC_blind {E : EV} {sz : Nat} {av : List Value} {g : G} : FrameBlind (PC E sz av g) := by
  intro a U f mk h
  obtain ⟨h0, h1, h2, h3, h4, h5, h6, h7⟩ := h
  exact ⟨h0, h1, h2, h3, va_K.moved (u := U) (U := U.calling f mk a) (Vm.Alike.refl U.vm) h4, h5, fun w hw => Nw_same (u := U) rfl hw (h6 w hw), OO.same (u := U) rfl h7⟩
theorem AA_ge {E : EV} {sz q : Nat} (h : AD E) (hz : E.sz ≤ sz) (hq : AA E sz q) : E.sz ≤ q := by
  rcases hq with ⟨i, hi, rfl⟩ | hq
  · exact h.2 i hi
  · omega
/-- a method's proof begins -/
theorem MG.of {E : EV} {l : Launch} {y : MethodName} {cc : ByteArray} {n : Nat} {rt : Option FieldType} {k mc ms : Nat} {av : List Value} {g : G} {QQ : Nat → Array Value → State → Outcome → State → Prop} (hy : plainName y.cls = true) (hn : (lg_sl av).length ≤ n)
    (body : ∀ (p : Program) (e : Env) (s : State) (m : MethodId) (args : Array Value) (below : List Frame) (meth : Method) (c : Code), Cx p s m args meth c cc n y.cls E → meth.sig.returnType = rt → meth.name = y.name → ∀ ls : Array Slot, lv_has ls n (lv_args 0 av) → Gd E s s.heap [] g [] →
      W p l e (rmD k mc ms) s m args below meth c s.heap [] 0 0 (MQ below (QQ s.heap.size) args s mc ms (AA E s.heap.size)) (F0 m 0 ls [])) : MG E l y cc n rt k mc ms av g QQ := by
  intro sz
  refine Met.ofW (cc := cc) (maxL := n) (ret := rt) hy rfl ?_
  intro p e s m args below meth c s₁ B hml hv
  obtain ⟨rfl, rfl, h2, h3, h4, h5, h6, h7⟩ := hv
  have hts := atoms_spec (ws := wz y cc n rt) B.pre
  have hown : s.vm.findClass y.cls = some m.cls := findClass_of_methodNamed B.named
  rw [lg_entry_eq]
  refine body p e s m _ below meth c ⟨B.exec, B.bytes, hml, hown, fun w hw => hts w (List.mem_cons_of_mem _ hw), h4, h6, B.notSynchronized, h2, h5, h7⟩ B.returns (name_of_methodNamed B.named B.method).1 _ (lv_entry av hn) ?_
  refine ⟨by rw [List.append_nil]; exact h3, by rw [List.append_nil]; exact wl_D h5 (fun i hi => Or.inl ⟨i, hi, rfl⟩), va_S.rf⟩
/-! the pure side's words -/
def bd {β ρ : Type} (x : β) (f : β → Option ρ) : Option ρ := f x
def ld {ρ : Type} (g : G) (a n : Nat) (i : Int32) (f : Int32 → Option ρ) : Option ρ := if i < 0 ∨ n ≤ i.toNatClampNeg then none else f (g a i.toNatClampNeg)
def sto {ρ : Type} (g : G) (a n : Nat) (i v : Int32) (f : G → Option ρ) : Option ρ := if i < 0 ∨ n ≤ i.toNatClampNeg then none else f (up g a i.toNatClampNeg v)
def dv {ρ : Type} (x y : Int32) (f : Int32 → Option ρ) : Option ρ := if y = 0 then none else f (x / y)
def cpy (g : G) (a b n : Nat) : G := fun o j => if o = b ∧ j < n then g a j else g o j
theorem ld_inv {ρ : Type} {g : G} {a n : Nat} {i : Int32} {f : Int32 → Option ρ} {r : ρ} (h : ld g a n i f = some r) : vp_in i n ∧ f (g a i.toNatClampNeg) = some r := by
  unfold ld at h
  by_cases hc : i < 0 ∨ n ≤ i.toNatClampNeg
  · rw [if_pos hc] at h; cases h
  · rw [if_neg hc] at h; exact ⟨hc, h⟩
theorem sto_inv {ρ : Type} {g : G} {a n : Nat} {i v : Int32} {f : G → Option ρ} {r : ρ} (h : sto g a n i v f = some r) : vp_in i n ∧ f (up g a i.toNatClampNeg v) = some r := by
  unfold sto at h
  by_cases hc : i < 0 ∨ n ≤ i.toNatClampNeg
  · rw [if_pos hc] at h; cases h
  · rw [if_neg hc] at h; exact ⟨hc, h⟩
theorem dv_inv {ρ : Type} {x y : Int32} {f : Int32 → Option ρ} {r : ρ} (h : dv x y f = some r) : ¬ y = 0 ∧ f (x / y) = some r := by
  unfold dv at h
  by_cases hc : y = 0
  · rw [if_pos hc] at h; cases h
  · rw [if_neg hc] at h; exact ⟨hc, h⟩
theorem bind_inv {α ρ : Type} {x : Option α} {f : α → Option ρ} {r : ρ} (h : x.bind f = some r) : ∃ u, x = some u ∧ f u = some r := by
  cases x with
  | none => cases h
  | some u => exact ⟨u, rfl, h⟩
theorem if_inv {ρ : Type} {c : Prop} [Decidable c] {a b r : Option ρ} (h : (if c then a else b) = r) : (c → a = r) ∧ (¬ c → b = r) := ⟨fun hc => by rwa [if_pos hc] at h, fun hc => by rwa [if_neg hc] at h⟩
section ROWS
variable {p : Program} {l : Launch} {e : Env} {R : Room} {s : State} {m : MethodId} {args : Array Value} {below : List Frame} {meth : Method} {c : Code} {H : Heap} {locs : List Loc} {cells slots : Nat} {Q : State → Prop} {cc : ByteArray} {n : Nat} {own : String} {E : EV} {pc : Nat} {ls : Array Slot} {rest : List Value} {g : G} {xs : va_W} {ρ : Type} {r : ρ}
theorem r_get (C : Cx p s m args meth c cc n own E) (hG : Gd E s H locs g xs) {index ci k o : Nat} {fin : Bool} {ty : FieldType} (f : FL own index ci k fin ty) (hk : kd o = ci) (hd : decode cc pc = .ok (.getfield index, 3))
    (kk : W p l e R s m args below meth c H locs cells slots Q (F0 m (pc + 3) ls (fval E g o (sk ci k) k :: rest))) : W p l e R s m args below meth c H locs cells slots Q (F0 m pc ls (.ref (E.ad o) :: rest)) := by
  obtain ⟨hx, hb, -, hown, hts, hK, hN, -⟩ := C
  obtain ⟨cn, T, N, tt, hKC, hk', -, -, hl⟩ := f
  have hci := KC_lt hKC
  obtain ⟨hc, hin, -, -, hn⟩ := hKC
  have ho : o < NC := kd_lt hk (by omega)
  have he : (wl E g ++ xs)[o]? = some (E.ad o, .inr (ci, fsl E g o ci)) := by rw [wlx_at ho, cel_o hk hci]
  have hv : (fsl E g o ci)[k]? = some (fval E g o (sk ci k) k) := fs_at (by omega)
  rcases hl with hl | ⟨host, hl⟩
  · exact va_get (D := E.D) (ci := ci) (C := cn) (T := T) (N := N) hx hb hts hin hown hK hG.1 o he hc k hk' (hts _ hl) (fun _ h9 => h9) hv hd kk
  · exact va_getN (D := E.D) (ci := ci) (C := cn) (T := T) (N := N) hx hb hts hin hown hK hG.1 o he hc k hk' (va_Nw.use rfl (hN _ hl)) (fun _ h9 => h9) hv hd kk
theorem r_getI (C : Cx p s m args meth c cc n own E) (hG : Gd E s H locs g xs) {index ci k o : Nat} {fin : Bool} {ty : FieldType} (f : FL own index ci k fin ty) (hk : kd o = ci) (hs : sk ci k = 0) (hd : decode cc pc = .ok (.getfield index, 3))
    (kk : W p l e R s m args below meth c H locs cells slots Q (F0 m (pc + 3) ls (.int (g o k) :: rest))) : W p l e R s m args below meth c H locs cells slots Q (F0 m pc ls (.ref (E.ad o) :: rest)) :=
  r_get C hG f hk hd (by rw [hs]; exact kk)
theorem r_getR (C : Cx p s m args meth c cc n own E) (hG : Gd E s H locs g xs) {index ci k o d : Nat} {fin : Bool} {ty : FieldType} (f : FL own index ci k fin ty) (hk : kd o = ci) (hs : sk ci k = 1000 + d) (hd9 : d < 1000) (hd : decode cc pc = .ok (.getfield index, 3))
    (kk : W p l e R s m args below meth c H locs cells slots Q (F0 m (pc + 3) ls (.ref (E.ad (o + d)) :: rest))) : W p l e R s m args below meth c H locs cells slots Q (F0 m pc ls (.ref (E.ad o) :: rest)) :=
  r_get C hG f hk hd (by rw [hs, show fval E g o (1000 + d) k = .ref (E.ad (o + d)) by unfold fval; rw [if_neg (by omega), if_pos (by omega), Nat.add_sub_cancel_left]]; exact kk)
theorem r_getA (C : Cx p s m args meth c cc n own E) (hG : Gd E s H locs g xs) {index ci k o j : Nat} {fin : Bool} {ty : FieldType} (f : FL own index ci k fin ty) (hk : kd o = ci) (hs : sk ci k = 2000 + j) (hd : decode cc pc = .ok (.getfield index, 3))
    (kk : W p l e R s m args below meth c H locs cells slots Q (F0 m (pc + 3) ls (.ref (E.ad j) :: rest))) : W p l e R s m args below meth c H locs cells slots Q (F0 m pc ls (.ref (E.ad o) :: rest)) :=
  r_get C hG f hk hd (by rw [hs, show fval E g o (2000 + j) k = .ref (E.ad j) by unfold fval; rw [if_neg (by omega), if_neg (by omega), Nat.add_sub_cancel_left]]; exact kk)
theorem r_put (C : Cx p s m args meth c cc n own E) (hG : Gd E s H locs g xs) {index ci k o : Nat} {ty : FieldType} {v : Int32} (f : FL own index ci k false ty) (hk : kd o = ci) (hs : sk ci k = 0) (hn : narrow ty (.int v) = .int v) (hfit : fits ty (.int v) = true) (hd : decode cc pc = .ok (.putfield index, 3))
    (kk : ∀ (H1 : Heap) (locs1 : List Loc), Gd E s H1 locs1 (up g o k v) xs → W p l e R s m args below meth c H1 locs1 cells slots Q (F0 m (pc + 3) ls rest)) : W p l e R s m args below meth c H locs cells slots Q (F0 m pc ls (.int v :: .ref (E.ad o) :: rest)) := by
  obtain ⟨hx, hb, -, hown, hts, hK, hN, -⟩ := C
  obtain ⟨cn, T, N, tt, hKC, hk', hfin, htt, hl⟩ := f
  have hci := KC_lt hKC
  obtain ⟨hc, hin, hty, hnm, hn2⟩ := hKC
  have ho : o < NC := kd_lt hk (by omega)
  have he : (wl E g ++ xs)[o]? = some (E.ad o, .inr (ci, fsl E g o ci)) := by rw [wlx_at ho, cel_o hk hci]
  have hp9 : parseFieldDescriptor (T k).2.2.1 = some ty := by rw [hty k hk', htt]
  have hset : (wl E g ++ xs).set o (E.ad o, .inr (ci, (fsl E g o ci).set k (.int v))) = wl E (up g o k v) ++ xs := wl_set (by rw [cel_o hk hci, fs_set hs]) ho
  have kk' : ∀ (H1 : Heap) (locs1 : List Loc), va_P E.D vwCl ((wl E g ++ xs).set o (E.ad o, .inr (ci, (fsl E g o ci).set k (.int v)))) H1 → va_D (AA E s.heap.size) ((wl E g ++ xs).set o (E.ad o, .inr (ci, (fsl E g o ci).set k (.int v)))) → va_S (AA E s.heap.size) s.heap H1 locs1 → W p l e R s m args below meth c H1 locs1 cells slots Q (F0 m (pc + 3) ls rest) := by
    intro H1 locs1 a1 a2 a3
    rw [hset] at a1 a2
    exact kk H1 locs1 ⟨a1, a2, a3⟩
  rcases hl with hl | ⟨host, hl⟩
  · exact va_put (D := E.D) (ci := ci) (C := cn) (T := T) (N := N) hx hb hts hin tt hty hnm hown hK hG.1 hG.2.1 hG.2.2 o he hc k hk' (hts _ hl) (fun _ h9 => h9) hfin hp9 hn hfit (by rw [fs_len]; omega) hd kk'
  · exact va_putN (D := E.D) (ci := ci) (C := cn) (T := T) (N := N) hx hb hts hin tt hty hnm hown hK hG.1 hG.2.1 hG.2.2 o he hc k hk' (va_Nw.use rfl (hN _ hl)) (fun _ h9 => h9) hfin hp9 hn hfit (by rw [fs_len]; omega) hd kk'
theorem r_putI (C : Cx p s m args meth c cc n own E) (hG : Gd E s H locs g xs) {index ci k o : Nat} {v : Int32} (f : FL own index ci k false .int) (hk : kd o = ci) (hs : sk ci k = 0) (hd : decode cc pc = .ok (.putfield index, 3)) {fn : G → Option ρ} (h : bd (up g o k v) fn = some r)
    (kk : ∀ (H1 : Heap) (locs1 : List Loc) (g1 : G), Gd E s H1 locs1 g1 xs → fn g1 = some r → W p l e R s m args below meth c H1 locs1 cells slots Q (F0 m (pc + 3) ls rest)) : W p l e R s m args below meth c H locs cells slots Q (F0 m pc ls (.int v :: .ref (E.ad o) :: rest)) :=
  r_put C hG f hk hs rfl rfl hd (fun H1 locs1 a => kk H1 locs1 _ a h)
theorem r_putZ (C : Cx p s m args meth c cc n own E) (hG : Gd E s H locs g xs) {index ci k o : Nat} {v : Int32} (f : FL own index ci k false .boolean) (hk : kd o = ci) (hs : sk ci k = 0) (hv : v = 0 ∨ v = 1) (hd : decode cc pc = .ok (.putfield index, 3)) {fn : G → Option ρ} (h : bd (up g o k v) fn = some r)
    (kk : ∀ (H1 : Heap) (locs1 : List Loc) (g1 : G), Gd E s H1 locs1 g1 xs → fn g1 = some r → W p l e R s m args below meth c H1 locs1 cells slots Q (F0 m (pc + 3) ls rest)) : W p l e R s m args below meth c H locs cells slots Q (F0 m pc ls (.int v :: .ref (E.ad o) :: rest)) :=
  r_put C hG f hk hs (by rcases hv with rfl | rfl <;> rfl) (by rcases hv with rfl | rfl <;> rfl) hd (fun H1 locs1 a => kk H1 locs1 _ a h)
theorem r_ild (C : Cx p s m args meth c cc n own E) (hG : Gd E s H locs g xs) {a N : Nat} {i : Int32} (hk : kd a = 100000 + N) (hN : N < 100000) (hd : decode cc pc = .ok (.iaload, 1)) {fn : Int32 → Option ρ} (h : ld g a N i fn = some r)
    (kk : ∀ x : Int32, fn x = some r → W p l e R s m args below meth c H locs cells slots Q (F0 m (pc + 1) ls (.int x :: rest))) : W p l e R s m args below meth c H locs cells slots Q (F0 m pc ls (.int i :: .ref (E.ad a) :: rest)) := by
  obtain ⟨hx, hb, -, hown, hts, hK, -⟩ := C
  obtain ⟨hin, h⟩ := ld_inv h
  have he : (wl E g ++ xs)[a]? = some (E.ad a, .inl (E.tI, N, .inl (g a))) := by rw [wlx_at (kd_lt hk (by omega)), cel_i hk hN]
  exact va_iald hx hb hK hG.1 a 0 he rfl hin hd (kk _ h)
theorem r_bld (C : Cx p s m args meth c cc n own E) (hG : Gd E s H locs g xs) {a N : Nat} {i : Int32} (hk : kd a = 200000 + N) (hN : N < 100000) (hd : decode cc pc = .ok (.baload, 1)) {fn : Int32 → Option ρ} (h : ld g a N i fn = some r)
    (kk : ∀ x : Int32, fn x = some r → W p l e R s m args below meth c H locs cells slots Q (F0 m (pc + 1) ls (.int x :: rest))) : W p l e R s m args below meth c H locs cells slots Q (F0 m pc ls (.int i :: .ref (E.ad a) :: rest)) := by
  obtain ⟨hx, hb, -, hown, hts, hK, -⟩ := C
  obtain ⟨hin, h⟩ := ld_inv h
  have he : (wl E g ++ xs)[a]? = some (E.ad a, .inl (E.tB, N, .inl (g a))) := by rw [wlx_at (kd_lt hk (by omega)), cel_b hk hN]
  exact va_bald hx hb hK hG.1 a 1 he rfl hin hd (kk _ h)
theorem r_ist (C : Cx p s m args meth c cc n own E) (hG : Gd E s H locs g xs) {a N : Nat} {i v : Int32} (hk : kd a = 100000 + N) (hN : N < 100000) (hd : decode cc pc = .ok (.iastore, 1)) {fn : G → Option ρ} (h : sto g a N i v fn = some r)
    (kk : ∀ (H1 : Heap) (locs1 : List Loc) (g1 : G), Gd E s H1 locs1 g1 xs → fn g1 = some r → W p l e R s m args below meth c H1 locs1 cells slots Q (F0 m (pc + 1) ls rest)) : W p l e R s m args below meth c H locs cells slots Q (F0 m pc ls (.int v :: .int i :: .ref (E.ad a) :: rest)) := by
  obtain ⟨hx, hb, -, hown, hts, hK, -⟩ := C
  obtain ⟨hin, h⟩ := sto_inv h
  have ho : a < NC := kd_lt hk (by omega)
  have he : (wl E g ++ xs)[a]? = some (E.ad a, .inl (E.tI, N, .inl (g a))) := by rw [wlx_at ho, cel_i hk hN]
  have hset : (wl E g ++ xs).set a (E.ad a, .inl (E.tI, N, .inl (upd (g a) i.toNatClampNeg v))) = wl E (up g a i.toNatClampNeg v) ++ xs := wl_set (by rw [cel_i hk hN, up_eq]) ho
  refine va_iast hx hb hK hG.1 hG.2.1 hG.2.2 a 0 he rfl hin hd (fun H1 locs1 a1 a2 a3 => ?_)
  rw [hset] at a1 a2
  exact kk H1 locs1 _ ⟨a1, a2, a3⟩ h
theorem r_bst (C : Cx p s m args meth c cc n own E) (hG : Gd E s H locs g xs) {a N : Nat} {i v : Int32} (hk : kd a = 200000 + N) (hN : N < 100000) (hd : decode cc pc = .ok (.bastore, 1)) {fn : G → Option ρ} (h : sto g a N i v.toInt8.toInt32 fn = some r)
    (kk : ∀ (H1 : Heap) (locs1 : List Loc) (g1 : G), Gd E s H1 locs1 g1 xs → fn g1 = some r → W p l e R s m args below meth c H1 locs1 cells slots Q (F0 m (pc + 1) ls rest)) : W p l e R s m args below meth c H locs cells slots Q (F0 m pc ls (.int v :: .int i :: .ref (E.ad a) :: rest)) := by
  obtain ⟨hx, hb, -, hown, hts, hK, -⟩ := C
  obtain ⟨hin, h⟩ := sto_inv h
  have ho : a < NC := kd_lt hk (by omega)
  have he : (wl E g ++ xs)[a]? = some (E.ad a, .inl (E.tB, N, .inl (g a))) := by rw [wlx_at ho, cel_b hk hN]
  have hset : (wl E g ++ xs).set a (E.ad a, .inl (E.tB, N, .inl (upd (g a) i.toNatClampNeg (vp_nar .byte v)))) = wl E (up g a i.toNatClampNeg v.toInt8.toInt32) ++ xs := wl_set (by rw [cel_b hk hN, up_eq, vp_nar_byte]) ho
  refine va_bast hx hb hK hG.1 hG.2.1 hG.2.2 a 1 he rfl hin hd (fun H1 locs1 a1 a2 a3 => ?_)
  rw [hset] at a1 a2
  exact kk H1 locs1 _ ⟨a1, a2, a3⟩ h
theorem r_alen (C : Cx p s m args meth c cc n own E) (hG : Gd E s H locs g xs) {a N : Nat} {v : Int32} (hk : kd a = 100000 + N) (hN : N < 100000) (hv : Int32.ofNat N = v) (hd : decode cc pc = .ok (.arraylength, 1))
    (kk : W p l e R s m args below meth c H locs cells slots Q (F0 m (pc + 1) ls (.int v :: rest))) : W p l e R s m args below meth c H locs cells slots Q (F0 m pc ls (.ref (E.ad a) :: rest)) := by
  obtain ⟨hx, hb, -, hown, hts, hK, -⟩ := C
  have he : (wl E g ++ xs)[a]? = some (E.ad a, .inl (E.tI, N, .inl (g a))) := by rw [wlx_at (kd_lt hk (by omega)), cel_i hk hN]
  exact va_alen hx hb hK hG.1 a 0 he rfl hv hd kk
theorem r_nm {v : Int32} {fn : Int32 → Option ρ} (h : bd v fn = some r) (kk : ∀ x : Int32, fn x = some r → W p l e R s m args below meth c H locs cells slots Q (F0 m pc ls (.int x :: rest))) : W p l e R s m args below meth c H locs cells slots Q (F0 m pc ls (.int v :: rest)) := kk v h
theorem r_nmL {v : Int64} {fn : Int64 → Option ρ} (h : bd v fn = some r) (kk : ∀ x : Int64, fn x = some r → W p l e R s m args below meth c H locs cells slots Q (F0 m pc ls (.long x :: rest))) : W p l e R s m args below meth c H locs cells slots Q (F0 m pc ls (.long v :: rest)) := kk v h
theorem r_div (C : Cx p s m args meth c cc n own E) {x y : Int32} (hd : decode cc pc = .ok (.idiv, 1)) {fn : Int32 → Option ρ} (h : dv x y fn = some r) (kk : ∀ z : Int32, fn z = some r → W p l e R s m args below meth c H locs cells slots Q (F0 m (pc + 1) ls (.int z :: rest))) : W p l e R s m args below meth c H locs cells slots Q (F0 m pc ls (.int y :: .int x :: rest)) := by
  obtain ⟨h0, h1⟩ := dv_inv h
  exact lv_idiv C.1 C.2.1 hd h0 (kk _ h1)
theorem r_iret (C : Cx p s m args meth c cc n own E) (hG : Gd E s H locs g []) {ty : FieldType} (hr : meth.sig.returnType = some ty) {v : Int32} {u : Int32 × G} (hn : narrow ty (.int v) = .int v) (hd : decode cc pc = .ok (.ireturn, 1)) (h : some (v, g) = some u) : W p l e R s m args below meth c H locs cells slots (MQ below (QI E s.heap.size u.1 u.2) args s cells slots (AA E s.heap.size)) (F0 m pc ls [.int v]) := by
  cases h
  have hl : meth.locks = false := C.2.2.2.2.2.2.2.1
  have hP := hG.1
  rw [List.append_nil] at hP
  exact W.zret C.1 C.2.1 hr hn (fun t ht hW => ⟨⟨v, (), rfl, rfl, by show va_P _ _ _ t.heap; rw [ht]; exact hP⟩, hG.2.2.F ht⟩) hG.2.2.2.2 hd hl
theorem r_vret (C : Cx p s m args meth c cc n own E) (hG : Gd E s H locs g []) (hr : meth.sig.returnType = none) {u : G} (hd : decode cc pc = .ok (.return_, 1)) (h : some g = some u) : W p l e R s m args below meth c H locs cells slots (MQ below (QV E s.heap.size u) args s cells slots (AA E s.heap.size)) (F0 m pc ls []) := by
  cases h
  have hl : meth.locks = false := C.2.2.2.2.2.2.2.1
  have hP := hG.1
  rw [List.append_nil] at hP
  exact W.vret C.1 C.2.1 hr (fun t ht hW => ⟨⟨(), rfl, trivial, by show va_P _ _ _ t.heap; rw [ht]; exact hP⟩, hG.2.2.F ht⟩) hG.2.2.2.2 hd hl
theorem r_lret (C : Cx p s m args meth c cc n own E) (hG : Gd E s H locs g []) (hr : meth.sig.returnType = some .long) {v : Int64} {u : Int64 × G} (hd : decode cc pc = .ok (.lreturn, 1)) (h : some (v, g) = some u) : W p l e R s m args below meth c H locs cells slots (MQ below (QL E s.heap.size u.1 u.2) args s cells slots (AA E s.heap.size)) (F0 m pc ls [.long v]) := by
  cases h
  have hl : meth.locks = false := C.2.2.2.2.2.2.2.1
  have hP := hG.1
  rw [List.append_nil] at hP
  exact W.lret C.1 C.2.1 hr (fun t ht hW => ⟨⟨v, (), rfl, rfl, by show va_P _ _ _ t.heap; rw [ht]; exact hP⟩, hG.2.2.F ht⟩) hG.2.2.2.2 hd hl
end ROWS
end
section
/-! calls: what links a call, the callee's precondition, the world behind it -/
def hdOk (y : MethodName) (np : Nat) : Prop := y.cls ≠ "java/lang/invoke/MethodHandle" ∧ y.cls ≠ "java/lang/invoke/VarHandle" ∧ (parseMethodDescriptor y.desc).map (fun d => d.parameters.length) = some np
def MLV (own : String) (idx : Nat) (y : MethodName) (c : ByteArray) (n : Nat) (rt : Option FieldType) (np : Nat) : Prop := Cond.code y c n rt ∈ TB ∧ Cond.initialized y.cls ∈ TB ∧ Cond.instanceMethod y ∈ TB ∧ Cond.selects y.cls y y ∈ TB ∧ hdOk y np ∧ (Cond.methodLink own idx y ∈ TB ∨ ∃ host, Cond.methodLinkNest own idx y host ∈ NB)
def MLS (own : String) (idx : Nat) (y : MethodName) (c : ByteArray) (n : Nat) (rt : Option FieldType) (np : Nat) : Prop := Cond.code y c n rt ∈ TB ∧ Cond.initialized y.cls ∈ TB ∧ Cond.static y ∈ TB ∧ hdOk y np ∧ (Cond.methodLink own idx y ∈ TB ∨ ∃ host, Cond.methodLinkNest own idx y host ∈ NB)
theorem rm_ok {k K n mc ms mc' ms' : Nat} (h : k < K) (hn : n ≤ 41) : (rmD k mc ms).frames + 1 ≤ (rmD K mc' ms').frames ∧ 8 + (n + 11) + (rmD k mc ms).locals ≤ (rmD K mc' ms').locals := by
  refine ⟨h, ?_⟩
  show 8 + (n + 11) + 60 * k ≤ 60 * K
  omega
section CALLS
variable {p : Program} {l : Launch} {e : Env} {R : Room} {s : State} {m : MethodId} {args : Array Value} {below : List Frame} {meth : Method} {c : Code} {H : Heap} {locs : List Loc} {cells slots : Nat} {Q : State → Prop} {cc : ByteArray} {n : Nat} {own : String} {E : EV} {pc : Nat} {ls : Array Slot} {rest st : List Value} {g : G} {xs : va_W} {ρ : Type} {r : ρ}
theorem pre_ok (C : Cx p s m args meth c cc n own E) (hG : Gd E s H locs g xs) (av : List Value) : ∀ U : State, U.heap = H → s.WarmedH U.vm → PC E H.size av g av.toArray U := by
  intro U hU hW
  obtain ⟨-, -, -, -, -, hK, hN, -, hz, hA, hO⟩ := C
  have hS := hG.2.2
  have hsz : E.sz ≤ H.size := Nat.le_trans hz hS.1
  refine ⟨rfl, by rw [hU], by rw [hU]; exact hsz, ?_, va_K.moved hW.alike hK, hA, fun w hw => Nw_warm hW hw (hN w hw), ?_⟩
  · rw [hU]
    intro k q hq
    refine hG.1 k q ?_
    rw [List.getElem?_append_left (List.getElem?_eq_some_iff.mp hq).1]
    exact hq
  · rw [hU]
    exact OO.step hW hz (fun a ha => hS.2.1 a (Nat.lt_of_lt_of_le ha hz) (fun h => Nat.not_le.mpr ha (AA_ge hA hz h))) hO
theorem Gd_D {A : Nat → Prop} {g1 : G} (h : va_D A (wl E g ++ xs)) : va_D A (wl E g1 ++ xs) := by
  have key : ∀ (i : Nat) (q : Nat × va_E), (wl E g1 ++ xs)[i]? = some q → ∃ q' : Nat × va_E, (wl E g ++ xs)[i]? = some q' ∧ q'.1 = q.1 := by
    intro i q hq
    by_cases hi : i < NC
    · rw [wlx_at hi] at hq
      cases hq
      exact ⟨_, wlx_at hi, rfl⟩
    · rw [wlx_ge hi] at hq
      exact ⟨q, by rw [wlx_ge hi]; exact hq, rfl⟩
  refine ⟨fun i j a b ha hb he => ?_, fun k q hq => ?_⟩
  · obtain ⟨a', h1, e1⟩ := key i a ha
    obtain ⟨b', h2, e2⟩ := key j b hb
    exact h.1 i j a' b' h1 h2 (by rw [e1, e2, he])
  · obtain ⟨q', h1, e1⟩ := key k q hq
    rw [← e1]
    exact h.2 k q' h1
theorem Gd_after (hG : Gd E s H locs g xs) {H1 : Heap} {locs1 : List Loc} {g1 : G} (hB : va_P E.D vwCl (wl E g1) H1) (hk : ∀ q : Nat, q < H.size → ¬ AA E H.size q → H1[q]? = H[q]?) (hS : va_S (AA E s.heap.size) s.heap H1 locs1) : Gd E s H1 locs1 g1 xs := by
  refine ⟨va_P.app hB (fun k q hq => ?_), Gd_D hG.2.1, hS⟩
  have hq' : (wl E g ++ xs)[NC + k]? = some q := by
    rw [wlx_ge (by omega), Nat.add_sub_cancel_left]
    exact hq
  have hat := hG.1 _ q hq'
  have hlt := hat.lt
  refine hat.kept (hk q.1 hlt ?_)
  rintro (⟨i, hi, e9⟩ | hge)
  · have := hG.2.1.1 (NC + k) i q (E.ad i, cel E g i) hq' (wlx_at hi) e9
    omega
  · omega
theorem AA_in (hG : Gd E s H locs g xs) : (∀ q, AA E H.size q → AA E s.heap.size q) := by
  rintro q (h | h)
  · exact Or.inl h
  · exact Or.inr (Nat.le_trans hG.2.2.1 h)
theorem run_V (C : Cx p s m args meth c cc n own E) (hls : ls.size = n) (hG : Gd E s H locs g xs) {y : MethodName} {c' : ByteArray} {n' : Nat} {rt : Option FieldType} {k mc ms np o ci idx N : Nat} {As : List Value} {QQ : Nat → Array Value → State → Outcome → State → Prop} {T : u_T} {tt : Nat → FieldType}
    (hM : MG E l y c' n' rt k mc ms (.ref (E.ad o) :: As) g QQ) (hm : MLV own idx y c' n' rt np) (hk : kd o = ci) (hKC : KC ci y.cls T N tt) (hlen : As.length = np) (hR : (rmD k mc ms).frames + 1 ≤ R.frames ∧ 8 + (n' + 11) + (rmD k mc ms).locals ≤ R.locals) (hrest : (rest.map fun v => v.category).sum ≤ 8) (hf : cells + mc ≤ R.cells ∧ slots + ms ≤ R.slots) (hst : st = As.reverse ++ .ref (E.ad o) :: rest) (hd : decode cc pc = .ok (.invokevirtual idx, 3)) :
    va_Run p l e R s m args below meth c H locs cells slots mc ms (F0 m pc ls st) rest (QQ H.size (Value.ref (E.ad o) :: As).toArray) (AA E H.size) := by
  have hpre := pre_ok C hG (.ref (E.ad o) :: As)
  obtain ⟨hx, hb, hml, hown, hts, hK, hN, -⟩ := id C
  obtain ⟨h1, h2, h3, h4, h5, h6⟩ := hm
  have hci := KC_lt hKC
  have ho : o < NC := kd_lt hk (by omega)
  have he : (wl E g ++ xs)[o]? = some (E.ad o, .inr (ci, fsl E g o ci)) := by rw [wlx_at ho, cel_o hk hci]
  have hrecv := va_recv hK hG.1 (ci := ci) hKC.1 he
  rcases h6 with h6 | ⟨host, h6⟩
  · exact va_runV (C := y.cls) (Ts := TB) ⟨hx, hb, hml, hown, hts⟩ (hM H.size) ⟨callB_of np hts (gwz h1) rfl rfl rfl (hts _ h2) (hts _ h6) h5 hR, hts _ h3, hts _ h4⟩ ⟨PC_blind, hrecv, hpre⟩ rfl hlen hls hst (lv_room hrest) hd hf
  · exact va_runVN (C := y.cls) (Ts := TB) (host := host) ⟨hx, hb, hml, hown, hts⟩ (hM H.size) ⟨va_cnB np hts (gwz h1) rfl rfl rfl (hN _ h6) (hts _ h2) h5 hR, hts _ h3, hts _ h4⟩ ⟨PC_blind, hrecv, hpre⟩ rfl hlen hls hst (lv_room hrest) hd hf
theorem run_S (C : Cx p s m args meth c cc n own E) (hls : ls.size = n) (hG : Gd E s H locs g xs) {y : MethodName} {c' : ByteArray} {n' : Nat} {rt : Option FieldType} {k mc ms np idx : Nat} {As : List Value} {QQ : Nat → Array Value → State → Outcome → State → Prop}
    (hM : MG E l y c' n' rt k mc ms As g QQ) (hm : MLS own idx y c' n' rt np) (hlen : As.length = np) (hR : (rmD k mc ms).frames + 1 ≤ R.frames ∧ 8 + (n' + 11) + (rmD k mc ms).locals ≤ R.locals) (hrest : (rest.map fun v => v.category).sum ≤ 8) (hf : cells + mc ≤ R.cells ∧ slots + ms ≤ R.slots) (hst : st = As.reverse ++ rest) (hd : decode cc pc = .ok (.invokestatic idx, 3)) :
    va_Run p l e R s m args below meth c H locs cells slots mc ms (F0 m pc ls st) rest (QQ H.size As.toArray) (AA E H.size) := by
  have hpre := pre_ok C hG As
  obtain ⟨hx, hb, hml, hown, hts, hK, hN, -⟩ := id C
  obtain ⟨h1, h2, h3, h5, h6⟩ := hm
  rcases h6 with h6 | ⟨host, h6⟩
  · exact va_runS (Ts := TB) ⟨hx, hb, hml, hown, hts⟩ (hM H.size) ⟨callB_of np hts (gwz h1) rfl rfl rfl (hts _ h2) (hts _ h6) h5 hR, hts _ h3⟩ ⟨PC_blind, hpre⟩ rfl hlen hls hst (lv_room hrest) hd hf
  · exact va_runSN (Ts := TB) (host := host) ⟨hx, hb, hml, hown, hts⟩ (hM H.size) ⟨va_cnB np hts (gwz h1) rfl rfl rfl (hN _ h6) (hts _ h2) h5 hR, hts _ h3, trivial⟩ ⟨PC_blind, hpre⟩ rfl hlen hls hst (lv_room hrest) hd hf
theorem af_I (hG : Gd E s H locs g xs) {mc ms : Nat} {a : Array Value} {u : Int32 × G} {st0 : List Value} (hr : va_Run p l e R s m args below meth c H locs cells slots mc ms (F0 m pc ls st0) rest (QI E H.size u.1 u.2 a) (AA E H.size))
    (kk : ∀ (H1 : Heap) (locs1 : List Loc), Gd E s H1 locs1 u.2 xs → W p l e R s m args below meth c H1 locs1 (cells + mc) (slots + ms) Q (F0 m (pc + 3) ls (.int u.1 :: rest))) : W p l e R s m args below meth c H locs cells slots Q (F0 m pc ls st0) := by
  refine va_calli hr hG.2.2 (fun q _ h => AA_in hG q h) (AA_in hG) (fun r9 u9 t H1 locs1 ht hvm hw hB hz hk hS => ?_)
  have hw : r9 = u.1 := hw
  subst hw
  exact kk H1 locs1 (Gd_after hG (by rw [← ht]; exact hB) hk hS)
theorem af_L (hG : Gd E s H locs g xs) {mc ms : Nat} {a : Array Value} {u : Int64 × G} {st0 : List Value} (hr : va_Run p l e R s m args below meth c H locs cells slots mc ms (F0 m pc ls st0) rest (QL E H.size u.1 u.2 a) (AA E H.size))
    (kk : ∀ (H1 : Heap) (locs1 : List Loc), Gd E s H1 locs1 u.2 xs → W p l e R s m args below meth c H1 locs1 (cells + mc) (slots + ms) Q (F0 m (pc + 3) ls (.long u.1 :: rest))) : W p l e R s m args below meth c H locs cells slots Q (F0 m pc ls st0) := by
  refine va_calll hr hG.2.2 (fun q _ h => AA_in hG q h) (AA_in hG) (fun r9 u9 t H1 locs1 ht hvm hw hB hz hk hS => ?_)
  have hw : r9 = u.1 := hw
  subst hw
  exact kk H1 locs1 (Gd_after hG (by rw [← ht]; exact hB) hk hS)
theorem af_V (hG : Gd E s H locs g xs) {mc ms : Nat} {a : Array Value} {u : G} {st0 : List Value} (hr : va_Run p l e R s m args below meth c H locs cells slots mc ms (F0 m pc ls st0) rest (QV E H.size u a) (AA E H.size))
    (kk : ∀ (H1 : Heap) (locs1 : List Loc), Gd E s H1 locs1 u xs → W p l e R s m args below meth c H1 locs1 (cells + mc) (slots + ms) Q (F0 m (pc + 3) ls rest)) : W p l e R s m args below meth c H locs cells slots Q (F0 m pc ls st0) := by
  refine va_callv hr hG.2.2 (fun q _ h => AA_in hG q h) (AA_in hG) (fun u9 t H1 locs1 ht hvm hw hB hz hk hS => ?_)
  exact kk H1 locs1 (Gd_after hG (by rw [← ht]; exact hB) hk hS)
theorem af_A (hG : Gd E s H locs g xs) {mc ms : Nat} {a : Array Value} {u : Nat × G} {st0 : List Value} (hr : va_Run p l e R s m args below meth c H locs cells slots mc ms (F0 m pc ls st0) rest (QA E H.size (E.aK u.1) u.2 a) (AA E H.size))
    (kk : ∀ (H1 : Heap) (locs1 : List Loc), Gd E s H1 locs1 u.2 xs → W p l e R s m args below meth c H1 locs1 (cells + mc) (slots + ms) Q (F0 m (pc + 3) ls (.ref (E.aK u.1) :: rest))) : W p l e R s m args below meth c H locs cells slots Q (F0 m pc ls st0) := by
  refine va_callr hr hG.2.2 (fun q _ h => AA_in hG q h) (AA_in hG) (fun u9 a9 t H1 locs1 ht hvm hw hB hz hk hS => ?_)
  obtain ⟨rfl, hB⟩ := hB
  exact kk H1 locs1 (Gd_after hG (by rw [← ht]; exact hB) hk hS)
theorem r_callVI (C : Cx p s m args meth c cc n own E) (hls : ls.size = n) (hG : Gd E s H locs g xs) {y : MethodName} {c' : ByteArray} {n' : Nat} {rt : Option FieldType} {k np o ci idx N : Nat} (As : List Value) (rest : List Value) {T : u_T} {tt : Nat → FieldType} {kz : Option (Int32 × G)} (hC : ∀ u, kz = some u → MI E l y c' n' rt k 0 0 (.ref (E.ad o) :: As) g u) (hm : MLV own idx y c' n' rt np) (hk : kd o = ci) (hKC : KC ci y.cls T N tt) (hlen : As.length = np) (hR : (rmD k 0 0).frames + 1 ≤ R.frames ∧ 8 + (n' + 11) + (rmD k 0 0).locals ≤ R.locals) (hrest : (rest.map fun v => v.category).sum ≤ 8) (hf : cells + 0 ≤ R.cells ∧ slots + 0 ≤ R.slots) (hst : st = As.reverse ++ .ref (E.ad o) :: rest) (hd : decode cc pc = .ok (.invokevirtual idx, 3)) {fn : Int32 × G → Option ρ} (h : kz.bind fn = some r)
    (kk : ∀ (u : Int32 × G) (H1 : Heap) (locs1 : List Loc), Gd E s H1 locs1 u.2 xs → fn u = some r → W p l e R s m args below meth c H1 locs1 cells slots Q (F0 m (pc + 3) ls (.int u.1 :: rest))) : W p l e R s m args below meth c H locs cells slots Q (F0 m pc ls st) := by
  obtain ⟨u, hu, h⟩ := bind_inv h
  exact af_I hG (run_V C hls hG (hC u hu) hm hk hKC hlen hR hrest hf hst hd) (fun H1 locs1 a => kk u H1 locs1 a h)
theorem r_callVL (C : Cx p s m args meth c cc n own E) (hls : ls.size = n) (hG : Gd E s H locs g xs) {y : MethodName} {c' : ByteArray} {n' : Nat} {rt : Option FieldType} {k np o ci idx N : Nat} (As : List Value) (rest : List Value) {T : u_T} {tt : Nat → FieldType} {kz : Option (Int64 × G)} (hC : ∀ u, kz = some u → ML E l y c' n' rt k 0 0 (.ref (E.ad o) :: As) g u) (hm : MLV own idx y c' n' rt np) (hk : kd o = ci) (hKC : KC ci y.cls T N tt) (hlen : As.length = np) (hR : (rmD k 0 0).frames + 1 ≤ R.frames ∧ 8 + (n' + 11) + (rmD k 0 0).locals ≤ R.locals) (hrest : (rest.map fun v => v.category).sum ≤ 8) (hf : cells + 0 ≤ R.cells ∧ slots + 0 ≤ R.slots) (hst : st = As.reverse ++ .ref (E.ad o) :: rest) (hd : decode cc pc = .ok (.invokevirtual idx, 3)) {fn : Int64 × G → Option ρ} (h : kz.bind fn = some r)
    (kk : ∀ (u : Int64 × G) (H1 : Heap) (locs1 : List Loc), Gd E s H1 locs1 u.2 xs → fn u = some r → W p l e R s m args below meth c H1 locs1 cells slots Q (F0 m (pc + 3) ls (.long u.1 :: rest))) : W p l e R s m args below meth c H locs cells slots Q (F0 m pc ls st) := by
  obtain ⟨u, hu, h⟩ := bind_inv h
  exact af_L hG (run_V C hls hG (hC u hu) hm hk hKC hlen hR hrest hf hst hd) (fun H1 locs1 a => kk u H1 locs1 a h)
theorem r_callVV (C : Cx p s m args meth c cc n own E) (hls : ls.size = n) (hG : Gd E s H locs g xs) {y : MethodName} {c' : ByteArray} {n' : Nat} {rt : Option FieldType} {k np o ci idx N : Nat} (As : List Value) (rest : List Value) {T : u_T} {tt : Nat → FieldType} {kz : Option G} (hC : ∀ u, kz = some u → MV E l y c' n' rt k 0 0 (.ref (E.ad o) :: As) g u) (hm : MLV own idx y c' n' rt np) (hk : kd o = ci) (hKC : KC ci y.cls T N tt) (hlen : As.length = np) (hR : (rmD k 0 0).frames + 1 ≤ R.frames ∧ 8 + (n' + 11) + (rmD k 0 0).locals ≤ R.locals) (hrest : (rest.map fun v => v.category).sum ≤ 8) (hf : cells + 0 ≤ R.cells ∧ slots + 0 ≤ R.slots) (hst : st = As.reverse ++ .ref (E.ad o) :: rest) (hd : decode cc pc = .ok (.invokevirtual idx, 3)) {fn : G → Option ρ} (h : kz.bind fn = some r)
    (kk : ∀ (u : G) (H1 : Heap) (locs1 : List Loc), Gd E s H1 locs1 u xs → fn u = some r → W p l e R s m args below meth c H1 locs1 cells slots Q (F0 m (pc + 3) ls rest)) : W p l e R s m args below meth c H locs cells slots Q (F0 m pc ls st) := by
  obtain ⟨u, hu, h⟩ := bind_inv h
  exact af_V hG (run_V C hls hG (hC u hu) hm hk hKC hlen hR hrest hf hst hd) (fun H1 locs1 a => kk u H1 locs1 a h)
theorem r_callSI (C : Cx p s m args meth c cc n own E) (hls : ls.size = n) (hG : Gd E s H locs g xs) {y : MethodName} {c' : ByteArray} {n' : Nat} {rt : Option FieldType} {k np idx : Nat} (As : List Value) (rest : List Value) {kz : Option (Int32 × G)} (hC : ∀ u, kz = some u → MI E l y c' n' rt k 0 0 As g u) (hm : MLS own idx y c' n' rt np) (hlen : As.length = np) (hR : (rmD k 0 0).frames + 1 ≤ R.frames ∧ 8 + (n' + 11) + (rmD k 0 0).locals ≤ R.locals) (hrest : (rest.map fun v => v.category).sum ≤ 8) (hf : cells + 0 ≤ R.cells ∧ slots + 0 ≤ R.slots) (hst : st = As.reverse ++ rest) (hd : decode cc pc = .ok (.invokestatic idx, 3)) {fn : Int32 × G → Option ρ} (h : kz.bind fn = some r)
    (kk : ∀ (u : Int32 × G) (H1 : Heap) (locs1 : List Loc), Gd E s H1 locs1 u.2 xs → fn u = some r → W p l e R s m args below meth c H1 locs1 cells slots Q (F0 m (pc + 3) ls (.int u.1 :: rest))) : W p l e R s m args below meth c H locs cells slots Q (F0 m pc ls st) := by
  obtain ⟨u, hu, h⟩ := bind_inv h
  exact af_I hG (run_S C hls hG (hC u hu) hm hlen hR hrest hf hst hd) (fun H1 locs1 a => kk u H1 locs1 a h)
theorem r_callSV (C : Cx p s m args meth c cc n own E) (hls : ls.size = n) (hG : Gd E s H locs g xs) {y : MethodName} {c' : ByteArray} {n' : Nat} {rt : Option FieldType} {k np idx : Nat} (As : List Value) (rest : List Value) {kz : Option G} (hC : ∀ u, kz = some u → MV E l y c' n' rt k 0 0 As g u) (hm : MLS own idx y c' n' rt np) (hlen : As.length = np) (hR : (rmD k 0 0).frames + 1 ≤ R.frames ∧ 8 + (n' + 11) + (rmD k 0 0).locals ≤ R.locals) (hrest : (rest.map fun v => v.category).sum ≤ 8) (hf : cells + 0 ≤ R.cells ∧ slots + 0 ≤ R.slots) (hst : st = As.reverse ++ rest) (hd : decode cc pc = .ok (.invokestatic idx, 3)) {fn : G → Option ρ} (h : kz.bind fn = some r)
    (kk : ∀ (u : G) (H1 : Heap) (locs1 : List Loc), Gd E s H1 locs1 u xs → fn u = some r → W p l e R s m args below meth c H1 locs1 cells slots Q (F0 m (pc + 3) ls rest)) : W p l e R s m args below meth c H locs cells slots Q (F0 m pc ls st) := by
  obtain ⟨u, hu, h⟩ := bind_inv h
  exact af_V hG (run_S C hls hG (hC u hu) hm hlen hR hrest hf hst hd) (fun H1 locs1 a => kk u H1 locs1 a h)
theorem r_callSA (C : Cx p s m args meth c cc n own E) (hls : ls.size = n) (hG : Gd E s H locs g xs) {y : MethodName} {c' : ByteArray} {n' : Nat} {rt : Option FieldType} {k np idx : Nat} (As : List Value) (rest : List Value) {kz : Option (Nat × G)} (hC : ∀ u, kz = some u → MA E l y c' n' rt k 0 0 As g u) (hm : MLS own idx y c' n' rt np) (hlen : As.length = np) (hR : (rmD k 0 0).frames + 1 ≤ R.frames ∧ 8 + (n' + 11) + (rmD k 0 0).locals ≤ R.locals) (hrest : (rest.map fun v => v.category).sum ≤ 8) (hf : cells + 0 ≤ R.cells ∧ slots + 0 ≤ R.slots) (hst : st = As.reverse ++ rest) (hd : decode cc pc = .ok (.invokestatic idx, 3)) {fn : Nat × G → Option ρ} (h : kz.bind fn = some r)
    (kk : ∀ (u : Nat × G) (H1 : Heap) (locs1 : List Loc), Gd E s H1 locs1 u.2 xs → fn u = some r → W p l e R s m args below meth c H1 locs1 cells slots Q (F0 m (pc + 3) ls (.ref (E.aK u.1) :: rest))) : W p l e R s m args below meth c H locs cells slots Q (F0 m pc ls st) := by
  obtain ⟨u, hu, h⟩ := bind_inv h
  exact af_A hG (run_S C hls hG (hC u hu) hm hlen hR hrest hf hst hd) (fun H1 locs1 a => kk u H1 locs1 a h)
/-! Math and arraycopy -/
def LMax (own : String) (i : Nat) : Prop := Cond.methodLink own i Lib.Math.max.name ∈ TB ∧ Cond.static Lib.Math.max.name ∈ TB ∧ Cond.initialized "java/lang/Math" ∈ TB ∧ Cond.code Lib.Math.max.name Lib.Math.max.code 2 (some .int) ∈ TB
def LMin (own : String) (i : Nat) : Prop := Cond.methodLink own i Lib.Math.min.name ∈ TB ∧ Cond.static Lib.Math.min.name ∈ TB ∧ Cond.initialized "java/lang/Math" ∈ TB ∧ Cond.code Lib.Math.min.name Lib.Math.min.code 2 (some .int) ∈ TB
def LAbs (own : String) (i : Nat) : Prop := Cond.methodLink own i Lib.Math.abs.name ∈ TB ∧ Cond.static Lib.Math.abs.name ∈ TB ∧ Cond.initialized "java/lang/Math" ∈ TB ∧ Cond.code Lib.Math.abs.name Lib.Math.abs.code 1 (some .int) ∈ TB
def LMaxL (own : String) (i : Nat) : Prop := Cond.methodLink own i Lib.MathLoose.max_long.x ∈ TB ∧ Cond.static Lib.MathLoose.max_long.x ∈ TB ∧ Cond.initialized "java/lang/Math" ∈ TB ∧ Cond.code Lib.MathLoose.max_long.x Lib.MathLoose.max_long.code 4 (some .long) ∈ TB
def LMinL (own : String) (i : Nat) : Prop := Cond.methodLink own i Lib.MathLoose.min_long.x ∈ TB ∧ Cond.static Lib.MathLoose.min_long.x ∈ TB ∧ Cond.initialized "java/lang/Math" ∈ TB ∧ Cond.code Lib.MathLoose.min_long.x Lib.MathLoose.min_long.code 4 (some .long) ∈ TB
def LCpy (own : String) (i : Nat) : Prop := Cond.methodLink own i arraycopyName ∈ TB ∧ Cond.native arraycopyName ∈ TB ∧ Cond.static arraycopyName ∈ TB ∧ Cond.initialized "java/lang/System" ∈ TB
theorem r_max (C : Cx p s m args meth c cc n own E) (hls : ls.size = n) {i : Nat} (hm : LMax own i) (hR : 1 ≤ R.frames ∧ (rest.map fun v => v.category).sum + 13 ≤ R.locals ∧ cells ≤ R.cells ∧ slots ≤ R.slots) {x y : Int32} (hd : decode cc pc = .ok (.invokestatic i, 3))
    (kk : W p l e R s m args below meth c H locs cells slots Q (F0 m (pc + 3) ls (.int (if x < y then y else x) :: rest))) : W p l e R s m args below meth c H locs cells slots Q (F0 m pc ls (.int y :: .int x :: rest)) := by
  obtain ⟨hx, hb, hml, hown, hts, -⟩ := C
  exact va_mmax hx hb (hml.trans hls.symm) hown (hts _ hm.1) (hts _ hm.2.1) (hts _ hm.2.2.1) (hts _ hm.2.2.2) hR.1 hR.2.1 hR.2.2.1 hR.2.2.2 hd kk
theorem r_min (C : Cx p s m args meth c cc n own E) (hls : ls.size = n) {i : Nat} (hm : LMin own i) (hR : 1 ≤ R.frames ∧ (rest.map fun v => v.category).sum + 13 ≤ R.locals ∧ cells ≤ R.cells ∧ slots ≤ R.slots) {x y : Int32} (hd : decode cc pc = .ok (.invokestatic i, 3))
    (kk : W p l e R s m args below meth c H locs cells slots Q (F0 m (pc + 3) ls (.int (if y < x then y else x) :: rest))) : W p l e R s m args below meth c H locs cells slots Q (F0 m pc ls (.int y :: .int x :: rest)) := by
  obtain ⟨hx, hb, hml, hown, hts, -⟩ := C
  exact va_mmin hx hb (hml.trans hls.symm) hown (hts _ hm.1) (hts _ hm.2.1) (hts _ hm.2.2.1) (hts _ hm.2.2.2) hR.1 hR.2.1 hR.2.2.1 hR.2.2.2 hd kk
theorem r_abs (C : Cx p s m args meth c cc n own E) (hls : ls.size = n) {i : Nat} (hm : LAbs own i) (hR : 1 ≤ R.frames ∧ (rest.map fun v => v.category).sum + 13 ≤ R.locals ∧ cells ≤ R.cells ∧ slots ≤ R.slots) {x : Int32} (hd : decode cc pc = .ok (.invokestatic i, 3))
    (kk : W p l e R s m args below meth c H locs cells slots Q (F0 m (pc + 3) ls (.int (if 0 ≤ x then x else 0 - x) :: rest))) : W p l e R s m args below meth c H locs cells slots Q (F0 m pc ls (.int x :: rest)) := by
  obtain ⟨hx, hb, hml, hown, hts, -⟩ := C
  exact va_mabs hx hb (hml.trans hls.symm) hown (hts _ hm.1) (hts _ hm.2.1) (hts _ hm.2.2.1) (hts _ hm.2.2.2) hR.1 hR.2.1 hR.2.2.1 hR.2.2.2 hd kk
theorem r_maxL (C : Cx p s m args meth c cc n own E) (hls : ls.size = n) {i : Nat} (hm : LMaxL own i) (hR : 1 ≤ R.frames ∧ (rest.map fun v => v.category).sum + 15 ≤ R.locals ∧ cells ≤ R.cells ∧ slots ≤ R.slots) {x y : Int64} (hd : decode cc pc = .ok (.invokestatic i, 3))
    (kk : W p l e R s m args below meth c H locs cells slots Q (F0 m (pc + 3) ls (.long (if y < x then x else y) :: rest))) : W p l e R s m args below meth c H locs cells slots Q (F0 m pc ls (.long y :: .long x :: rest)) := by
  obtain ⟨hx, hb, hml, hown, hts, -⟩ := C
  exact va_mmax_long hx hb (hml.trans hls.symm) hown (hts _ hm.1) (hts _ hm.2.1) (hts _ hm.2.2.1) (hts _ hm.2.2.2) hR.1 hR.2.1 hR.2.2.1 hR.2.2.2 hd kk
theorem r_minL (C : Cx p s m args meth c cc n own E) (hls : ls.size = n) {i : Nat} (hm : LMinL own i) (hR : 1 ≤ R.frames ∧ (rest.map fun v => v.category).sum + 15 ≤ R.locals ∧ cells ≤ R.cells ∧ slots ≤ R.slots) {x y : Int64} (hd : decode cc pc = .ok (.invokestatic i, 3))
    (kk : W p l e R s m args below meth c H locs cells slots Q (F0 m (pc + 3) ls (.long (if y < x then y else x) :: rest))) : W p l e R s m args below meth c H locs cells slots Q (F0 m pc ls (.long y :: .long x :: rest)) := by
  obtain ⟨hx, hb, hml, hown, hts, -⟩ := C
  exact va_mmin_long hx hb (hml.trans hls.symm) hown (hts _ hm.1) (hts _ hm.2.1) (hts _ hm.2.2.1) (hts _ hm.2.2.2) hR.1 hR.2.1 hR.2.2.1 hR.2.2.2 hd kk
theorem r_cpy (C : Cx p s m args meth c cc n own E) (hls : ls.size = n) (hG : Gd E s H locs g xs) {i a b N : Nat} (hm : LCpy own i) (ha : kd a = 100000 + N) (hb9 : kd b = 100000 + N) (hN : N < 100000) {z : Int32} (hz : z = nI N) (hR : 1 ≤ R.frames ∧ (rest.map fun v => v.category).sum + (nativeFrameWords "java/lang/System" "arraycopy" 5 + 11) ≤ R.locals) (hd : decode cc pc = .ok (.invokestatic i, 3)) {fn : G → Option ρ} (h : bd (cpy g a b N) fn = some r)
    (kk : ∀ (H1 : Heap) (locs1 : List Loc) (g1 : G), Gd E s H1 locs1 g1 xs → fn g1 = some r → W p l e R s m args below meth c H1 locs1 cells slots Q (F0 m (pc + 3) ls rest)) : W p l e R s m args below meth c H locs cells slots Q (F0 m pc ls (.int z :: .int 0 :: .ref (E.ad b) :: .int 0 :: .ref (E.ad a) :: rest)) := by
  obtain ⟨hx, hb, hml, hown, hts, hK, -⟩ := C
  subst hz
  have hoa : a < NC := kd_lt ha (by omega)
  have hob : b < NC := kd_lt hb9 (by omega)
  have hea : (wl E g ++ xs)[a]? = some (E.ad a, .inl (E.tI, N, .inl (g a))) := by rw [wlx_at hoa, cel_i ha hN]
  have heb : (wl E g ++ xs)[b]? = some (E.ad b, .inl (E.tI, N, .inl (g b))) := by rw [wlx_at hob, cel_i hb9 hN]
  have hcl : (nI N).toNatClampNeg = N := nI_clamp (by omega)
  have h0 : (0 : Int32).toNatClampNeg = 0 := by decide
  have hset : (wl E g ++ xs).set b (E.ad b, .inl (E.tI, N, .inl (va_cpy (g a) (g b) (0 : Int32).toNatClampNeg (0 : Int32).toNatClampNeg (nI N).toNatClampNeg))) = wl E (cpy g a b N) ++ xs := by
    rw [hcl, h0]
    have hf : va_cpy (g a) (g b) 0 0 N = cpy g a b N b := by
      funext j
      by_cases hj : j < N <;> simp [va_cpy, cpy, hj]
    have hne : ∀ i9, i9 ≠ b → cpy g a b N i9 = g i9 := fun i9 hi => funext fun _ => if_neg (fun q => hi q.1)
    apply List.ext_getElem?
    intro i9
    rw [List.getElem?_set]
    by_cases hi : b = i9
    · subst hi
      rw [if_pos rfl, if_pos (by rw [List.length_append, wl_len]; omega), wlx_at hob, cel_i hb9 hN, hf]
    · rw [if_neg hi]
      by_cases hN9 : i9 < NC
      · rw [wlx_at hN9, wlx_at hN9]
        unfold cel fsl fval
        rw [hne i9 (Ne.symm hi)]
      · rw [wlx_ge hN9, wlx_ge hN9]
  refine va_copyi hx hb (hml.trans hls.symm) hown (hts _ hm.1) (hts _ hm.2.1) (hts _ hm.2.2.1) (hts _ hm.2.2.2) hK hG.1 hG.2.1 hG.2.2 a b 0 0 hea heb rfl rfl rfl (by decide) (by decide) (nI_pos (by omega)) (by rw [hcl, h0]; omega) (by rw [hcl, h0]; omega) (fun _ _ => rfl) hR.1 hR.2 hd (fun H1 locs1 a1 a2 a3 => ?_)
  rw [hset] at a1 a2
  exact kk H1 locs1 _ ⟨a1, a2, a3⟩ h
end CALLS
end
section
/-! a few more rows: iinc, switches, answers that are true or false -/
theorem lk_def : ∀ (ps : List (Int × Int)) (d z : Int), (∀ q ∈ ps, q.1 ≠ z) → Op.lookupswitch.offset ps d z = d := by
  intro ps
  induction ps with
  | nil => intro d z _; rfl
  | cons q ps ih =>
    intro d z h
    obtain ⟨a, o⟩ := q
    rw [Op.lookupswitch.offset_cons, if_neg (h _ List.mem_cons_self)]
    exact ih d z (fun q hq => h q (List.mem_cons_of_mem _ hq))
theorem nei {x k : Int32} {z : Int} (h : ¬ x = k) (hz : k.toInt = z) : z ≠ x.toInt := fun q => h (Int32.toInt_inj.mp (by rw [hz, q]))
theorem fa_c {q : Int × Int} {z : Int} {ps : List (Int × Int)} (h : q.1 ≠ z) (t : ∀ q ∈ ps, q.1 ≠ z) : ∀ w ∈ q :: ps, w.1 ≠ z := fun w hw => by
  rcases List.mem_cons.mp hw with rfl | hw
  · exact h
  · exact t w hw
theorem fa_n {z : Int} : ∀ w ∈ ([] : List (Int × Int)), w.1 ≠ z := fun _ h => absurd h List.not_mem_nil
theorem tab_out {x : Int32} {lo hi : Int} (n : Nat) (hn : hi - lo < n) (h : ∀ j : Nat, j < n → lo + (j : Int) ≠ x.toInt) : x.toInt < lo ∨ hi < x.toInt := by
  rcases Int.lt_or_le x.toInt lo with a | a
  · exact Or.inl a
  · rcases Int.lt_or_le hi x.toInt with b | b
    · exact Or.inr b
    · exact absurd (show lo + ((x.toInt - lo).toNat : Int) = x.toInt by omega) (h _ (by omega))
/-- a method that answers true or false, by a number that is not written out -/
def zr (v : Int32) (g : G) : Option (Int32 × G) := if v = 0 ∨ v = 1 then some (v, g) else none
theorem zr_inv {v : Int32} {g : G} {u : Int32 × G} (h : zr v g = some u) : narrow .boolean (.int v) = .int v ∧ some (v, g) = some u := by
  unfold zr at h
  by_cases hc : v = 0 ∨ v = 1
  · rw [if_pos hc] at h
    refine ⟨?_, h⟩
    rcases hc with rfl | rfl <;> rfl
  · rw [if_neg hc] at h; cases h
section ROWS2
variable {p : Program} {l : Launch} {e : Env} {R : Room} {s : State} {m : MethodId} {args : Array Value} {below : List Frame} {meth : Method} {c : Code} {H : Heap} {locs : List Loc} {cells slots : Nat} {Q : State → Prop} {cc : ByteArray} {n : Nat} {own : String} {E : EV} {pc : Nat} {ls : Array Slot} {rest st : List Value} {g : G} {xs : va_W} {ρ : Type} {r : ρ}
theorem r_iinc (C : Cx p s m args meth c cc n own E) {i k : Nat} {n0 : Int} {x w : Int32} {lv : List (Nat × Value)} {lv' : Int32 → List (Nat × Value)} (hd : decode cc pc = .ok (.iinc i n0, 3)) (hl : lv_has ls n lv) (hk : lv[k]? = some (i, .int x)) (hw : Int32.ofInt n0 = w) (hn : i < n) (hl' : ∀ y : Int32, (i, Value.int y) :: lv.filter (fun q => !(q.1 == i) && !(q.1 + 1 == i && q.2.category == 2)) = lv' y) {fn : Int32 → Option ρ} (h : bd (x + w) fn = some r)
    (kk : ∀ (y : Int32) (ls' : Array Slot), lv_has ls' n (lv' y) → fn y = some r → W p l e R s m args below meth c H locs cells slots Q (F0 m (pc + 3) ls' rest)) : W p l e R s m args below meth c H locs cells slots Q (F0 m pc ls rest) :=
  lv_iinc C.1 C.2.1 hd hl hk (by rw [hw]) hn (hl' _) (fun ls' a => kk _ ls' a h)
theorem r_zret (C : Cx p s m args meth c cc n own E) (hG : Gd E s H locs g []) (hr : meth.sig.returnType = some .boolean) {v : Int32} {u : Int32 × G} (hd : decode cc pc = .ok (.ireturn, 1)) (h : zr v g = some u) : W p l e R s m args below meth c H locs cells slots (MQ below (QI E s.heap.size u.1 u.2) args s cells slots (AA E s.heap.size)) (F0 m pc ls [.int v]) :=
  r_iret C hG hr (zr_inv h).1 hd (zr_inv h).2
end ROWS2
end
section
/-! calls of methods that write nothing; their ends; fuel; where references lead -/
def FU : Nat := 100000
def zrP (v : Int32) : Option Int32 := if v = 0 ∨ v = 1 then some v else none
theorem zrP_inv {v u : Int32} (h : zrP v = some u) : narrow .boolean (.int v) = .int v ∧ some v = some u := by
  unfold zrP at h
  by_cases hc : v = 0 ∨ v = 1
  · rw [if_pos hc] at h
    refine ⟨?_, h⟩
    rcases hc with rfl | rfl <;> rfl
  · rw [if_neg hc] at h; cases h
theorem mTBi {w : Cond} (i : Nat) (h : lw_tbl[i]? = some w) (hg : goodWord w = true) : w ∈ TB := List.mem_filter.mpr ⟨List.mem_of_getElem? h, hg⟩
theorem mNBi {w : Cond} (i : Nat) (h : tables_1[i]? = some w) (hg : isNest w = true) : w ∈ NB := List.mem_filter.mpr ⟨List.mem_of_getElem? h, hg⟩
section CALLSP
variable {p : Program} {l : Launch} {e : Env} {R : Room} {s : State} {m : MethodId} {args : Array Value} {below : List Frame} {meth : Method} {c : Code} {H : Heap} {locs : List Loc} {cells slots : Nat} {Q : State → Prop} {cc : ByteArray} {n : Nat} {own : String} {E : EV} {pc : Nat} {ls : Array Slot} {rest st : List Value} {g : G} {xs : va_W} {ρ : Type} {r : ρ}
theorem r_callVIP (C : Cx p s m args meth c cc n own E) (hls : ls.size = n) (hG : Gd E s H locs g xs) {y : MethodName} {c' : ByteArray} {n' : Nat} {rt : Option FieldType} {k np o ci idx N : Nat} (As : List Value) (rest : List Value) {T : u_T} {tt : Nat → FieldType} {kz : Option Int32} (hC : ∀ u, kz = some u → MI E l y c' n' rt k 0 0 (.ref (E.ad o) :: As) g (u, g)) (hm : MLV own idx y c' n' rt np) (hk : kd o = ci) (hKC : KC ci y.cls T N tt) (hlen : As.length = np) (hR : (rmD k 0 0).frames + 1 ≤ R.frames ∧ 8 + (n' + 11) + (rmD k 0 0).locals ≤ R.locals) (hrest : (rest.map fun v => v.category).sum ≤ 8) (hf : cells + 0 ≤ R.cells ∧ slots + 0 ≤ R.slots) (hst : st = As.reverse ++ .ref (E.ad o) :: rest) (hd : decode cc pc = .ok (.invokevirtual idx, 3)) {fn : Int32 → Option ρ} (h : kz.bind fn = some r)
    (kk : ∀ (u : Int32) (H1 : Heap) (locs1 : List Loc), Gd E s H1 locs1 g xs → fn u = some r → W p l e R s m args below meth c H1 locs1 cells slots Q (F0 m (pc + 3) ls (.int u :: rest))) : W p l e R s m args below meth c H locs cells slots Q (F0 m pc ls st) := by
  obtain ⟨u, hu, h⟩ := bind_inv h
  exact af_I hG (run_V C hls hG (hC u hu) hm hk hKC hlen hR hrest hf hst hd) (fun H1 locs1 a => kk u H1 locs1 a h)
theorem r_callSIP (C : Cx p s m args meth c cc n own E) (hls : ls.size = n) (hG : Gd E s H locs g xs) {y : MethodName} {c' : ByteArray} {n' : Nat} {rt : Option FieldType} {k np idx : Nat} (As : List Value) (rest : List Value) {kz : Option Int32} (hC : ∀ u, kz = some u → MI E l y c' n' rt k 0 0 As g (u, g)) (hm : MLS own idx y c' n' rt np) (hlen : As.length = np) (hR : (rmD k 0 0).frames + 1 ≤ R.frames ∧ 8 + (n' + 11) + (rmD k 0 0).locals ≤ R.locals) (hrest : (rest.map fun v => v.category).sum ≤ 8) (hf : cells + 0 ≤ R.cells ∧ slots + 0 ≤ R.slots) (hst : st = As.reverse ++ rest) (hd : decode cc pc = .ok (.invokestatic idx, 3)) {fn : Int32 → Option ρ} (h : kz.bind fn = some r)
    (kk : ∀ (u : Int32) (H1 : Heap) (locs1 : List Loc), Gd E s H1 locs1 g xs → fn u = some r → W p l e R s m args below meth c H1 locs1 cells slots Q (F0 m (pc + 3) ls (.int u :: rest))) : W p l e R s m args below meth c H locs cells slots Q (F0 m pc ls st) := by
  obtain ⟨u, hu, h⟩ := bind_inv h
  exact af_I hG (run_S C hls hG (hC u hu) hm hlen hR hrest hf hst hd) (fun H1 locs1 a => kk u H1 locs1 a h)
theorem r_callVLP (C : Cx p s m args meth c cc n own E) (hls : ls.size = n) (hG : Gd E s H locs g xs) {y : MethodName} {c' : ByteArray} {n' : Nat} {rt : Option FieldType} {k np o ci idx N : Nat} (As : List Value) (rest : List Value) {T : u_T} {tt : Nat → FieldType} {kz : Option Int64} (hC : ∀ u, kz = some u → ML E l y c' n' rt k 0 0 (.ref (E.ad o) :: As) g (u, g)) (hm : MLV own idx y c' n' rt np) (hk : kd o = ci) (hKC : KC ci y.cls T N tt) (hlen : As.length = np) (hR : (rmD k 0 0).frames + 1 ≤ R.frames ∧ 8 + (n' + 11) + (rmD k 0 0).locals ≤ R.locals) (hrest : (rest.map fun v => v.category).sum ≤ 8) (hf : cells + 0 ≤ R.cells ∧ slots + 0 ≤ R.slots) (hst : st = As.reverse ++ .ref (E.ad o) :: rest) (hd : decode cc pc = .ok (.invokevirtual idx, 3)) {fn : Int64 → Option ρ} (h : kz.bind fn = some r)
    (kk : ∀ (u : Int64) (H1 : Heap) (locs1 : List Loc), Gd E s H1 locs1 g xs → fn u = some r → W p l e R s m args below meth c H1 locs1 cells slots Q (F0 m (pc + 3) ls (.long u :: rest))) : W p l e R s m args below meth c H locs cells slots Q (F0 m pc ls st) := by
  obtain ⟨u, hu, h⟩ := bind_inv h
  exact af_L hG (run_V C hls hG (hC u hu) hm hk hKC hlen hR hrest hf hst hd) (fun H1 locs1 a => kk u H1 locs1 a h)
theorem r_callSLP (C : Cx p s m args meth c cc n own E) (hls : ls.size = n) (hG : Gd E s H locs g xs) {y : MethodName} {c' : ByteArray} {n' : Nat} {rt : Option FieldType} {k np idx : Nat} (As : List Value) (rest : List Value) {kz : Option Int64} (hC : ∀ u, kz = some u → ML E l y c' n' rt k 0 0 As g (u, g)) (hm : MLS own idx y c' n' rt np) (hlen : As.length = np) (hR : (rmD k 0 0).frames + 1 ≤ R.frames ∧ 8 + (n' + 11) + (rmD k 0 0).locals ≤ R.locals) (hrest : (rest.map fun v => v.category).sum ≤ 8) (hf : cells + 0 ≤ R.cells ∧ slots + 0 ≤ R.slots) (hst : st = As.reverse ++ rest) (hd : decode cc pc = .ok (.invokestatic idx, 3)) {fn : Int64 → Option ρ} (h : kz.bind fn = some r)
    (kk : ∀ (u : Int64) (H1 : Heap) (locs1 : List Loc), Gd E s H1 locs1 g xs → fn u = some r → W p l e R s m args below meth c H1 locs1 cells slots Q (F0 m (pc + 3) ls (.long u :: rest))) : W p l e R s m args below meth c H locs cells slots Q (F0 m pc ls st) := by
  obtain ⟨u, hu, h⟩ := bind_inv h
  exact af_L hG (run_S C hls hG (hC u hu) hm hlen hR hrest hf hst hd) (fun H1 locs1 a => kk u H1 locs1 a h)
theorem r_callVAP (C : Cx p s m args meth c cc n own E) (hls : ls.size = n) (hG : Gd E s H locs g xs) {y : MethodName} {c' : ByteArray} {n' : Nat} {rt : Option FieldType} {k np o ci idx N : Nat} (As : List Value) (rest : List Value) {T : u_T} {tt : Nat → FieldType} {kz : Option Nat} (hC : ∀ u, kz = some u → MA E l y c' n' rt k 0 0 (.ref (E.ad o) :: As) g (u, g)) (hm : MLV own idx y c' n' rt np) (hk : kd o = ci) (hKC : KC ci y.cls T N tt) (hlen : As.length = np) (hR : (rmD k 0 0).frames + 1 ≤ R.frames ∧ 8 + (n' + 11) + (rmD k 0 0).locals ≤ R.locals) (hrest : (rest.map fun v => v.category).sum ≤ 8) (hf : cells + 0 ≤ R.cells ∧ slots + 0 ≤ R.slots) (hst : st = As.reverse ++ .ref (E.ad o) :: rest) (hd : decode cc pc = .ok (.invokevirtual idx, 3)) {fn : Nat → Option ρ} (h : kz.bind fn = some r)
    (kk : ∀ (u : Nat) (H1 : Heap) (locs1 : List Loc), Gd E s H1 locs1 g xs → fn u = some r → W p l e R s m args below meth c H1 locs1 cells slots Q (F0 m (pc + 3) ls (.ref (E.aK u) :: rest))) : W p l e R s m args below meth c H locs cells slots Q (F0 m pc ls st) := by
  obtain ⟨u, hu, h⟩ := bind_inv h
  exact af_A hG (run_V C hls hG (hC u hu) hm hk hKC hlen hR hrest hf hst hd) (fun H1 locs1 a => kk u H1 locs1 a h)
theorem r_callSAP (C : Cx p s m args meth c cc n own E) (hls : ls.size = n) (hG : Gd E s H locs g xs) {y : MethodName} {c' : ByteArray} {n' : Nat} {rt : Option FieldType} {k np idx : Nat} (As : List Value) (rest : List Value) {kz : Option Nat} (hC : ∀ u, kz = some u → MA E l y c' n' rt k 0 0 As g (u, g)) (hm : MLS own idx y c' n' rt np) (hlen : As.length = np) (hR : (rmD k 0 0).frames + 1 ≤ R.frames ∧ 8 + (n' + 11) + (rmD k 0 0).locals ≤ R.locals) (hrest : (rest.map fun v => v.category).sum ≤ 8) (hf : cells + 0 ≤ R.cells ∧ slots + 0 ≤ R.slots) (hst : st = As.reverse ++ rest) (hd : decode cc pc = .ok (.invokestatic idx, 3)) {fn : Nat → Option ρ} (h : kz.bind fn = some r)
    (kk : ∀ (u : Nat) (H1 : Heap) (locs1 : List Loc), Gd E s H1 locs1 g xs → fn u = some r → W p l e R s m args below meth c H1 locs1 cells slots Q (F0 m (pc + 3) ls (.ref (E.aK u) :: rest))) : W p l e R s m args below meth c H locs cells slots Q (F0 m pc ls st) := by
  obtain ⟨u, hu, h⟩ := bind_inv h
  exact af_A hG (run_S C hls hG (hC u hu) hm hlen hR hrest hf hst hd) (fun H1 locs1 a => kk u H1 locs1 a h)
theorem r_iretP (C : Cx p s m args meth c cc n own E) (hG : Gd E s H locs g []) {ty : FieldType} (hr : meth.sig.returnType = some ty) {v u : Int32} (hn : narrow ty (.int v) = .int v) (hd : decode cc pc = .ok (.ireturn, 1)) (h : some v = some u) : W p l e R s m args below meth c H locs cells slots (MQ below (QI E s.heap.size u g) args s cells slots (AA E s.heap.size)) (F0 m pc ls [.int v]) := by
  cases h
  exact r_iret (u := (v, g)) C hG hr hn hd rfl
theorem r_zretP (C : Cx p s m args meth c cc n own E) (hG : Gd E s H locs g []) (hr : meth.sig.returnType = some .boolean) {v u : Int32} (hd : decode cc pc = .ok (.ireturn, 1)) (h : zrP v = some u) : W p l e R s m args below meth c H locs cells slots (MQ below (QI E s.heap.size u g) args s cells slots (AA E s.heap.size)) (F0 m pc ls [.int v]) :=
  r_iretP C hG hr (zrP_inv h).1 hd (zrP_inv h).2
theorem r_lretP (C : Cx p s m args meth c cc n own E) (hG : Gd E s H locs g []) (hr : meth.sig.returnType = some .long) {v u : Int64} (hd : decode cc pc = .ok (.lreturn, 1)) (h : some v = some u) : W p l e R s m args below meth c H locs cells slots (MQ below (QL E s.heap.size u g) args s cells slots (AA E s.heap.size)) (F0 m pc ls [.long v]) := by
  cases h
  exact r_lret (u := (v, g)) C hG hr hd rfl
end CALLSP
theorem kR2_0 {o : Nat} (h : kd o = 2) : kd (o + 1) = 100010 := (show ∀ o, o < NC → kd o = 2 → kd (o + 1) = 100010 by decide +kernel) o (kd_lt h (by decide)) h
theorem kR2_1 {o : Nat} (h : kd o = 2) : kd (o + 2) = 100010 := (show ∀ o, o < NC → kd o = 2 → kd (o + 2) = 100010 by decide +kernel) o (kd_lt h (by decide)) h
theorem kR2_2 {o : Nat} (h : kd o = 2) : kd (o + 3) = 100400 := (show ∀ o, o < NC → kd o = 2 → kd (o + 3) = 100400 by decide +kernel) o (kd_lt h (by decide)) h
theorem kR2_3 {o : Nat} (h : kd o = 2) : kd (o + 4) = 100400 := (show ∀ o, o < NC → kd o = 2 → kd (o + 4) = 100400 by decide +kernel) o (kd_lt h (by decide)) h
theorem kR3_0 {o : Nat} (h : kd o = 3) : kd (o + 1) = 100012 := (show ∀ o, o < NC → kd o = 3 → kd (o + 1) = 100012 by decide +kernel) o (kd_lt h (by decide)) h
theorem kR3_1 {o : Nat} (h : kd o = 3) : kd (o + 2) = 100012 := (show ∀ o, o < NC → kd o = 3 → kd (o + 2) = 100012 by decide +kernel) o (kd_lt h (by decide)) h
theorem kR4_0 {o : Nat} (h : kd o = 4) : kd (o + 1) = 100010 := (show ∀ o, o < NC → kd o = 4 → kd (o + 1) = 100010 by decide +kernel) o (kd_lt h (by decide)) h
theorem kR4_1 {o : Nat} (h : kd o = 4) : kd (o + 2) = 100010 := (show ∀ o, o < NC → kd o = 4 → kd (o + 2) = 100010 by decide +kernel) o (kd_lt h (by decide)) h
theorem kR4_2 {o : Nat} (h : kd o = 4) : kd (o + 3) = 100010 := (show ∀ o, o < NC → kd o = 4 → kd (o + 3) = 100010 by decide +kernel) o (kd_lt h (by decide)) h
theorem kR4_3 {o : Nat} (h : kd o = 4) : kd (o + 4) = 100010 := (show ∀ o, o < NC → kd o = 4 → kd (o + 4) = 100010 by decide +kernel) o (kd_lt h (by decide)) h
theorem kR4_4 {o : Nat} (h : kd o = 4) : kd (o + 5) = 100010 := (show ∀ o, o < NC → kd o = 4 → kd (o + 5) = 100010 by decide +kernel) o (kd_lt h (by decide)) h
theorem kR4_5 {o : Nat} (h : kd o = 4) : kd (o + 6) = 100010 := (show ∀ o, o < NC → kd o = 4 → kd (o + 6) = 100010 by decide +kernel) o (kd_lt h (by decide)) h
theorem kR4_6 {o : Nat} (h : kd o = 4) : kd (o + 7) = 100010 := (show ∀ o, o < NC → kd o = 4 → kd (o + 7) = 100010 by decide +kernel) o (kd_lt h (by decide)) h
theorem kR7_1 {o : Nat} (h : kd o = 7) : kd (o + 1) = 4 := (show ∀ o, o < NC → kd o = 7 → kd (o + 1) = 4 by decide +kernel) o (kd_lt h (by decide)) h
theorem kR7_2 {o : Nat} (h : kd o = 7) : kd (o + 9) = 3 := (show ∀ o, o < NC → kd o = 7 → kd (o + 9) = 3 by decide +kernel) o (kd_lt h (by decide)) h
theorem kR7_3 {o : Nat} (h : kd o = 7) : kd (o + 12) = 100400 := (show ∀ o, o < NC → kd o = 7 → kd (o + 12) = 100400 by decide +kernel) o (kd_lt h (by decide)) h
theorem kR9_0 {o : Nat} (h : kd o = 9) : kd (o + 1) = 100010 := (show ∀ o, o < NC → kd o = 9 → kd (o + 1) = 100010 by decide +kernel) o (kd_lt h (by decide)) h
theorem kR9_1 {o : Nat} (h : kd o = 9) : kd (o + 2) = 100010 := (show ∀ o, o < NC → kd o = 9 → kd (o + 2) = 100010 by decide +kernel) o (kd_lt h (by decide)) h
theorem kR9_2 {o : Nat} (h : kd o = 9) : kd (o + 3) = 100010 := (show ∀ o, o < NC → kd o = 9 → kd (o + 3) = 100010 by decide +kernel) o (kd_lt h (by decide)) h
theorem kR9_3 {o : Nat} (h : kd o = 9) : kd (o + 4) = 100010 := (show ∀ o, o < NC → kd o = 9 → kd (o + 4) = 100010 by decide +kernel) o (kd_lt h (by decide)) h
theorem kR9_4 {o : Nat} (h : kd o = 9) : kd (o + 5) = 100012 := (show ∀ o, o < NC → kd o = 9 → kd (o + 5) = 100012 by decide +kernel) o (kd_lt h (by decide)) h
theorem kR9_5 {o : Nat} (h : kd o = 9) : kd (o + 6) = 100012 := (show ∀ o, o < NC → kd o = 9 → kd (o + 6) = 100012 by decide +kernel) o (kd_lt h (by decide)) h
theorem kR10_3 {o : Nat} (h : kd o = 10) : kd (o + 1) = 100011 := (show ∀ o, o < NC → kd o = 10 → kd (o + 1) = 100011 by decide +kernel) o (kd_lt h (by decide)) h
theorem kR10_4 {o : Nat} (h : kd o = 10) : kd (o + 2) = 100011 := (show ∀ o, o < NC → kd o = 10 → kd (o + 2) = 100011 by decide +kernel) o (kd_lt h (by decide)) h
theorem kR10_6 {o : Nat} (h : kd o = 10) : kd (o + 3) = 100017 := (show ∀ o, o < NC → kd o = 10 → kd (o + 3) = 100017 by decide +kernel) o (kd_lt h (by decide)) h
theorem kR10_7 {o : Nat} (h : kd o = 10) : kd (o + 4) = 100017 := (show ∀ o, o < NC → kd o = 10 → kd (o + 4) = 100017 by decide +kernel) o (kd_lt h (by decide)) h
theorem kR10_8 {o : Nat} (h : kd o = 10) : kd (o + 5) = 100017 := (show ∀ o, o < NC → kd o = 10 → kd (o + 5) = 100017 by decide +kernel) o (kd_lt h (by decide)) h
theorem kR10_9 {o : Nat} (h : kd o = 10) : kd (o + 6) = 100017 := (show ∀ o, o < NC → kd o = 10 → kd (o + 6) = 100017 by decide +kernel) o (kd_lt h (by decide)) h
theorem kR10_10 {o : Nat} (h : kd o = 10) : kd (o + 7) = 100017 := (show ∀ o, o < NC → kd o = 10 → kd (o + 7) = 100017 by decide +kernel) o (kd_lt h (by decide)) h
theorem kR10_11 {o : Nat} (h : kd o = 10) : kd (o + 8) = 100017 := (show ∀ o, o < NC → kd o = 10 → kd (o + 8) = 100017 by decide +kernel) o (kd_lt h (by decide)) h
theorem kR10_13 {o : Nat} (h : kd o = 10) : kd (o + 9) = 100800 := (show ∀ o, o < NC → kd o = 10 → kd (o + 9) = 100800 by decide +kernel) o (kd_lt h (by decide)) h
theorem kR10_14 {o : Nat} (h : kd o = 10) : kd (o + 10) = 100800 := (show ∀ o, o < NC → kd o = 10 → kd (o + 10) = 100800 by decide +kernel) o (kd_lt h (by decide)) h
theorem kR10_15 {o : Nat} (h : kd o = 10) : kd (o + 11) = 100800 := (show ∀ o, o < NC → kd o = 10 → kd (o + 11) = 100800 by decide +kernel) o (kd_lt h (by decide)) h
end
section
/-! Strings: rows over the run's String constants; two of the JDK's own methods by hand -/
def ckS {ρ : Type} (i : Nat) (x : Option ρ) : Option ρ := if i < NS then x else none
def sld {ρ : Type} (i : Nat) (j : Int32) (f : Int32 → Option ρ) : Option ρ := if i < NS then (if j < 0 ∨ sL i ≤ j.toNatClampNeg then none else f ((sB i).getD j.toNatClampNeg 0)) else none
def lwd {ρ : Type} (j : Int32) (f : Nat → Option ρ) : Option ρ := if j < 0 ∨ 26 ≤ j.toNatClampNeg then none else f (28 + j.toNatClampNeg)
def zcP (v : Int32) : Option Int32 := if 0 ≤ v ∧ v ≤ 65535 then some v else none
theorem ckS_inv {ρ : Type} {i : Nat} {x : Option ρ} {r : ρ} (h : ckS i x = some r) : i < NS ∧ x = some r := by
  unfold ckS at h
  by_cases hc : i < NS
  · rw [if_pos hc] at h; exact ⟨hc, h⟩
  · rw [if_neg hc] at h; cases h
theorem sld_inv {ρ : Type} {i : Nat} {j : Int32} {f : Int32 → Option ρ} {r : ρ} (h : sld i j f = some r) : i < NS ∧ vp_in j (sL i) ∧ f ((sB i).getD j.toNatClampNeg 0) = some r := by
  unfold sld at h
  by_cases hc : i < NS
  · rw [if_pos hc] at h
    by_cases hd : j < 0 ∨ sL i ≤ j.toNatClampNeg
    · rw [if_pos hd] at h; cases h
    · rw [if_neg hd] at h; exact ⟨hc, hd, h⟩
  · rw [if_neg hc] at h; cases h
theorem lwd_inv {ρ : Type} {j : Int32} {f : Nat → Option ρ} {r : ρ} (h : lwd j f = some r) : vp_in j 26 ∧ f (28 + j.toNatClampNeg) = some r := by
  unfold lwd at h
  by_cases hd : j < 0 ∨ 26 ≤ j.toNatClampNeg
  · rw [if_pos hd] at h; cases h
  · rw [if_neg hd] at h; exact ⟨hd, h⟩
theorem zcP_inv {v u : Int32} (h : zcP v = some u) : narrow .char (.int v) = .int v ∧ some v = some u := by
  unfold zcP at h
  by_cases hc : 0 ≤ v ∧ v ≤ 65535
  · rw [if_pos hc] at h
    refine ⟨?_, h⟩
    have h1 : (65535 : Int32).toInt = ((65535 : Nat) : Int) := by decide
    obtain ⟨j, hj, rfl⟩ := nI_of2 h1 (Int32.not_lt.mpr hc.1) hc.2
    exact (pk_charN (by omega)).1
  · rw [if_neg hc] at h; cases h
section STRS
variable {p : Program} {l : Launch} {e : Env} {R : Room} {s : State} {m : MethodId} {args : Array Value} {below : List Frame} {meth : Method} {c : Code} {H : Heap} {locs : List Loc} {cells slots : Nat} {Q : State → Prop} {cc : ByteArray} {n : Nat} {own : String} {E : EV} {pc : Nat} {ls : Array Slot} {rest st : List Value} {g : G} {xs : va_W} {ρ : Type} {r : ρ}
theorem Cx.oo (C : Cx p s m args meth c cc n own E) : OO E s s.heap := C.2.2.2.2.2.2.2.2.2.2
theorem Cx.na (C : Cx p s m args meth c cc n own E) : ∀ q, AA E s.heap.size q → A0 E.sz q := fun _ h => AA_ge C.2.2.2.2.2.2.2.2.2.1 C.2.2.2.2.2.2.2.2.1 h
theorem Cx.so (C : Cx p s m args meth c cc n own E) {i : Nat} (hi : i < NS) : SO1 E.sz E.aK E.aV i s s.heap := (C.oo.2.2.2.2.2.2 i hi).1
theorem r_sval (C : Cx p s m args meth c cc n own E) (hG : Gd E s H locs g xs) {i idx : Nat} (hl : Cond.fieldLink own idx "java/lang/String" "value" "[B" ∈ TB) (hd : decode cc pc = .ok (.getfield idx, 3)) {x : Option ρ} (h : ckS i x = some r) (kk : x = some r → W p l e R s m args below meth c H locs cells slots Q (F0 m (pc + 3) ls (.ref (E.aV i) :: rest))) : W p l e R s m args below meth c H locs cells slots Q (F0 m pc ls (.ref (E.aK i) :: rest)) := by
  obtain ⟨hi, h⟩ := ckS_inv h
  exact vk_getf C.1 C.2.1 ((C.so hi).2.2.1.narrow C.na) hG.2.2 C.2.2.2.1 (C.2.2.2.2.1 _ hl) (fun _ h9 => h9) hd (kk h)
theorem r_scod (C : Cx p s m args meth c cc n own E) (hG : Gd E s H locs g xs) {i idx : Nat} (hl : Cond.fieldLink own idx "java/lang/String" "coder" "B" ∈ TB) (hd : decode cc pc = .ok (.getfield idx, 3)) {x : Option ρ} (h : ckS i x = some r) (kk : x = some r → W p l e R s m args below meth c H locs cells slots Q (F0 m (pc + 3) ls (.int 0 :: rest))) : W p l e R s m args below meth c H locs cells slots Q (F0 m pc ls (.ref (E.aK i) :: rest)) := by
  obtain ⟨hi, h⟩ := ckS_inv h
  exact vk_getf C.1 C.2.1 ((C.so hi).2.1.narrow C.na) hG.2.2 C.2.2.2.1 (C.2.2.2.2.1 _ hl) (fun _ h9 => h9) hd (kk h)
theorem r_slen (C : Cx p s m args meth c cc n own E) (hG : Gd E s H locs g xs) {i : Nat} (hd : decode cc pc = .ok (.arraylength, 1)) {x : Option ρ} (h : ckS i x = some r) (kk : x = some r → W p l e R s m args below meth c H locs cells slots Q (F0 m (pc + 1) ls (.int (nI (sL i)) :: rest))) : W p l e R s m args below meth c H locs cells slots Q (F0 m pc ls (.ref (E.aV i) :: rest)) := by
  obtain ⟨hi, h⟩ := ckS_inv h
  exact va_tlen C.1 C.2.1 ((C.so hi).2.2.2.narrow C.na) hG.2.2 rfl hd (kk h)
theorem r_sbld (C : Cx p s m args meth c cc n own E) (hG : Gd E s H locs g xs) {i : Nat} {j : Int32} (hd : decode cc pc = .ok (.baload, 1)) {fn : Int32 → Option ρ} (h : sld i j fn = some r) (kk : ∀ x : Int32, fn x = some r → W p l e R s m args below meth c H locs cells slots Q (F0 m (pc + 1) ls (.int x :: rest))) : W p l e R s m args below meth c H locs cells slots Q (F0 m pc ls (.int j :: .ref (E.aV i) :: rest)) := by
  obtain ⟨hi, hin, h⟩ := sld_inv h
  exact va_tb C.1 C.2.1 ((C.so hi).2.2.2.narrow C.na) hG.2.2 hin rfl hd (kk _ h)
theorem r_gCS (C : Cx p s m args meth c cc n own E) (hG : Gd E s H locs g xs) {idx : Nat} (hl : Cond.fieldLink own idx "java/lang/String" "COMPACT_STRINGS" "Z" ∈ TB) (hd : decode cc pc = .ok (.getstatic idx, 3)) (kk : W p l e R s m args below meth c H locs cells slots Q (F0 m (pc + 3) ls (.int 1 :: rest))) : W p l e R s m args below meth c H locs cells slots Q (F0 m pc ls rest) :=
  va_gets C.1 C.2.1 (C.oo.1.narrow C.na) hG.2.2 C.2.2.2.1 (C.2.2.2.2.1 _ hl) (fun _ h9 => h9) hd kk
theorem r_gWD (C : Cx p s m args meth c cc n own E) (hG : Gd E s H locs g xs) {idx : Nat} (hl : Cond.fieldLink own idx "PeriscopeTrainModel" "WORDS" "[Ljava/lang/String;" ∈ TB) (hd : decode cc pc = .ok (.getstatic idx, 3)) (kk : W p l e R s m args below meth c H locs cells slots Q (F0 m (pc + 3) ls (.ref E.tW :: rest))) : W p l e R s m args below meth c H locs cells slots Q (F0 m pc ls rest) :=
  va_gets C.1 C.2.1 (C.oo.2.2.2.2.1.narrow C.na) hG.2.2 C.2.2.2.1 (C.2.2.2.2.1 _ hl) (fun _ h9 => h9) hd kk
theorem r_lWD (C : Cx p s m args meth c cc n own E) (hG : Gd E s H locs g xs) (hd : decode cc pc = .ok (.arraylength, 1)) (kk : W p l e R s m args below meth c H locs cells slots Q (F0 m (pc + 1) ls (.int 26 :: rest))) : W p l e R s m args below meth c H locs cells slots Q (F0 m pc ls (.ref E.tW :: rest)) :=
  va_tlen C.1 C.2.1 (C.oo.2.2.2.2.2.1.narrow C.na) hG.2.2 rfl hd kk
theorem r_aWD (C : Cx p s m args meth c cc n own E) (hG : Gd E s H locs g xs) {j : Int32} (hd : decode cc pc = .ok (.aaload, 1)) {fn : Nat → Option ρ} (h : lwd j fn = some r) (kk : ∀ x : Nat, fn x = some r → W p l e R s m args below meth c H locs cells slots Q (F0 m (pc + 1) ls (.ref (E.aK x) :: rest))) : W p l e R s m args below meth c H locs cells slots Q (F0 m pc ls (.int j :: .ref E.tW :: rest)) := by
  obtain ⟨hin, h⟩ := lwd_inv h
  exact vb_tq C.1 C.2.1 (C.oo.2.2.2.2.2.1.narrow C.na) hG.2.2 hin rfl hd (kk _ h)
theorem r_ldcS (C : Cx p s m args meth c cc n own E) {idx : Nat} (i : Nat) (hi : i < NS) (ho : (sG i).1 = own ∧ (sG i).2.1 = idx) (hd : decode cc pc = .ok (.ldc idx, 2)) (kk : W p l e R s m args below meth c H locs cells slots Q (F0 m (pc + 2) ls (.ref (E.aK i) :: rest))) : W p l e R s m args below meth c H locs cells slots Q (F0 m pc ls rest) := by
  obtain ⟨rfl, rfl⟩ := ho
  exact va_ldcS C.1 C.2.1 C.2.2.2.1 (C.oo.2.2.2.2.2.2 i hi).2 hd kk
theorem run_VS (C : Cx p s m args meth c cc n own E) (hls : ls.size = n) (hG : Gd E s H locs g xs) {y : MethodName} {c' : ByteArray} {n' : Nat} {rt : Option FieldType} {k mc ms np i idx : Nat} {As : List Value} {QQ : Nat → Array Value → State → Outcome → State → Prop}
    (hM : MG E l y c' n' rt k mc ms (.ref (E.aK i) :: As) g QQ) (hm : MLV own idx y c' n' rt np) (hi : i < NS) (hy : y.cls = "java/lang/String") (hlen : As.length = np) (hR : (rmD k mc ms).frames + 1 ≤ R.frames ∧ 8 + (n' + 11) + (rmD k mc ms).locals ≤ R.locals) (hrest : (rest.map fun v => v.category).sum ≤ 8) (hf : cells + mc ≤ R.cells ∧ slots + ms ≤ R.slots) (hst : st = As.reverse ++ .ref (E.aK i) :: rest) (hd : decode cc pc = .ok (.invokevirtual idx, 3)) :
    va_Run p l e R s m args below meth c H locs cells slots mc ms (F0 m pc ls st) rest (QQ H.size (Value.ref (E.aK i) :: As).toArray) (AA E H.size) := by
  have hpre := pre_ok C hG (.ref (E.aK i) :: As)
  have hrecv : ∃ cell : Cell, H[E.aK i]? = some cell ∧ cell.vm.isStatics = false ∧ s.vm.findClass y.cls = some cell.cls := by
    obtain ⟨cell, h1, h2, h3, -⟩ := ((C.so hi).1.narrow C.na).kept hG.2.2.2.1
    exact ⟨cell, h1, h2, by rw [hy]; exact h3⟩
  obtain ⟨hx, hb, hml, hown, hts, hK, hN, -⟩ := id C
  obtain ⟨h1, h2, h3, h4, h5, h6⟩ := hm
  rcases h6 with h6 | ⟨host, h6⟩
  · exact va_runV (C := y.cls) (Ts := TB) ⟨hx, hb, hml, hown, hts⟩ (hM H.size) ⟨callB_of np hts (gwz h1) rfl rfl rfl (hts _ h2) (hts _ h6) h5 hR, hts _ h3, hts _ h4⟩ ⟨PC_blind, hrecv, hpre⟩ rfl hlen hls hst (lv_room hrest) hd hf
  · exact va_runVN (C := y.cls) (Ts := TB) (host := host) ⟨hx, hb, hml, hown, hts⟩ (hM H.size) ⟨va_cnB np hts (gwz h1) rfl rfl rfl (hN _ h6) (hts _ h2) h5 hR, hts _ h3, hts _ h4⟩ ⟨PC_blind, hrecv, hpre⟩ rfl hlen hls hst (lv_room hrest) hd hf
theorem r_callVIS (C : Cx p s m args meth c cc n own E) (hls : ls.size = n) (hG : Gd E s H locs g xs) {y : MethodName} {c' : ByteArray} {n' : Nat} {rt : Option FieldType} {k np i idx : Nat} (As : List Value) (rest : List Value) {kz : Option Int32} (hC : ∀ u, kz = some u → MI E l y c' n' rt k 0 0 (.ref (E.aK i) :: As) g (u, g)) (hm : MLV own idx y c' n' rt np) (hy : y.cls = "java/lang/String") (hlen : As.length = np) (hR : (rmD k 0 0).frames + 1 ≤ R.frames ∧ 8 + (n' + 11) + (rmD k 0 0).locals ≤ R.locals) (hrest : (rest.map fun v => v.category).sum ≤ 8) (hf : cells + 0 ≤ R.cells ∧ slots + 0 ≤ R.slots) (hst : st = As.reverse ++ .ref (E.aK i) :: rest) (hd : decode cc pc = .ok (.invokevirtual idx, 3)) {fn : Int32 → Option ρ} (h : ckS i (kz.bind fn) = some r)
    (kk : ∀ (u : Int32) (H1 : Heap) (locs1 : List Loc), Gd E s H1 locs1 g xs → fn u = some r → W p l e R s m args below meth c H1 locs1 cells slots Q (F0 m (pc + 3) ls (.int u :: rest))) : W p l e R s m args below meth c H locs cells slots Q (F0 m pc ls st) := by
  obtain ⟨hi, h⟩ := ckS_inv h
  obtain ⟨u, hu, h⟩ := bind_inv h
  exact af_I hG (run_VS C hls hG (hC u hu) hm hi hy hlen hR hrest hf hst hd) (fun H1 locs1 a => kk u H1 locs1 a h)
theorem r_callSVP (C : Cx p s m args meth c cc n own E) (hls : ls.size = n) (hG : Gd E s H locs g xs) {y : MethodName} {c' : ByteArray} {n' : Nat} {rt : Option FieldType} {k np idx : Nat} (As : List Value) (rest : List Value) {kz : Option Unit} (hC : ∀ u, kz = some u → MV E l y c' n' rt k 0 0 As g g) (hm : MLS own idx y c' n' rt np) (hlen : As.length = np) (hR : (rmD k 0 0).frames + 1 ≤ R.frames ∧ 8 + (n' + 11) + (rmD k 0 0).locals ≤ R.locals) (hrest : (rest.map fun v => v.category).sum ≤ 8) (hf : cells + 0 ≤ R.cells ∧ slots + 0 ≤ R.slots) (hst : st = As.reverse ++ rest) (hd : decode cc pc = .ok (.invokestatic idx, 3)) {fn : Unit → Option ρ} (h : kz.bind fn = some r)
    (kk : ∀ (u : Unit) (H1 : Heap) (locs1 : List Loc), Gd E s H1 locs1 g xs → fn u = some r → W p l e R s m args below meth c H1 locs1 cells slots Q (F0 m (pc + 3) ls rest)) : W p l e R s m args below meth c H locs cells slots Q (F0 m pc ls st) := by
  obtain ⟨u, hu, h⟩ := bind_inv h
  exact af_V hG (run_S C hls hG (hC u hu) hm hlen hR hrest hf hst hd) (fun H1 locs1 a => kk u H1 locs1 a h)
theorem r_cretP (C : Cx p s m args meth c cc n own E) (hG : Gd E s H locs g []) (hr : meth.sig.returnType = some .char) {v u : Int32} (hd : decode cc pc = .ok (.ireturn, 1)) (h : zcP v = some u) : W p l e R s m args below meth c H locs cells slots (MQ below (QI E s.heap.size u g) args s cells slots (AA E s.heap.size)) (F0 m pc ls [.int v]) :=
  r_iretP C hG hr (zcP_inv h).1 hd (zcP_inv h).2
theorem r_aretP (C : Cx p s m args meth c cc n own E) (hG : Gd E s H locs g []) {nm : String} (hr : meth.sig.returnType = some (.object nm)) {v u : Nat} (hd : decode cc pc = .ok (.areturn, 1)) (h : some v = some u) : W p l e R s m args below meth c H locs cells slots (MQ below (QA E s.heap.size (E.aK u) g) args s cells slots (AA E s.heap.size)) (F0 m pc ls [.ref (E.aK v)]) := by
  cases h
  have hl : meth.locks = false := C.2.2.2.2.2.2.2.1
  have hP := hG.1
  rw [List.append_nil] at hP
  exact W.aret C.1 C.2.1 hr (Or.inl ⟨nm, rfl⟩) (Or.inr ⟨_, rfl⟩) (fun t ht hW => ⟨⟨(), E.aK v, rfl, trivial, rfl, by show va_P _ _ _ t.heap; rw [ht]; exact hP⟩, hG.2.2.F ht⟩) hG.2.2.2.2 hd hl
end STRS
end
section
/-! methods that return or throw: (0, answer, world) or (which exception, 0, world) -/
abbrev XR : Type := Nat × Int32 × G
def exN (k : Nat) : String := if k = 1 then "java/lang/IllegalStateException" else if k = 2 then "java/lang/IllegalArgumentException" else "java/lang/IndexOutOfBoundsException"
abbrev exNames : List String := ["java/lang/RuntimeException", "java/lang/Exception"]
def QXr (E : EV) (sz : Nat) (u : XR) : Array Value → State → Outcome → State → Prop := va_Qi (fun (r' : Int32) (_ : Unit) => u.1 = 0 ∧ r' = u.2.1) (PT E u.2.2) (AA E sz)
def QXv (E : EV) (sz : Nat) (u : XR) : Array Value → State → Outcome → State → Prop := va_Qv (fun (_ : Unit) => u.1 = 0) (PT E u.2.2) (AA E sz)
def XCx (E : EV) (sz : Nat) (u : XR) : String → State → State → Prop := vx_X (fun (_ : Unit) => u.1 ≠ 0) (fun En _ t => En = exN u.1 ∧ va_P E.D vwCl (wl E u.2.2) t.heap) (AA E sz)
def MX (E : EV) (l : Launch) (y : MethodName) (c : ByteArray) (n : Nat) (rt : Option FieldType) (k mc ms : Nat) (av : List Value) (g : G) (QQ : Nat → Array Value → State → Outcome → State → Prop) (u : XR) : Prop := ∀ sz, vx_Met l y (wz y c n rt) (rmD k mc ms) (PC E sz av g) (QQ sz) (XCx E sz u) mc ms (AA E sz)
abbrev MXr (E : EV) (l : Launch) (y : MethodName) (c : ByteArray) (n : Nat) (rt : Option FieldType) (k mc ms : Nat) (av : List Value) (g : G) (u : XR) : Prop := MX E l y c n rt k mc ms av g (fun sz => QXr E sz u) u
abbrev MXv (E : EV) (l : Launch) (y : MethodName) (c : ByteArray) (n : Nat) (rt : Option FieldType) (k mc ms : Nat) (av : List Value) (g : G) (u : XR) : Prop := MX E l y c n rt k mc ms av g (fun sz => QXv E sz u) u
def xb (x : Option XR) (f : G → Option XR) : Option XR := x.bind fun w => if w.1 = 0 then f w.2.2 else some w
theorem xb_inv {x : Option XR} {f : G → Option XR} {u : XR} (h : xb x f = some u) : ∃ w, x = some w ∧ ((w.1 = 0 ∧ f w.2.2 = some u) ∨ (w.1 ≠ 0 ∧ w = u)) := by
  obtain ⟨w, hw, h⟩ := bind_inv h
  refine ⟨w, hw, ?_⟩
  by_cases hc : w.1 = 0
  · rw [if_pos hc] at h; exact Or.inl ⟨hc, h⟩
  · rw [if_neg hc] at h; exact Or.inr ⟨hc, Option.some.inj h⟩
theorem MX.of {E : EV} {l : Launch} {y : MethodName} {cc : ByteArray} {n : Nat} {rt : Option FieldType} {k mc ms : Nat} {av : List Value} {g : G} {QQ : Nat → Array Value → State → Outcome → State → Prop} {u : XR} (hy : plainName y.cls = true) (hn : (lg_sl av).length ≤ n)
    (body : ∀ (p : Program) (e : Env) (s : State) (m : MethodId) (args : Array Value) (below : List Frame) (meth : Method) (c : Code), Cx p s m args meth c cc n y.cls E → (∀ x ∈ c.exceptionTable.toList, False) → meth.sig.returnType = rt → ∀ ls : Array Slot, lv_has ls n (lv_args 0 av) → Gd E s s.heap [] g [] →
      W p l e (rmD k mc ms) s m args below meth c s.heap [] 0 0 (vx_MQ below (QQ s.heap.size) (XCx E s.heap.size u) args s mc ms (AA E s.heap.size)) (F0 m 0 ls [])) : MX E l y cc n rt k mc ms av g QQ u := by
  intro sz
  refine vx_ofW (cc := cc) (maxL := n) (ret := rt) hy rfl ?_
  intro p e s m args below meth c s₁ B hml ht hv
  obtain ⟨rfl, rfl, h2, h3, h4, h5, h6, h7⟩ := hv
  have hts := atoms_spec (ws := wz y cc n rt) B.pre
  have hown : s.vm.findClass y.cls = some m.cls := findClass_of_methodNamed B.named
  rw [lg_entry_eq]
  refine body p e s m _ below meth c ⟨B.exec, B.bytes, hml, hown, fun w hw => hts w (List.mem_cons_of_mem _ hw), h4, h6, B.notSynchronized, h2, h5, h7⟩ ht B.returns _ (lv_entry av hn) ?_
  refine ⟨by rw [List.append_nil]; exact h3, by rw [List.append_nil]; exact wl_D h5 (fun i hi => Or.inl ⟨i, hi, rfl⟩), va_S.rf⟩
/-- what an exception of kind ek wants to be made and thrown in the class own -/
def XW (own : String) (ik ic ek : Nat) : Prop := Bundle.fit (exN ek) = true ∧ (∀ n ∈ exNames, Bundle.fit n = true) ∧ Cond.classLink own ik (exN ek) ∈ TB ∧ Cond.initialized (exN ek) ∈ TB ∧ (∀ w ∈ vx_atS own ic (exN ek) exNames, w ∈ TB ∨ w ∈ NB) ∧ (∀ w ∈ Cond.classLink own ik (exN ek) :: Cond.initialized (exN ek) :: vx_atS own ic (exN ek) exNames, vx_ot w = true)
def inTN (w : Cond) : Bool := (decide (w ∈ lw_tbl) && goodWord w) || (decide (w ∈ tables_1) && isNest w)
theorem inTN_ok {w : Cond} (h : inTN w = true) : w ∈ TB ∨ w ∈ NB := by
  unfold inTN at h
  rcases Bool.or_eq_true _ _ ▸ h with h | h
  · exact Or.inl (mTB h)
  · exact Or.inr (mNB h)
section THROWS
variable {p : Program} {l : Launch} {e : Env} {R : Room} {s : State} {m : MethodId} {args : Array Value} {below : List Frame} {meth : Method} {c : Code} {H : Heap} {locs : List Loc} {cells slots mc ms : Nat} {Q : State → Prop} {cc : ByteArray} {n : Nat} {own : String} {E : EV} {pc : Nat} {ls : Array Slot} {rest st : List Value} {g : G} {u : XR} {Qc : Array Value → State → Outcome → State → Prop}
theorem Cx.lk (C : Cx p s m args meth c cc n own E) : meth.locks = false := C.2.2.2.2.2.2.2.1
theorem x_ok (C : Cx p s m args meth c cc n own E) (hG : Gd E s H locs g []) {ek : Nat} (h : some ((ek, 0, g) : XR) = some u) (hek : ek ≠ 0) : ∀ t : State, s.vm.Alike t.vm → H.size ≤ t.heap.size → (∀ q : Nat, q < H.size → t.heap[q]? = H[q]?) → XCx E s.heap.size u (exN ek) s t := by
  intro t hvm hz hq
  cases h
  have hP := hG.1
  rw [List.append_nil] at hP
  refine ⟨(), hek, ⟨rfl, fun k q hk => ?_⟩, Nat.le_trans hG.2.2.1 hz, fun q h1 h2 => ?_⟩
  · have hat := hP k q hk
    exact hat.kept (hq q.1 hat.lt)
  · rw [hq q (Nat.lt_of_lt_of_le h1 hG.2.2.1)]
    exact hG.2.2.2.1 q h1 h2
theorem r_throwS (C : Cx p s m args meth c cc n own E) (hls : ls.size = n) (hG : Gd E s H locs g []) (hl : l.stackTraces = false) (ht : ∀ x ∈ c.exceptionTable.toList, False) {ek ik is ic : Nat} (i : Nat) (hw : XW own ik ic ek) (hi : i < NS) (ho : (sG i).1 = own ∧ (sG i).2.1 = is) (hek : ek ≠ 0)
    (d0 : decode cc pc = .ok (.new ik, 3)) (d3 : decode cc (pc + 3) = .ok (.dup, 1)) (d4 : decode cc (pc + 4) = .ok (.ldc is, 2)) (d6 : decode cc (pc + 6) = .ok (.invokespecial ic, 3)) (d9 : decode cc (pc + 9) = .ok (.athrow, 1))
    (hR : 5 < R.frames ∧ (rest.map fun v => v.category).sum + 82 ≤ R.locals ∧ cells + 1 ≤ R.cells ∧ slots + 6 ≤ R.slots) (hc : cells + 1 ≤ mc ∧ slots + 6 ≤ ms) (h : some ((ek, 0, g) : XR) = some u) :
    W p l e R s m args below meth c H locs cells slots (vx_MQ below Qc (XCx E s.heap.size u) args s mc ms (AA E s.heap.size)) (F0 m pc ls rest) := by
  obtain ⟨h1, h2, h3, h4, h5, h6⟩ := hw
  obtain ⟨rfl, rfl⟩ := ho
  have hts := C.2.2.2.2.1
  have hN : NK s := C.2.2.2.2.2.2.1
  have hat : ∀ w ∈ vx_atS (sG i).1 ic (exN ek) exNames, w.before args s = true := fun w hw => by
    rcases h5 w hw with h | h
    · exact hts w h
    · have hn := nestNB h
      refine va_Nw.use ?_ (hN w h)
      cases w <;> first | rfl | cases hn
  exact vx_throwS C.1 C.2.1 hl C.2.2.2.1 h1 h2 (hts _ h3) (hts _ h4) (C.oo.2.2.2.2.2.2 i hi).2 hat h6 (⟨C.oo.2.2.1.1.narrow C.na, C.oo.2.2.1.2.narrow C.na⟩) (⟨C.oo.2.2.2.1.1.narrow C.na, C.oo.2.2.2.1.2.narrow C.na⟩) hG.2.2 (hls.trans C.2.2.1.symm) d0 d3 d4 d6 d9 (fun x hx => (ht x hx).elim) hR.1 hR.2.1 hR.2.2.1 hR.2.2.2 C.lk (x_ok C hG h hek) hG.2.2.2.2 hc.1 hc.2
theorem r_throwSW (C : Cx p s m args meth c cc n own E) (hls : ls.size = n) (hG : Gd E s H locs g []) (hl : l.stackTraces = false) (ht : ∀ x ∈ c.exceptionTable.toList, False) {ek ik is ic : Nat} (i : Nat) (hw : XW own ik ic ek) (hi : i < NS) (ho : (sG i).1 = own ∧ (sG i).2.1 = is) (hek : ek ≠ 0)
    (d0 : decode cc pc = .ok (.new ik, 3)) (d3 : decode cc (pc + 3) = .ok (.dup, 1)) (d4 : decode cc (pc + 4) = .ok (.ldc_w is, 3)) (d7 : decode cc (pc + 7) = .ok (.invokespecial ic, 3)) (d10 : decode cc (pc + 10) = .ok (.athrow, 1))
    (hR : 5 < R.frames ∧ (rest.map fun v => v.category).sum + 82 ≤ R.locals ∧ cells + 1 ≤ R.cells ∧ slots + 6 ≤ R.slots) (hc : cells + 1 ≤ mc ∧ slots + 6 ≤ ms) (h : some ((ek, 0, g) : XR) = some u) :
    W p l e R s m args below meth c H locs cells slots (vx_MQ below Qc (XCx E s.heap.size u) args s mc ms (AA E s.heap.size)) (F0 m pc ls rest) := by
  obtain ⟨h1, h2, h3, h4, h5, h6⟩ := hw
  obtain ⟨rfl, rfl⟩ := ho
  have hts := C.2.2.2.2.1
  have hN : NK s := C.2.2.2.2.2.2.1
  have hat : ∀ w ∈ vx_atS (sG i).1 ic (exN ek) exNames, w.before args s = true := fun w hw => by
    rcases h5 w hw with h | h
    · exact hts w h
    · have hn := nestNB h
      refine va_Nw.use ?_ (hN w h)
      cases w <;> first | rfl | cases hn
  exact vx_throwSW C.1 C.2.1 hl C.2.2.2.1 h1 h2 (hts _ h3) (hts _ h4) (C.oo.2.2.2.2.2.2 i hi).2 hat h6 (⟨C.oo.2.2.1.1.narrow C.na, C.oo.2.2.1.2.narrow C.na⟩) (⟨C.oo.2.2.2.1.1.narrow C.na, C.oo.2.2.2.1.2.narrow C.na⟩) hG.2.2 (hls.trans C.2.2.1.symm) d0 d3 d4 d7 d10 (fun x hx => (ht x hx).elim) hR.1 hR.2.1 hR.2.2.1 hR.2.2.2 C.lk (x_ok C hG h hek) hG.2.2.2.2 hc.1 hc.2
theorem r_iretX (C : Cx p s m args meth c cc n own E) (hG : Gd E s H locs g []) {ty : FieldType} (hr : meth.sig.returnType = some ty) {v : Int32} (hn : narrow ty (.int v) = .int v) (hd : decode cc pc = .ok (.ireturn, 1)) (hc : cells ≤ mc ∧ slots ≤ ms) (h : some ((0, v, g) : XR) = some u) : W p l e R s m args below meth c H locs cells slots (vx_MQ below (QXr E s.heap.size u) (XCx E s.heap.size u) args s mc ms (AA E s.heap.size)) (F0 m pc ls [.int v]) := by
  cases h
  have hP := hG.1
  rw [List.append_nil] at hP
  exact W.widen hc.1 hc.2 (vx_ret (W.zret C.1 C.2.1 hr hn (fun t ht hW => ⟨⟨v, (), rfl, ⟨rfl, rfl⟩, by show va_P _ _ _ t.heap; rw [ht]; exact hP⟩, hG.2.2.F ht⟩) hG.2.2.2.2 hd C.lk))
theorem r_vretX (C : Cx p s m args meth c cc n own E) (hG : Gd E s H locs g []) (hr : meth.sig.returnType = none) (hd : decode cc pc = .ok (.return_, 1)) (hc : cells ≤ mc ∧ slots ≤ ms) (h : some ((0, 0, g) : XR) = some u) : W p l e R s m args below meth c H locs cells slots (vx_MQ below (QXv E s.heap.size u) (XCx E s.heap.size u) args s mc ms (AA E s.heap.size)) (F0 m pc ls []) := by
  cases h
  have hP := hG.1
  rw [List.append_nil] at hP
  exact W.widen hc.1 hc.2 (vx_ret (W.vret C.1 C.2.1 hr (fun t ht hW => ⟨⟨(), rfl, rfl, by show va_P _ _ _ t.heap; rw [ht]; exact hP⟩, hG.2.2.F ht⟩) hG.2.2.2.2 hd C.lk))
theorem afx_V (C : Cx p s m args meth c cc n own E) (hG : Gd E s H locs g []) (ht : ∀ x ∈ c.exceptionTable.toList, False) {mc' ms' : Nat} {a : Array Value} {w : XR} {st0 : List Value} (hr : vx_Run p l e R s m args below meth c H locs cells slots mc' ms' (F0 m pc ls st0) rest (QXv E H.size w a) (XCx E H.size w) (AA E H.size)) (hc : cells + mc' ≤ mc ∧ slots + ms' ≤ ms) {fn : G → Option XR} (h : (w.1 = 0 ∧ fn w.2.2 = some u) ∨ (w.1 ≠ 0 ∧ w = u))
    (kk : ∀ (H1 : Heap) (locs1 : List Loc) (g1 : G), Gd E s H1 locs1 g1 [] → fn g1 = some u → W p l e R s m args below meth c H1 locs1 (cells + mc') (slots + ms') (vx_MQ below Qc (XCx E s.heap.size u) args s mc ms (AA E s.heap.size)) (F0 m (pc + 3) ls rest)) : W p l e R s m args below meth c H locs cells slots (vx_MQ below Qc (XCx E s.heap.size u) args s mc ms (AA E s.heap.size)) (F0 m pc ls st0) := by
  refine vx_callv hr hG.2.2 (fun q _ h => AA_in hG q h) (AA_in hG) (fun q _ h => AA_in hG q h) (fun En ce q9 u9 t H1 locs1 e1 hvm hpx hBX hz hk hS hce hcv hcl => ?_) (fun u9 t H1 locs1 e1 hvm hpost hB hz hk hS => ?_)
  · obtain ⟨rfl, hBX⟩ := hBX
    rcases h with ⟨h0, -⟩ | ⟨-, rfl⟩
    · exact absurd h0 hpx
    · refine vx_out (fun x hx => (ht x hx).elim) C.lk hce hcv hcl (fun t9 ht9 hvm9 => ⟨(), hpx, ⟨rfl, by rw [ht9, ← e1]; exact hBX⟩, ?_⟩) hS.2.2 hc.1 hc.2
      exact ⟨by rw [ht9]; exact hS.1, fun q q1 q2 => by rw [ht9]; exact hS.2.1 q q1 q2⟩
  · rcases h with ⟨-, h⟩ | ⟨h0, -⟩
    · exact kk H1 locs1 _ (Gd_after hG (by rw [← e1]; exact hB) hk hS) h
    · exact absurd hpost h0
theorem r_callVXV (C : Cx p s m args meth c cc n own E) (hls : ls.size = n) (hG : Gd E s H locs g []) (ht : ∀ x ∈ c.exceptionTable.toList, False) {y : MethodName} {c' : ByteArray} {n' : Nat} {rt : Option FieldType} {k mc' ms' np o ci idx N : Nat} (As : List Value) (rest : List Value) {T : u_T} {tt : Nat → FieldType} {kz : Option XR} (hC : ∀ u, kz = some u → MXv E l y c' n' rt k mc' ms' (.ref (E.ad o) :: As) g u) (hm : MLV own idx y c' n' rt np) (h6 : Cond.methodLink own idx y ∈ TB) (hk : kd o = ci) (hKC : KC ci y.cls T N tt) (hlen : As.length = np) (hR : (rmD k mc' ms').frames + 1 ≤ R.frames ∧ 8 + (n' + 11) + (rmD k mc' ms').locals ≤ R.locals) (hrest : (rest.map fun v => v.category).sum ≤ 8) (hf : cells + mc' ≤ R.cells ∧ slots + ms' ≤ R.slots) (hc : cells + mc' ≤ mc ∧ slots + ms' ≤ ms) (hst : st = As.reverse ++ .ref (E.ad o) :: rest) (hd : decode cc pc = .ok (.invokevirtual idx, 3)) {fn : G → Option XR} (h : xb kz fn = some u)
    (kk : ∀ (H1 : Heap) (locs1 : List Loc) (g1 : G), Gd E s H1 locs1 g1 [] → fn g1 = some u → W p l e R s m args below meth c H1 locs1 (cells + mc') (slots + ms') (vx_MQ below Qc (XCx E s.heap.size u) args s mc ms (AA E s.heap.size)) (F0 m (pc + 3) ls rest)) : W p l e R s m args below meth c H locs cells slots (vx_MQ below Qc (XCx E s.heap.size u) args s mc ms (AA E s.heap.size)) (F0 m pc ls st) := by
  obtain ⟨w, hw, h⟩ := xb_inv h
  have hpre := pre_ok C hG (.ref (E.ad o) :: As)
  obtain ⟨hx, hb, hml, hown, hts, hK, hN, -⟩ := id C
  obtain ⟨h1, h2, h3, h4, h5, -⟩ := hm
  have hci := KC_lt hKC
  have ho : o < NC := kd_lt hk (by omega)
  have he : (wl E g ++ [])[o]? = some (E.ad o, .inr (ci, fsl E g o ci)) := by rw [wlx_at ho, cel_o hk hci]
  have hrecv := va_recv hK hG.1 (ci := ci) hKC.1 he
  exact afx_V C hG ht (vx_runV (C := y.cls) (Ts := TB) ⟨hx, hb, hml, hown, hts⟩ (hC w hw H.size) ⟨callB_of np hts (gwz h1) rfl rfl rfl (hts _ h2) (hts _ h6) h5 hR, hts _ h3, hts _ h4⟩ ⟨PC_blind, hrecv, hpre⟩ rfl hlen hls hst (lv_room hrest) hd hf) hc h kk
theorem r_callSXV (C : Cx p s m args meth c cc n own E) (hls : ls.size = n) (hG : Gd E s H locs g []) (ht : ∀ x ∈ c.exceptionTable.toList, False) {y : MethodName} {c' : ByteArray} {n' : Nat} {rt : Option FieldType} {k mc' ms' np idx : Nat} (As : List Value) (rest : List Value) {kz : Option XR} (hC : ∀ u, kz = some u → MXv E l y c' n' rt k mc' ms' As g u) (hm : MLS own idx y c' n' rt np) (h6 : Cond.methodLink own idx y ∈ TB) (hlen : As.length = np) (hR : (rmD k mc' ms').frames + 1 ≤ R.frames ∧ 8 + (n' + 11) + (rmD k mc' ms').locals ≤ R.locals) (hrest : (rest.map fun v => v.category).sum ≤ 8) (hf : cells + mc' ≤ R.cells ∧ slots + ms' ≤ R.slots) (hc : cells + mc' ≤ mc ∧ slots + ms' ≤ ms) (hst : st = As.reverse ++ rest) (hd : decode cc pc = .ok (.invokestatic idx, 3)) {fn : G → Option XR} (h : xb kz fn = some u)
    (kk : ∀ (H1 : Heap) (locs1 : List Loc) (g1 : G), Gd E s H1 locs1 g1 [] → fn g1 = some u → W p l e R s m args below meth c H1 locs1 (cells + mc') (slots + ms') (vx_MQ below Qc (XCx E s.heap.size u) args s mc ms (AA E s.heap.size)) (F0 m (pc + 3) ls rest)) : W p l e R s m args below meth c H locs cells slots (vx_MQ below Qc (XCx E s.heap.size u) args s mc ms (AA E s.heap.size)) (F0 m pc ls st) := by
  obtain ⟨w, hw, h⟩ := xb_inv h
  have hpre := pre_ok C hG As
  obtain ⟨hx, hb, hml, hown, hts, hK, hN, -⟩ := id C
  obtain ⟨h1, h2, h3, h5, -⟩ := hm
  exact afx_V C hG ht (vx_runS (Ts := TB) ⟨hx, hb, hml, hown, hts⟩ (hC w hw H.size) ⟨callB_of np hts (gwz h1) rfl rfl rfl (hts _ h2) (hts _ h6) h5 hR, hts _ h3⟩ ⟨PC_blind, hpre⟩ rfl hlen hls hst (lv_room hrest) hd hf) hc h kk
end THROWS
end
