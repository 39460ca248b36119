theorem dX5_init_0 : decode cX5_init 0 = .ok (.aload_n 0, 1) := by decide +kernel
theorem dX5_init_1 : decode cX5_init 1 = .ok (.invokespecial 3, 3) := by decide +kernel
theorem dX5_init_4 : decode cX5_init 4 = .ok (.aload_n 0, 1) := by decide +kernel
theorem dX5_init_5 : decode cX5_init 5 = .ok (.sipush 2000, 3) := by decide +kernel
theorem dX5_init_8 : decode cX5_init 8 = .ok (.newarray .byte, 2) := by decide +kernel
theorem dX5_init_10 : decode cX5_init 10 = .ok (.putfield 9, 3) := by decide +kernel
theorem dX5_init_13 : decode cX5_init 13 = .ok (.return_, 1) := by decide +kernel
theorem dX5_append_0 : decode cX5_append 0 = .ok (.bipush 24, 2) := by decide +kernel
theorem dX5_append_2 : decode cX5_append 2 = .ok (.istore_n 2, 1) := by decide +kernel
theorem dX5_append_3 : decode cX5_append 3 = .ok (.iload_n 2, 1) := by decide +kernel
theorem dX5_append_4 : decode cX5_append 4 = .ok (.ifCond .lt 42, 3) := by decide +kernel
theorem dX5_append_7 : decode cX5_append 7 = .ok (.aload_n 0, 1) := by decide +kernel
theorem dX5_append_8 : decode cX5_append 8 = .ok (.getfield 15, 3) := by decide +kernel
theorem dX5_append_11 : decode cX5_append 11 = .ok (.sipush 2000, 3) := by decide +kernel
theorem dX5_append_14 : decode cX5_append 14 = .ok (.if_icmp .ge 32, 3) := by decide +kernel
theorem dX5_append_17 : decode cX5_append 17 = .ok (.aload_n 0, 1) := by decide +kernel
theorem dX5_append_18 : decode cX5_append 18 = .ok (.getfield 9, 3) := by decide +kernel
theorem dX5_append_21 : decode cX5_append 21 = .ok (.aload_n 0, 1) := by decide +kernel
theorem dX5_append_22 : decode cX5_append 22 = .ok (.getfield 15, 3) := by decide +kernel
theorem dX5_append_25 : decode cX5_append 25 = .ok (.iload_n 1, 1) := by decide +kernel
theorem dX5_append_26 : decode cX5_append 26 = .ok (.iload_n 2, 1) := by decide +kernel
theorem dX5_append_27 : decode cX5_append 27 = .ok (.ishr, 1) := by decide +kernel
theorem dX5_append_28 : decode cX5_append 28 = .ok (.i2b, 1) := by decide +kernel
theorem dX5_append_29 : decode cX5_append 29 = .ok (.bastore, 1) := by decide +kernel
theorem dX5_append_30 : decode cX5_append 30 = .ok (.aload_n 0, 1) := by decide +kernel
theorem dX5_append_31 : decode cX5_append 31 = .ok (.dup, 1) := by decide +kernel
theorem dX5_append_32 : decode cX5_append 32 = .ok (.getfield 15, 3) := by decide +kernel
theorem dX5_append_35 : decode cX5_append 35 = .ok (.iconst 1, 1) := by decide +kernel
theorem dX5_append_36 : decode cX5_append 36 = .ok (.iadd, 1) := by decide +kernel
theorem dX5_append_37 : decode cX5_append 37 = .ok (.putfield 15, 3) := by decide +kernel
theorem dX5_append_40 : decode cX5_append 40 = .ok (.iinc 2 (-8), 3) := by decide +kernel
theorem dX5_append_43 : decode cX5_append 43 = .ok (.goto (-40), 3) := by decide +kernel
theorem dX5_append_46 : decode cX5_append 46 = .ok (.return_, 1) := by decide +kernel
theorem dX5_byteAt_0 : decode cX5_byteAt 0 = .ok (.iload_n 1, 1) := by decide +kernel
theorem dX5_byteAt_1 : decode cX5_byteAt 1 = .ok (.ifCond .lt 24, 3) := by decide +kernel
theorem dX5_byteAt_4 : decode cX5_byteAt 4 = .ok (.iload_n 1, 1) := by decide +kernel
theorem dX5_byteAt_5 : decode cX5_byteAt 5 = .ok (.aload_n 0, 1) := by decide +kernel
theorem dX5_byteAt_6 : decode cX5_byteAt 6 = .ok (.getfield 15, 3) := by decide +kernel
theorem dX5_byteAt_9 : decode cX5_byteAt 9 = .ok (.if_icmp .ge 16, 3) := by decide +kernel
theorem dX5_byteAt_12 : decode cX5_byteAt 12 = .ok (.aload_n 0, 1) := by decide +kernel
theorem dX5_byteAt_13 : decode cX5_byteAt 13 = .ok (.getfield 9, 3) := by decide +kernel
theorem dX5_byteAt_16 : decode cX5_byteAt 16 = .ok (.iload_n 1, 1) := by decide +kernel
theorem dX5_byteAt_17 : decode cX5_byteAt 17 = .ok (.baload, 1) := by decide +kernel
theorem dX5_byteAt_18 : decode cX5_byteAt 18 = .ok (.sipush 255, 3) := by decide +kernel
theorem dX5_byteAt_21 : decode cX5_byteAt 21 = .ok (.iand, 1) := by decide +kernel
theorem dX5_byteAt_22 : decode cX5_byteAt 22 = .ok (.goto 4, 3) := by decide +kernel
theorem dX5_byteAt_25 : decode cX5_byteAt 25 = .ok (.iconst (-1), 1) := by decide +kernel
theorem dX5_byteAt_26 : decode cX5_byteAt 26 = .ok (.ireturn, 1) := by decide +kernel
theorem dX5_skipBlanks_0 : decode cX5_skipBlanks 0 = .ok (.iload_n 1, 1) := by decide +kernel
theorem dX5_skipBlanks_1 : decode cX5_skipBlanks 1 = .ok (.istore_n 2, 1) := by decide +kernel
theorem dX5_skipBlanks_2 : decode cX5_skipBlanks 2 = .ok (.iload_n 2, 1) := by decide +kernel
theorem dX5_skipBlanks_3 : decode cX5_skipBlanks 3 = .ok (.aload_n 0, 1) := by decide +kernel
theorem dX5_skipBlanks_4 : decode cX5_skipBlanks 4 = .ok (.getfield 15, 3) := by decide +kernel
theorem dX5_skipBlanks_7 : decode cX5_skipBlanks 7 = .ok (.if_icmp .ge 20, 3) := by decide +kernel
theorem dX5_skipBlanks_10 : decode cX5_skipBlanks 10 = .ok (.aload_n 0, 1) := by decide +kernel
theorem dX5_skipBlanks_11 : decode cX5_skipBlanks 11 = .ok (.iload_n 2, 1) := by decide +kernel
theorem dX5_skipBlanks_12 : decode cX5_skipBlanks 12 = .ok (.invokevirtual 19, 3) := by decide +kernel
theorem dX5_skipBlanks_15 : decode cX5_skipBlanks 15 = .ok (.invokestatic 23, 3) := by decide +kernel
theorem dX5_skipBlanks_18 : decode cX5_skipBlanks 18 = .ok (.ifCond .eq 9, 3) := by decide +kernel
theorem dX5_skipBlanks_21 : decode cX5_skipBlanks 21 = .ok (.iinc 2 1, 3) := by decide +kernel
theorem dX5_skipBlanks_24 : decode cX5_skipBlanks 24 = .ok (.goto (-22), 3) := by decide +kernel
theorem dX5_skipBlanks_27 : decode cX5_skipBlanks 27 = .ok (.iload_n 2, 1) := by decide +kernel
theorem dX5_skipBlanks_28 : decode cX5_skipBlanks 28 = .ok (.ireturn, 1) := by decide +kernel
theorem dX5_skipDigits_0 : decode cX5_skipDigits 0 = .ok (.iload_n 1, 1) := by decide +kernel
theorem dX5_skipDigits_1 : decode cX5_skipDigits 1 = .ok (.istore_n 2, 1) := by decide +kernel
theorem dX5_skipDigits_2 : decode cX5_skipDigits 2 = .ok (.iload_n 2, 1) := by decide +kernel
theorem dX5_skipDigits_3 : decode cX5_skipDigits 3 = .ok (.aload_n 0, 1) := by decide +kernel
theorem dX5_skipDigits_4 : decode cX5_skipDigits 4 = .ok (.getfield 15, 3) := by decide +kernel
theorem dX5_skipDigits_7 : decode cX5_skipDigits 7 = .ok (.if_icmp .ge 20, 3) := by decide +kernel
theorem dX5_skipDigits_10 : decode cX5_skipDigits 10 = .ok (.aload_n 0, 1) := by decide +kernel
theorem dX5_skipDigits_11 : decode cX5_skipDigits 11 = .ok (.iload_n 2, 1) := by decide +kernel
theorem dX5_skipDigits_12 : decode cX5_skipDigits 12 = .ok (.invokevirtual 19, 3) := by decide +kernel
theorem dX5_skipDigits_15 : decode cX5_skipDigits 15 = .ok (.invokestatic 27, 3) := by decide +kernel
theorem dX5_skipDigits_18 : decode cX5_skipDigits 18 = .ok (.ifCond .eq 9, 3) := by decide +kernel
theorem dX5_skipDigits_21 : decode cX5_skipDigits 21 = .ok (.iinc 2 1, 3) := by decide +kernel
theorem dX5_skipDigits_24 : decode cX5_skipDigits 24 = .ok (.goto (-22), 3) := by decide +kernel
theorem dX5_skipDigits_27 : decode cX5_skipDigits 27 = .ok (.iload_n 2, 1) := by decide +kernel
theorem dX5_skipDigits_28 : decode cX5_skipDigits 28 = .ok (.ireturn, 1) := by decide +kernel
theorem dX5_skipLettersAndDigits_0 : decode cX5_skipLettersAndDigits 0 = .ok (.iload_n 1, 1) := by decide +kernel
theorem dX5_skipLettersAndDigits_1 : decode cX5_skipLettersAndDigits 1 = .ok (.istore_n 2, 1) := by decide +kernel
theorem dX5_skipLettersAndDigits_2 : decode cX5_skipLettersAndDigits 2 = .ok (.iload_n 2, 1) := by decide +kernel
theorem dX5_skipLettersAndDigits_3 : decode cX5_skipLettersAndDigits 3 = .ok (.aload_n 0, 1) := by decide +kernel
theorem dX5_skipLettersAndDigits_4 : decode cX5_skipLettersAndDigits 4 = .ok (.getfield 15, 3) := by decide +kernel
theorem dX5_skipLettersAndDigits_7 : decode cX5_skipLettersAndDigits 7 = .ok (.if_icmp .ge 31, 3) := by decide +kernel
theorem dX5_skipLettersAndDigits_10 : decode cX5_skipLettersAndDigits 10 = .ok (.aload_n 0, 1) := by decide +kernel
theorem dX5_skipLettersAndDigits_11 : decode cX5_skipLettersAndDigits 11 = .ok (.iload_n 2, 1) := by decide +kernel
theorem dX5_skipLettersAndDigits_12 : decode cX5_skipLettersAndDigits 12 = .ok (.invokevirtual 19, 3) := by decide +kernel
theorem dX5_skipLettersAndDigits_15 : decode cX5_skipLettersAndDigits 15 = .ok (.invokestatic 30, 3) := by decide +kernel
theorem dX5_skipLettersAndDigits_18 : decode cX5_skipLettersAndDigits 18 = .ok (.ifCond .ne 14, 3) := by decide +kernel
theorem dX5_skipLettersAndDigits_21 : decode cX5_skipLettersAndDigits 21 = .ok (.aload_n 0, 1) := by decide +kernel
theorem dX5_skipLettersAndDigits_22 : decode cX5_skipLettersAndDigits 22 = .ok (.iload_n 2, 1) := by decide +kernel
theorem dX5_skipLettersAndDigits_23 : decode cX5_skipLettersAndDigits 23 = .ok (.invokevirtual 19, 3) := by decide +kernel
theorem dX5_skipLettersAndDigits_26 : decode cX5_skipLettersAndDigits 26 = .ok (.invokestatic 27, 3) := by decide +kernel
theorem dX5_skipLettersAndDigits_29 : decode cX5_skipLettersAndDigits 29 = .ok (.ifCond .eq 9, 3) := by decide +kernel
theorem dX5_skipLettersAndDigits_32 : decode cX5_skipLettersAndDigits 32 = .ok (.iinc 2 1, 3) := by decide +kernel
theorem dX5_skipLettersAndDigits_35 : decode cX5_skipLettersAndDigits 35 = .ok (.goto (-33), 3) := by decide +kernel
theorem dX5_skipLettersAndDigits_38 : decode cX5_skipLettersAndDigits 38 = .ok (.iload_n 2, 1) := by decide +kernel
theorem dX5_skipLettersAndDigits_39 : decode cX5_skipLettersAndDigits 39 = .ok (.ireturn, 1) := by decide +kernel
theorem dX5_holdsText_0 : decode cX5_holdsText 0 = .ok (.aload_n 1, 1) := by decide +kernel
theorem dX5_holdsText_1 : decode cX5_holdsText 1 = .ok (.invokevirtual 33, 3) := by decide +kernel
theorem dX5_holdsText_4 : decode cX5_holdsText 4 = .ok (.iload_n 3, 1) := by decide +kernel
theorem dX5_holdsText_5 : decode cX5_holdsText 5 = .ok (.if_icmp .eq 5, 3) := by decide +kernel
theorem dX5_holdsText_8 : decode cX5_holdsText 8 = .ok (.iconst 0, 1) := by decide +kernel
theorem dX5_holdsText_9 : decode cX5_holdsText 9 = .ok (.ireturn, 1) := by decide +kernel
theorem dX5_holdsText_10 : decode cX5_holdsText 10 = .ok (.iconst 0, 1) := by decide +kernel
theorem dX5_holdsText_11 : decode cX5_holdsText 11 = .ok (.istore 4, 2) := by decide +kernel
theorem dX5_holdsText_13 : decode cX5_holdsText 13 = .ok (.iload 4, 2) := by decide +kernel
theorem dX5_holdsText_15 : decode cX5_holdsText 15 = .ok (.iload_n 3, 1) := by decide +kernel
theorem dX5_holdsText_16 : decode cX5_holdsText 16 = .ok (.if_icmp .ge 28, 3) := by decide +kernel
theorem dX5_holdsText_19 : decode cX5_holdsText 19 = .ok (.aload_n 0, 1) := by decide +kernel
theorem dX5_holdsText_20 : decode cX5_holdsText 20 = .ok (.iload_n 2, 1) := by decide +kernel
theorem dX5_holdsText_21 : decode cX5_holdsText 21 = .ok (.iload 4, 2) := by decide +kernel
theorem dX5_holdsText_23 : decode cX5_holdsText 23 = .ok (.iadd, 1) := by decide +kernel
theorem dX5_holdsText_24 : decode cX5_holdsText 24 = .ok (.invokevirtual 19, 3) := by decide +kernel
theorem dX5_holdsText_27 : decode cX5_holdsText 27 = .ok (.aload_n 1, 1) := by decide +kernel
theorem dX5_holdsText_28 : decode cX5_holdsText 28 = .ok (.iload 4, 2) := by decide +kernel
theorem dX5_holdsText_30 : decode cX5_holdsText 30 = .ok (.invokevirtual 38, 3) := by decide +kernel
theorem dX5_holdsText_33 : decode cX5_holdsText 33 = .ok (.if_icmp .eq 5, 3) := by decide +kernel
theorem dX5_holdsText_36 : decode cX5_holdsText 36 = .ok (.iconst 0, 1) := by decide +kernel
theorem dX5_holdsText_37 : decode cX5_holdsText 37 = .ok (.ireturn, 1) := by decide +kernel
theorem dX5_holdsText_38 : decode cX5_holdsText 38 = .ok (.iinc 4 1, 3) := by decide +kernel
theorem dX5_holdsText_41 : decode cX5_holdsText 41 = .ok (.goto (-28), 3) := by decide +kernel
theorem dX5_holdsText_44 : decode cX5_holdsText 44 = .ok (.iconst 1, 1) := by decide +kernel
theorem dX5_holdsText_45 : decode cX5_holdsText 45 = .ok (.ireturn, 1) := by decide +kernel
theorem dX5_holdsSame_0 : decode cX5_holdsSame 0 = .ok (.iload_n 1, 1) := by decide +kernel
theorem dX5_holdsSame_1 : decode cX5_holdsSame 1 = .ok (.ifCond .lt 27, 3) := by decide +kernel
theorem dX5_holdsSame_4 : decode cX5_holdsSame 4 = .ok (.iload_n 1, 1) := by decide +kernel
theorem dX5_holdsSame_5 : decode cX5_holdsSame 5 = .ok (.aload_n 0, 1) := by decide +kernel
theorem dX5_holdsSame_6 : decode cX5_holdsSame 6 = .ok (.getfield 15, 3) := by decide +kernel
theorem dX5_holdsSame_9 : decode cX5_holdsSame 9 = .ok (.iload_n 3, 1) := by decide +kernel
theorem dX5_holdsSame_10 : decode cX5_holdsSame 10 = .ok (.isub, 1) := by decide +kernel
theorem dX5_holdsSame_11 : decode cX5_holdsSame 11 = .ok (.if_icmp .gt 17, 3) := by decide +kernel
theorem dX5_holdsSame_14 : decode cX5_holdsSame 14 = .ok (.iload_n 2, 1) := by decide +kernel
theorem dX5_holdsSame_15 : decode cX5_holdsSame 15 = .ok (.ifCond .lt 13, 3) := by decide +kernel
theorem dX5_holdsSame_18 : decode cX5_holdsSame 18 = .ok (.iload_n 2, 1) := by decide +kernel
theorem dX5_holdsSame_19 : decode cX5_holdsSame 19 = .ok (.aload_n 0, 1) := by decide +kernel
theorem dX5_holdsSame_20 : decode cX5_holdsSame 20 = .ok (.getfield 15, 3) := by decide +kernel
theorem dX5_holdsSame_23 : decode cX5_holdsSame 23 = .ok (.iload_n 3, 1) := by decide +kernel
theorem dX5_holdsSame_24 : decode cX5_holdsSame 24 = .ok (.isub, 1) := by decide +kernel
theorem dX5_holdsSame_25 : decode cX5_holdsSame 25 = .ok (.if_icmp .le 5, 3) := by decide +kernel
theorem dX5_holdsSame_28 : decode cX5_holdsSame 28 = .ok (.iconst 0, 1) := by decide +kernel
theorem dX5_holdsSame_29 : decode cX5_holdsSame 29 = .ok (.ireturn, 1) := by decide +kernel
theorem dX5_holdsSame_30 : decode cX5_holdsSame 30 = .ok (.iconst 0, 1) := by decide +kernel
theorem dX5_holdsSame_31 : decode cX5_holdsSame 31 = .ok (.istore 4, 2) := by decide +kernel
theorem dX5_holdsSame_33 : decode cX5_holdsSame 33 = .ok (.iload 4, 2) := by decide +kernel
theorem dX5_holdsSame_35 : decode cX5_holdsSame 35 = .ok (.iload_n 3, 1) := by decide +kernel
theorem dX5_holdsSame_36 : decode cX5_holdsSame 36 = .ok (.if_icmp .ge 32, 3) := by decide +kernel
theorem dX5_holdsSame_39 : decode cX5_holdsSame 39 = .ok (.aload_n 0, 1) := by decide +kernel
theorem dX5_holdsSame_40 : decode cX5_holdsSame 40 = .ok (.getfield 9, 3) := by decide +kernel
theorem dX5_holdsSame_43 : decode cX5_holdsSame 43 = .ok (.iload_n 1, 1) := by decide +kernel
theorem dX5_holdsSame_44 : decode cX5_holdsSame 44 = .ok (.iload 4, 2) := by decide +kernel
theorem dX5_holdsSame_46 : decode cX5_holdsSame 46 = .ok (.iadd, 1) := by decide +kernel
theorem dX5_holdsSame_47 : decode cX5_holdsSame 47 = .ok (.baload, 1) := by decide +kernel
theorem dX5_holdsSame_48 : decode cX5_holdsSame 48 = .ok (.aload_n 0, 1) := by decide +kernel
theorem dX5_holdsSame_49 : decode cX5_holdsSame 49 = .ok (.getfield 9, 3) := by decide +kernel
theorem dX5_holdsSame_52 : decode cX5_holdsSame 52 = .ok (.iload_n 2, 1) := by decide +kernel
theorem dX5_holdsSame_53 : decode cX5_holdsSame 53 = .ok (.iload 4, 2) := by decide +kernel
theorem dX5_holdsSame_55 : decode cX5_holdsSame 55 = .ok (.iadd, 1) := by decide +kernel
theorem dX5_holdsSame_56 : decode cX5_holdsSame 56 = .ok (.baload, 1) := by decide +kernel
theorem dX5_holdsSame_57 : decode cX5_holdsSame 57 = .ok (.if_icmp .eq 5, 3) := by decide +kernel
theorem dX5_holdsSame_60 : decode cX5_holdsSame 60 = .ok (.iconst 0, 1) := by decide +kernel
theorem dX5_holdsSame_61 : decode cX5_holdsSame 61 = .ok (.ireturn, 1) := by decide +kernel
theorem dX5_holdsSame_62 : decode cX5_holdsSame 62 = .ok (.iinc 4 1, 3) := by decide +kernel
theorem dX5_holdsSame_65 : decode cX5_holdsSame 65 = .ok (.goto (-32), 3) := by decide +kernel
theorem dX5_holdsSame_68 : decode cX5_holdsSame 68 = .ok (.iconst 1, 1) := by decide +kernel
theorem dX5_holdsSame_69 : decode cX5_holdsSame 69 = .ok (.ireturn, 1) := by decide +kernel
theorem dX5_isBlank_0 : decode cX5_isBlank 0 = .ok (.iload_n 0, 1) := by decide +kernel
theorem dX5_isBlank_1 : decode cX5_isBlank 1 = .ok (.bipush 32, 2) := by decide +kernel
theorem dX5_isBlank_3 : decode cX5_isBlank 3 = .ok (.if_icmp .eq 9, 3) := by decide +kernel
theorem dX5_isBlank_6 : decode cX5_isBlank 6 = .ok (.iload_n 0, 1) := by decide +kernel
theorem dX5_isBlank_7 : decode cX5_isBlank 7 = .ok (.bipush 10, 2) := by decide +kernel
theorem dX5_isBlank_9 : decode cX5_isBlank 9 = .ok (.if_icmp .ne 7, 3) := by decide +kernel
theorem dX5_isBlank_12 : decode cX5_isBlank 12 = .ok (.iconst 1, 1) := by decide +kernel
theorem dX5_isBlank_13 : decode cX5_isBlank 13 = .ok (.goto 4, 3) := by decide +kernel
theorem dX5_isBlank_16 : decode cX5_isBlank 16 = .ok (.iconst 0, 1) := by decide +kernel
theorem dX5_isBlank_17 : decode cX5_isBlank 17 = .ok (.ireturn, 1) := by decide +kernel
theorem dX5_isLetter_0 : decode cX5_isLetter 0 = .ok (.iload_n 0, 1) := by decide +kernel
theorem dX5_isLetter_1 : decode cX5_isLetter 1 = .ok (.bipush 97, 2) := by decide +kernel
theorem dX5_isLetter_3 : decode cX5_isLetter 3 = .ok (.if_icmp .lt 13, 3) := by decide +kernel
theorem dX5_isLetter_6 : decode cX5_isLetter 6 = .ok (.iload_n 0, 1) := by decide +kernel
theorem dX5_isLetter_7 : decode cX5_isLetter 7 = .ok (.bipush 122, 2) := by decide +kernel
theorem dX5_isLetter_9 : decode cX5_isLetter 9 = .ok (.if_icmp .gt 7, 3) := by decide +kernel
theorem dX5_isLetter_12 : decode cX5_isLetter 12 = .ok (.iconst 1, 1) := by decide +kernel
theorem dX5_isLetter_13 : decode cX5_isLetter 13 = .ok (.goto 4, 3) := by decide +kernel
theorem dX5_isLetter_16 : decode cX5_isLetter 16 = .ok (.iconst 0, 1) := by decide +kernel
theorem dX5_isLetter_17 : decode cX5_isLetter 17 = .ok (.ireturn, 1) := by decide +kernel
theorem dX5_isDigit_0 : decode cX5_isDigit 0 = .ok (.iload_n 0, 1) := by decide +kernel
theorem dX5_isDigit_1 : decode cX5_isDigit 1 = .ok (.bipush 48, 2) := by decide +kernel
theorem dX5_isDigit_3 : decode cX5_isDigit 3 = .ok (.if_icmp .lt 13, 3) := by decide +kernel
theorem dX5_isDigit_6 : decode cX5_isDigit 6 = .ok (.iload_n 0, 1) := by decide +kernel
theorem dX5_isDigit_7 : decode cX5_isDigit 7 = .ok (.bipush 57, 2) := by decide +kernel
theorem dX5_isDigit_9 : decode cX5_isDigit 9 = .ok (.if_icmp .gt 7, 3) := by decide +kernel
theorem dX5_isDigit_12 : decode cX5_isDigit 12 = .ok (.iconst 1, 1) := by decide +kernel
theorem dX5_isDigit_13 : decode cX5_isDigit 13 = .ok (.goto 4, 3) := by decide +kernel
theorem dX5_isDigit_16 : decode cX5_isDigit 16 = .ok (.iconst 0, 1) := by decide +kernel
theorem dX5_isDigit_17 : decode cX5_isDigit 17 = .ok (.ireturn, 1) := by decide +kernel
theorem dX6_init_0 : decode cX6_init 0 = .ok (.aload_n 0, 1) := by decide +kernel
theorem dX6_init_1 : decode cX6_init 1 = .ok (.invokespecial 3, 3) := by decide +kernel
theorem dX6_init_4 : decode cX6_init 4 = .ok (.aload_n 0, 1) := by decide +kernel
theorem dX6_init_5 : decode cX6_init 5 = .ok (.sipush 401, 3) := by decide +kernel
theorem dX6_init_8 : decode cX6_init 8 = .ok (.newarray .int, 2) := by decide +kernel
theorem dX6_init_10 : decode cX6_init 10 = .ok (.putfield 9, 3) := by decide +kernel
theorem dX6_init_13 : decode cX6_init 13 = .ok (.aload_n 0, 1) := by decide +kernel
theorem dX6_init_14 : decode cX6_init 14 = .ok (.sipush 401, 3) := by decide +kernel
theorem dX6_init_17 : decode cX6_init 17 = .ok (.newarray .int, 2) := by decide +kernel
theorem dX6_init_19 : decode cX6_init 19 = .ok (.putfield 15, 3) := by decide +kernel
theorem dX6_init_22 : decode cX6_init 22 = .ok (.aload_n 0, 1) := by decide +kernel
theorem dX6_init_23 : decode cX6_init 23 = .ok (.sipush 401, 3) := by decide +kernel
theorem dX6_init_26 : decode cX6_init 26 = .ok (.newarray .int, 2) := by decide +kernel
theorem dX6_init_28 : decode cX6_init 28 = .ok (.putfield 18, 3) := by decide +kernel
theorem dX6_init_31 : decode cX6_init 31 = .ok (.aload_n 0, 1) := by decide +kernel
theorem dX6_init_32 : decode cX6_init 32 = .ok (.sipush 401, 3) := by decide +kernel
theorem dX6_init_35 : decode cX6_init 35 = .ok (.newarray .int, 2) := by decide +kernel
theorem dX6_init_37 : decode cX6_init 37 = .ok (.putfield 21, 3) := by decide +kernel
theorem dX6_init_40 : decode cX6_init 40 = .ok (.aload_n 0, 1) := by decide +kernel
theorem dX6_init_41 : decode cX6_init 41 = .ok (.aload_n 1, 1) := by decide +kernel
theorem dX6_init_42 : decode cX6_init 42 = .ok (.putfield 24, 3) := by decide +kernel
theorem dX6_init_45 : decode cX6_init 45 = .ok (.return_, 1) := by decide +kernel
theorem dX6_kindAt_0 : decode cX6_kindAt 0 = .ok (.iload_n 1, 1) := by decide +kernel
theorem dX6_kindAt_1 : decode cX6_kindAt 1 = .ok (.ifCond .lt 20, 3) := by decide +kernel
theorem dX6_kindAt_4 : decode cX6_kindAt 4 = .ok (.iload_n 1, 1) := by decide +kernel
theorem dX6_kindAt_5 : decode cX6_kindAt 5 = .ok (.aload_n 0, 1) := by decide +kernel
theorem dX6_kindAt_6 : decode cX6_kindAt 6 = .ok (.getfield 28, 3) := by decide +kernel
theorem dX6_kindAt_9 : decode cX6_kindAt 9 = .ok (.if_icmp .ge 12, 3) := by decide +kernel
theorem dX6_kindAt_12 : decode cX6_kindAt 12 = .ok (.aload_n 0, 1) := by decide +kernel
theorem dX6_kindAt_13 : decode cX6_kindAt 13 = .ok (.getfield 9, 3) := by decide +kernel
theorem dX6_kindAt_16 : decode cX6_kindAt 16 = .ok (.iload_n 1, 1) := by decide +kernel
theorem dX6_kindAt_17 : decode cX6_kindAt 17 = .ok (.iaload, 1) := by decide +kernel
theorem dX6_kindAt_18 : decode cX6_kindAt 18 = .ok (.goto 4, 3) := by decide +kernel
theorem dX6_kindAt_21 : decode cX6_kindAt 21 = .ok (.iconst 0, 1) := by decide +kernel
theorem dX6_kindAt_22 : decode cX6_kindAt 22 = .ok (.ireturn, 1) := by decide +kernel
theorem dX6_valueAt_0 : decode cX6_valueAt 0 = .ok (.iload_n 1, 1) := by decide +kernel
theorem dX6_valueAt_1 : decode cX6_valueAt 1 = .ok (.ifCond .lt 20, 3) := by decide +kernel
theorem dX6_valueAt_4 : decode cX6_valueAt 4 = .ok (.iload_n 1, 1) := by decide +kernel
theorem dX6_valueAt_5 : decode cX6_valueAt 5 = .ok (.aload_n 0, 1) := by decide +kernel
theorem dX6_valueAt_6 : decode cX6_valueAt 6 = .ok (.getfield 28, 3) := by decide +kernel
theorem dX6_valueAt_9 : decode cX6_valueAt 9 = .ok (.if_icmp .ge 12, 3) := by decide +kernel
theorem dX6_valueAt_12 : decode cX6_valueAt 12 = .ok (.aload_n 0, 1) := by decide +kernel
theorem dX6_valueAt_13 : decode cX6_valueAt 13 = .ok (.getfield 21, 3) := by decide +kernel
theorem dX6_valueAt_16 : decode cX6_valueAt 16 = .ok (.iload_n 1, 1) := by decide +kernel
theorem dX6_valueAt_17 : decode cX6_valueAt 17 = .ok (.iaload, 1) := by decide +kernel
theorem dX6_valueAt_18 : decode cX6_valueAt 18 = .ok (.goto 4, 3) := by decide +kernel
theorem dX6_valueAt_21 : decode cX6_valueAt 21 = .ok (.iconst 0, 1) := by decide +kernel
theorem dX6_valueAt_22 : decode cX6_valueAt 22 = .ok (.ireturn, 1) := by decide +kernel
theorem dX6_setValue_0 : decode cX6_setValue 0 = .ok (.iload_n 1, 1) := by decide +kernel
theorem dX6_setValue_1 : decode cX6_setValue 1 = .ok (.ifCond .lt 18, 3) := by decide +kernel
theorem dX6_setValue_4 : decode cX6_setValue 4 = .ok (.iload_n 1, 1) := by decide +kernel
theorem dX6_setValue_5 : decode cX6_setValue 5 = .ok (.aload_n 0, 1) := by decide +kernel
theorem dX6_setValue_6 : decode cX6_setValue 6 = .ok (.getfield 28, 3) := by decide +kernel
theorem dX6_setValue_9 : decode cX6_setValue 9 = .ok (.if_icmp .ge 10, 3) := by decide +kernel
theorem dX6_setValue_12 : decode cX6_setValue 12 = .ok (.aload_n 0, 1) := by decide +kernel
theorem dX6_setValue_13 : decode cX6_setValue 13 = .ok (.getfield 21, 3) := by decide +kernel
theorem dX6_setValue_16 : decode cX6_setValue 16 = .ok (.iload_n 1, 1) := by decide +kernel
theorem dX6_setValue_17 : decode cX6_setValue 17 = .ok (.iload_n 2, 1) := by decide +kernel
theorem dX6_setValue_18 : decode cX6_setValue 18 = .ok (.iastore, 1) := by decide +kernel
theorem dX6_setValue_19 : decode cX6_setValue 19 = .ok (.return_, 1) := by decide +kernel
theorem dX6_positionOf_0 : decode cX6_positionOf 0 = .ok (.iload_n 1, 1) := by decide +kernel
theorem dX6_positionOf_1 : decode cX6_positionOf 1 = .ok (.ifCond .lt 20, 3) := by decide +kernel
theorem dX6_positionOf_4 : decode cX6_positionOf 4 = .ok (.iload_n 1, 1) := by decide +kernel
theorem dX6_positionOf_5 : decode cX6_positionOf 5 = .ok (.aload_n 0, 1) := by decide +kernel
theorem dX6_positionOf_6 : decode cX6_positionOf 6 = .ok (.getfield 28, 3) := by decide +kernel
theorem dX6_positionOf_9 : decode cX6_positionOf 9 = .ok (.if_icmp .ge 12, 3) := by decide +kernel
theorem dX6_positionOf_12 : decode cX6_positionOf 12 = .ok (.aload_n 0, 1) := by decide +kernel
theorem dX6_positionOf_13 : decode cX6_positionOf 13 = .ok (.getfield 15, 3) := by decide +kernel
theorem dX6_positionOf_16 : decode cX6_positionOf 16 = .ok (.iload_n 1, 1) := by decide +kernel
theorem dX6_positionOf_17 : decode cX6_positionOf 17 = .ok (.iaload, 1) := by decide +kernel
theorem dX6_positionOf_18 : decode cX6_positionOf 18 = .ok (.goto 10, 3) := by decide +kernel
theorem dX6_positionOf_21 : decode cX6_positionOf 21 = .ok (.aload_n 0, 1) := by decide +kernel
theorem dX6_positionOf_22 : decode cX6_positionOf 22 = .ok (.getfield 24, 3) := by decide +kernel
theorem dX6_positionOf_25 : decode cX6_positionOf 25 = .ok (.getfield 32, 3) := by decide +kernel
theorem dX6_positionOf_28 : decode cX6_positionOf 28 = .ok (.ireturn, 1) := by decide +kernel
theorem dX6_areSameNames_0 : decode cX6_areSameNames 0 = .ok (.iload_n 1, 1) := by decide +kernel
theorem dX6_areSameNames_1 : decode cX6_areSameNames 1 = .ok (.ifCond .lt 23, 3) := by decide +kernel
theorem dX6_areSameNames_4 : decode cX6_areSameNames 4 = .ok (.iload_n 1, 1) := by decide +kernel
theorem dX6_areSameNames_5 : decode cX6_areSameNames 5 = .ok (.aload_n 0, 1) := by decide +kernel
theorem dX6_areSameNames_6 : decode cX6_areSameNames 6 = .ok (.getfield 28, 3) := by decide +kernel
theorem dX6_areSameNames_9 : decode cX6_areSameNames 9 = .ok (.if_icmp .ge 15, 3) := by decide +kernel
theorem dX6_areSameNames_12 : decode cX6_areSameNames 12 = .ok (.iload_n 2, 1) := by decide +kernel
theorem dX6_areSameNames_13 : decode cX6_areSameNames 13 = .ok (.ifCond .lt 11, 3) := by decide +kernel
theorem dX6_areSameNames_16 : decode cX6_areSameNames 16 = .ok (.iload_n 2, 1) := by decide +kernel
theorem dX6_areSameNames_17 : decode cX6_areSameNames 17 = .ok (.aload_n 0, 1) := by decide +kernel
theorem dX6_areSameNames_18 : decode cX6_areSameNames 18 = .ok (.getfield 28, 3) := by decide +kernel
theorem dX6_areSameNames_21 : decode cX6_areSameNames 21 = .ok (.if_icmp .lt 5, 3) := by decide +kernel
theorem dX6_areSameNames_24 : decode cX6_areSameNames 24 = .ok (.iconst 0, 1) := by decide +kernel
theorem dX6_areSameNames_25 : decode cX6_areSameNames 25 = .ok (.ireturn, 1) := by decide +kernel
theorem dX6_areSameNames_26 : decode cX6_areSameNames 26 = .ok (.aload_n 0, 1) := by decide +kernel
theorem dX6_areSameNames_27 : decode cX6_areSameNames 27 = .ok (.getfield 18, 3) := by decide +kernel
theorem dX6_areSameNames_30 : decode cX6_areSameNames 30 = .ok (.iload_n 1, 1) := by decide +kernel
theorem dX6_areSameNames_31 : decode cX6_areSameNames 31 = .ok (.iaload, 1) := by decide +kernel
theorem dX6_areSameNames_32 : decode cX6_areSameNames 32 = .ok (.aload_n 0, 1) := by decide +kernel
theorem dX6_areSameNames_33 : decode cX6_areSameNames 33 = .ok (.getfield 18, 3) := by decide +kernel
theorem dX6_areSameNames_36 : decode cX6_areSameNames 36 = .ok (.iload_n 2, 1) := by decide +kernel
theorem dX6_areSameNames_37 : decode cX6_areSameNames 37 = .ok (.iaload, 1) := by decide +kernel
theorem dX6_areSameNames_38 : decode cX6_areSameNames 38 = .ok (.if_icmp .ne 35, 3) := by decide +kernel
theorem dX6_areSameNames_41 : decode cX6_areSameNames 41 = .ok (.aload_n 0, 1) := by decide +kernel
theorem dX6_areSameNames_42 : decode cX6_areSameNames 42 = .ok (.getfield 24, 3) := by decide +kernel
theorem dX6_areSameNames_45 : decode cX6_areSameNames 45 = .ok (.aload_n 0, 1) := by decide +kernel
theorem dX6_areSameNames_46 : decode cX6_areSameNames 46 = .ok (.getfield 15, 3) := by decide +kernel
theorem dX6_areSameNames_49 : decode cX6_areSameNames 49 = .ok (.iload_n 1, 1) := by decide +kernel
theorem dX6_areSameNames_50 : decode cX6_areSameNames 50 = .ok (.iaload, 1) := by decide +kernel
theorem dX6_areSameNames_51 : decode cX6_areSameNames 51 = .ok (.aload_n 0, 1) := by decide +kernel
theorem dX6_areSameNames_52 : decode cX6_areSameNames 52 = .ok (.getfield 15, 3) := by decide +kernel
theorem dX6_areSameNames_55 : decode cX6_areSameNames 55 = .ok (.iload_n 2, 1) := by decide +kernel
theorem dX6_areSameNames_56 : decode cX6_areSameNames 56 = .ok (.iaload, 1) := by decide +kernel
theorem dX6_areSameNames_57 : decode cX6_areSameNames 57 = .ok (.aload_n 0, 1) := by decide +kernel
theorem dX6_areSameNames_58 : decode cX6_areSameNames 58 = .ok (.getfield 18, 3) := by decide +kernel
theorem dX6_areSameNames_61 : decode cX6_areSameNames 61 = .ok (.iload_n 1, 1) := by decide +kernel
theorem dX6_areSameNames_62 : decode cX6_areSameNames 62 = .ok (.iaload, 1) := by decide +kernel
theorem dX6_areSameNames_63 : decode cX6_areSameNames 63 = .ok (.invokevirtual 37, 3) := by decide +kernel
theorem dX6_areSameNames_66 : decode cX6_areSameNames 66 = .ok (.ifCond .eq 7, 3) := by decide +kernel
theorem dX6_areSameNames_69 : decode cX6_areSameNames 69 = .ok (.iconst 1, 1) := by decide +kernel
theorem dX6_areSameNames_70 : decode cX6_areSameNames 70 = .ok (.goto 4, 3) := by decide +kernel
theorem dX6_areSameNames_73 : decode cX6_areSameNames 73 = .ok (.iconst 0, 1) := by decide +kernel
theorem dX6_areSameNames_74 : decode cX6_areSameNames 74 = .ok (.ireturn, 1) := by decide +kernel
theorem dX6_readTape_0 : decode cX6_readTape 0 = .ok (.aload_n 0, 1) := by decide +kernel
theorem dX6_readTape_1 : decode cX6_readTape 1 = .ok (.iconst 0, 1) := by decide +kernel
theorem dX6_readTape_2 : decode cX6_readTape 2 = .ok (.putfield 28, 3) := by decide +kernel
theorem dX6_readTape_5 : decode cX6_readTape 5 = .ok (.aload_n 0, 1) := by decide +kernel
theorem dX6_readTape_6 : decode cX6_readTape 6 = .ok (.getfield 24, 3) := by decide +kernel
theorem dX6_readTape_9 : decode cX6_readTape 9 = .ok (.iconst 0, 1) := by decide +kernel
theorem dX6_readTape_10 : decode cX6_readTape 10 = .ok (.invokevirtual 41, 3) := by decide +kernel
theorem dX6_readTape_13 : decode cX6_readTape 13 = .ok (.istore_n 1, 1) := by decide +kernel
theorem dX6_readTape_14 : decode cX6_readTape 14 = .ok (.iconst 0, 1) := by decide +kernel
theorem dX6_readTape_15 : decode cX6_readTape 15 = .ok (.istore_n 2, 1) := by decide +kernel
theorem dX6_readTape_16 : decode cX6_readTape 16 = .ok (.iload_n 2, 1) := by decide +kernel
theorem dX6_readTape_17 : decode cX6_readTape 17 = .ok (.sipush 400, 3) := by decide +kernel
theorem dX6_readTape_20 : decode cX6_readTape 20 = .ok (.if_icmp .ge 48, 3) := by decide +kernel
theorem dX6_readTape_23 : decode cX6_readTape 23 = .ok (.iload_n 1, 1) := by decide +kernel
theorem dX6_readTape_24 : decode cX6_readTape 24 = .ok (.aload_n 0, 1) := by decide +kernel
theorem dX6_readTape_25 : decode cX6_readTape 25 = .ok (.getfield 24, 3) := by decide +kernel
theorem dX6_readTape_28 : decode cX6_readTape 28 = .ok (.getfield 32, 3) := by decide +kernel
theorem dX6_readTape_31 : decode cX6_readTape 31 = .ok (.if_icmp .ge 37, 3) := by decide +kernel
theorem dX6_readTape_34 : decode cX6_readTape 34 = .ok (.aload_n 0, 1) := by decide +kernel
theorem dX6_readTape_35 : decode cX6_readTape 35 = .ok (.iload_n 1, 1) := by decide +kernel
theorem dX6_readTape_36 : decode cX6_readTape 36 = .ok (.invokevirtual 45, 3) := by decide +kernel
theorem dX6_readTape_39 : decode cX6_readTape 39 = .ok (.istore_n 3, 1) := by decide +kernel
theorem dX6_readTape_40 : decode cX6_readTape 40 = .ok (.iload_n 3, 1) := by decide +kernel
theorem dX6_readTape_41 : decode cX6_readTape 41 = .ok (.iload_n 1, 1) := by decide +kernel
theorem dX6_readTape_42 : decode cX6_readTape 42 = .ok (.if_icmp .gt 11, 3) := by decide +kernel
theorem dX6_readTape_45 : decode cX6_readTape 45 = .ok (.aload_n 0, 1) := by decide +kernel
theorem dX6_readTape_46 : decode cX6_readTape 46 = .ok (.iconst 1, 1) := by decide +kernel
theorem dX6_readTape_47 : decode cX6_readTape 47 = .ok (.iload_n 1, 1) := by decide +kernel
theorem dX6_readTape_48 : decode cX6_readTape 48 = .ok (.iload_n 1, 1) := by decide +kernel
theorem dX6_readTape_49 : decode cX6_readTape 49 = .ok (.invokevirtual 48, 3) := by decide +kernel
theorem dX6_readTape_52 : decode cX6_readTape 52 = .ok (.return_, 1) := by decide +kernel
theorem dX6_readTape_53 : decode cX6_readTape 53 = .ok (.aload_n 0, 1) := by decide +kernel
theorem dX6_readTape_54 : decode cX6_readTape 54 = .ok (.getfield 24, 3) := by decide +kernel
theorem dX6_readTape_57 : decode cX6_readTape 57 = .ok (.iload_n 3, 1) := by decide +kernel
theorem dX6_readTape_58 : decode cX6_readTape 58 = .ok (.invokevirtual 41, 3) := by decide +kernel
theorem dX6_readTape_61 : decode cX6_readTape 61 = .ok (.istore_n 1, 1) := by decide +kernel
theorem dX6_readTape_62 : decode cX6_readTape 62 = .ok (.iinc 2 1, 3) := by decide +kernel
theorem dX6_readTape_65 : decode cX6_readTape 65 = .ok (.goto (-49), 3) := by decide +kernel
theorem dX6_readTape_68 : decode cX6_readTape 68 = .ok (.aload_n 0, 1) := by decide +kernel
theorem dX6_readTape_69 : decode cX6_readTape 69 = .ok (.iload_n 1, 1) := by decide +kernel
theorem dX6_readTape_70 : decode cX6_readTape 70 = .ok (.aload_n 0, 1) := by decide +kernel
theorem dX6_readTape_71 : decode cX6_readTape 71 = .ok (.getfield 24, 3) := by decide +kernel
theorem dX6_readTape_74 : decode cX6_readTape 74 = .ok (.getfield 32, 3) := by decide +kernel
theorem dX6_readTape_77 : decode cX6_readTape 77 = .ok (.if_icmp .ge 7, 3) := by decide +kernel
theorem dX6_readTape_80 : decode cX6_readTape 80 = .ok (.iconst 1, 1) := by decide +kernel
theorem dX6_readTape_81 : decode cX6_readTape 81 = .ok (.goto 4, 3) := by decide +kernel
theorem dX6_readTape_84 : decode cX6_readTape 84 = .ok (.iconst 0, 1) := by decide +kernel
theorem dX6_readTape_85 : decode cX6_readTape 85 = .ok (.iload_n 1, 1) := by decide +kernel
theorem dX6_readTape_86 : decode cX6_readTape 86 = .ok (.iload_n 1, 1) := by decide +kernel
theorem dX6_readTape_87 : decode cX6_readTape 87 = .ok (.invokevirtual 48, 3) := by decide +kernel
theorem dX6_readTape_90 : decode cX6_readTape 90 = .ok (.return_, 1) := by decide +kernel
theorem dX6_readToken_0 : decode cX6_readToken 0 = .ok (.aload_n 0, 1) := by decide +kernel
theorem dX6_readToken_1 : decode cX6_readToken 1 = .ok (.getfield 24, 3) := by decide +kernel
theorem dX6_readToken_4 : decode cX6_readToken 4 = .ok (.iload_n 1, 1) := by decide +kernel
theorem dX6_readToken_5 : decode cX6_readToken 5 = .ok (.invokevirtual 52, 3) := by decide +kernel
theorem dX6_readToken_8 : decode cX6_readToken 8 = .ok (.istore_n 2, 1) := by decide +kernel
theorem dX6_readToken_9 : decode cX6_readToken 9 = .ok (.iload_n 2, 1) := by decide +kernel
theorem dX6_readToken_10 : decode cX6_readToken 10 = .ok (.invokestatic 55, 3) := by decide +kernel
theorem dX6_readToken_13 : decode cX6_readToken 13 = .ok (.ifCond .eq 9, 3) := by decide +kernel
theorem dX6_readToken_16 : decode cX6_readToken 16 = .ok (.aload_n 0, 1) := by decide +kernel
theorem dX6_readToken_17 : decode cX6_readToken 17 = .ok (.iload_n 1, 1) := by decide +kernel
theorem dX6_readToken_18 : decode cX6_readToken 18 = .ok (.invokevirtual 59, 3) := by decide +kernel
theorem dX6_readToken_21 : decode cX6_readToken 21 = .ok (.ireturn, 1) := by decide +kernel
theorem dX6_readToken_22 : decode cX6_readToken 22 = .ok (.iload_n 2, 1) := by decide +kernel
theorem dX6_readToken_23 : decode cX6_readToken 23 = .ok (.invokestatic 62, 3) := by decide +kernel
theorem dX6_readToken_26 : decode cX6_readToken 26 = .ok (.ifCond .eq 9, 3) := by decide +kernel
theorem dX6_readToken_29 : decode cX6_readToken 29 = .ok (.aload_n 0, 1) := by decide +kernel
theorem dX6_readToken_30 : decode cX6_readToken 30 = .ok (.iload_n 1, 1) := by decide +kernel
theorem dX6_readToken_31 : decode cX6_readToken 31 = .ok (.invokevirtual 65, 3) := by decide +kernel
theorem dX6_readToken_34 : decode cX6_readToken 34 = .ok (.ireturn, 1) := by decide +kernel
theorem dX6_readToken_35 : decode cX6_readToken 35 = .ok (.aload_n 0, 1) := by decide +kernel
theorem dX6_readToken_36 : decode cX6_readToken 36 = .ok (.iload_n 1, 1) := by decide +kernel
theorem dX6_readToken_37 : decode cX6_readToken 37 = .ok (.iload_n 2, 1) := by decide +kernel
theorem dX6_readToken_38 : decode cX6_readToken 38 = .ok (.invokevirtual 68, 3) := by decide +kernel
theorem dX6_readToken_41 : decode cX6_readToken 41 = .ok (.ireturn, 1) := by decide +kernel
theorem dX6_readWord_0 : decode cX6_readWord 0 = .ok (.aload_n 0, 1) := by decide +kernel
theorem dX6_readWord_1 : decode cX6_readWord 1 = .ok (.getfield 24, 3) := by decide +kernel
theorem dX6_readWord_4 : decode cX6_readWord 4 = .ok (.iload_n 1, 1) := by decide +kernel
theorem dX6_readWord_5 : decode cX6_readWord 5 = .ok (.invokevirtual 72, 3) := by decide +kernel
theorem dX6_readWord_8 : decode cX6_readWord 8 = .ok (.istore_n 2, 1) := by decide +kernel
theorem dX6_readWord_9 : decode cX6_readWord 9 = .ok (.iload_n 2, 1) := by decide +kernel
theorem dX6_readWord_10 : decode cX6_readWord 10 = .ok (.iload_n 1, 1) := by decide +kernel
theorem dX6_readWord_11 : decode cX6_readWord 11 = .ok (.isub, 1) := by decide +kernel
theorem dX6_readWord_12 : decode cX6_readWord 12 = .ok (.bipush 10, 2) := by decide +kernel
theorem dX6_readWord_14 : decode cX6_readWord 14 = .ok (.if_icmp .le 5, 3) := by decide +kernel
theorem dX6_readWord_17 : decode cX6_readWord 17 = .ok (.iconst (-1), 1) := by decide +kernel
theorem dX6_readWord_18 : decode cX6_readWord 18 = .ok (.ireturn, 1) := by decide +kernel
theorem dX6_readWord_19 : decode cX6_readWord 19 = .ok (.iconst 2, 1) := by decide +kernel
theorem dX6_readWord_20 : decode cX6_readWord 20 = .ok (.istore_n 3, 1) := by decide +kernel
theorem dX6_readWord_21 : decode cX6_readWord 21 = .ok (.sipush 128, 3) := by decide +kernel
theorem dX6_readWord_24 : decode cX6_readWord 24 = .ok (.istore 4, 2) := by decide +kernel
theorem dX6_readWord_26 : decode cX6_readWord 26 = .ok (.iload 4, 2) := by decide +kernel
theorem dX6_readWord_28 : decode cX6_readWord 28 = .ok (.sipush 153, 3) := by decide +kernel
theorem dX6_readWord_31 : decode cX6_readWord 31 = .ok (.if_icmp .gt 36, 3) := by decide +kernel
theorem dX6_readWord_34 : decode cX6_readWord 34 = .ok (.iload_n 3, 1) := by decide +kernel
theorem dX6_readWord_35 : decode cX6_readWord 35 = .ok (.iconst 2, 1) := by decide +kernel
theorem dX6_readWord_36 : decode cX6_readWord 36 = .ok (.if_icmp .ne 31, 3) := by decide +kernel
theorem dX6_readWord_39 : decode cX6_readWord 39 = .ok (.aload_n 0, 1) := by decide +kernel
theorem dX6_readWord_40 : decode cX6_readWord 40 = .ok (.getfield 24, 3) := by decide +kernel
theorem dX6_readWord_43 : decode cX6_readWord 43 = .ok (.iload 4, 2) := by decide +kernel
theorem dX6_readWord_45 : decode cX6_readWord 45 = .ok (.invokestatic 75, 3) := by decide +kernel
theorem dX6_readWord_48 : decode cX6_readWord 48 = .ok (.iload_n 1, 1) := by decide +kernel
theorem dX6_readWord_49 : decode cX6_readWord 49 = .ok (.iload_n 2, 1) := by decide +kernel
theorem dX6_readWord_50 : decode cX6_readWord 50 = .ok (.iload_n 1, 1) := by decide +kernel
theorem dX6_readWord_51 : decode cX6_readWord 51 = .ok (.isub, 1) := by decide +kernel
theorem dX6_readWord_52 : decode cX6_readWord 52 = .ok (.invokevirtual 79, 3) := by decide +kernel
theorem dX6_readWord_55 : decode cX6_readWord 55 = .ok (.ifCond .eq 6, 3) := by decide +kernel
theorem dX6_readWord_58 : decode cX6_readWord 58 = .ok (.iload 4, 2) := by decide +kernel
theorem dX6_readWord_60 : decode cX6_readWord 60 = .ok (.istore_n 3, 1) := by decide +kernel
theorem dX6_readWord_61 : decode cX6_readWord 61 = .ok (.iinc 4 1, 3) := by decide +kernel
theorem dX6_readWord_64 : decode cX6_readWord 64 = .ok (.goto (-38), 3) := by decide +kernel
theorem dX6_readWord_67 : decode cX6_readWord 67 = .ok (.aload_n 0, 1) := by decide +kernel
theorem dX6_readWord_68 : decode cX6_readWord 68 = .ok (.iload_n 3, 1) := by decide +kernel
theorem dX6_readWord_69 : decode cX6_readWord 69 = .ok (.iload_n 1, 1) := by decide +kernel
theorem dX6_readWord_70 : decode cX6_readWord 70 = .ok (.iload_n 2, 1) := by decide +kernel
theorem dX6_readWord_71 : decode cX6_readWord 71 = .ok (.invokevirtual 48, 3) := by decide +kernel
theorem dX6_readWord_74 : decode cX6_readWord 74 = .ok (.iload_n 2, 1) := by decide +kernel
theorem dX6_readWord_75 : decode cX6_readWord 75 = .ok (.ireturn, 1) := by decide +kernel
theorem dX6_readNumber_0 : decode cX6_readNumber 0 = .ok (.aload_n 0, 1) := by decide +kernel
theorem dX6_readNumber_1 : decode cX6_readNumber 1 = .ok (.getfield 24, 3) := by decide +kernel
theorem dX6_readNumber_4 : decode cX6_readNumber 4 = .ok (.iload_n 1, 1) := by decide +kernel
theorem dX6_readNumber_5 : decode cX6_readNumber 5 = .ok (.invokevirtual 83, 3) := by decide +kernel
theorem dX6_readNumber_8 : decode cX6_readNumber 8 = .ok (.istore_n 2, 1) := by decide +kernel
theorem dX6_readNumber_9 : decode cX6_readNumber 9 = .ok (.iload_n 2, 1) := by decide +kernel
theorem dX6_readNumber_10 : decode cX6_readNumber 10 = .ok (.iload_n 1, 1) := by decide +kernel
theorem dX6_readNumber_11 : decode cX6_readNumber 11 = .ok (.isub, 1) := by decide +kernel
theorem dX6_readNumber_12 : decode cX6_readNumber 12 = .ok (.bipush 6, 2) := by decide +kernel
theorem dX6_readNumber_14 : decode cX6_readNumber 14 = .ok (.if_icmp .le 5, 3) := by decide +kernel
theorem dX6_readNumber_17 : decode cX6_readNumber 17 = .ok (.iconst (-1), 1) := by decide +kernel
theorem dX6_readNumber_18 : decode cX6_readNumber 18 = .ok (.ireturn, 1) := by decide +kernel
theorem dX6_readNumber_19 : decode cX6_readNumber 19 = .ok (.iconst 0, 1) := by decide +kernel
theorem dX6_readNumber_20 : decode cX6_readNumber 20 = .ok (.istore_n 3, 1) := by decide +kernel
theorem dX6_readNumber_21 : decode cX6_readNumber 21 = .ok (.iload_n 1, 1) := by decide +kernel
theorem dX6_readNumber_22 : decode cX6_readNumber 22 = .ok (.istore 4, 2) := by decide +kernel
theorem dX6_readNumber_24 : decode cX6_readNumber 24 = .ok (.iload 4, 2) := by decide +kernel
theorem dX6_readNumber_26 : decode cX6_readNumber 26 = .ok (.iload_n 2, 1) := by decide +kernel
theorem dX6_readNumber_27 : decode cX6_readNumber 27 = .ok (.if_icmp .ge 27, 3) := by decide +kernel
theorem dX6_readNumber_30 : decode cX6_readNumber 30 = .ok (.iload_n 3, 1) := by decide +kernel
theorem dX6_readNumber_31 : decode cX6_readNumber 31 = .ok (.bipush 10, 2) := by decide +kernel
theorem dX6_readNumber_33 : decode cX6_readNumber 33 = .ok (.imul, 1) := by decide +kernel
theorem dX6_readNumber_34 : decode cX6_readNumber 34 = .ok (.aload_n 0, 1) := by decide +kernel
theorem dX6_readNumber_35 : decode cX6_readNumber 35 = .ok (.getfield 24, 3) := by decide +kernel
theorem dX6_readNumber_38 : decode cX6_readNumber 38 = .ok (.iload 4, 2) := by decide +kernel
theorem dX6_readNumber_40 : decode cX6_readNumber 40 = .ok (.invokevirtual 52, 3) := by decide +kernel
theorem dX6_readNumber_43 : decode cX6_readNumber 43 = .ok (.bipush 48, 2) := by decide +kernel
theorem dX6_readNumber_45 : decode cX6_readNumber 45 = .ok (.isub, 1) := by decide +kernel
theorem dX6_readNumber_46 : decode cX6_readNumber 46 = .ok (.iadd, 1) := by decide +kernel
theorem dX6_readNumber_47 : decode cX6_readNumber 47 = .ok (.istore_n 3, 1) := by decide +kernel
theorem dX6_readNumber_48 : decode cX6_readNumber 48 = .ok (.iinc 4 1, 3) := by decide +kernel
theorem dX6_readNumber_51 : decode cX6_readNumber 51 = .ok (.goto (-27), 3) := by decide +kernel
theorem dX6_readNumber_54 : decode cX6_readNumber 54 = .ok (.aload_n 0, 1) := by decide +kernel
theorem dX6_readNumber_55 : decode cX6_readNumber 55 = .ok (.iconst 3, 1) := by decide +kernel
theorem dX6_readNumber_56 : decode cX6_readNumber 56 = .ok (.iload_n 1, 1) := by decide +kernel
theorem dX6_readNumber_57 : decode cX6_readNumber 57 = .ok (.iload_n 2, 1) := by decide +kernel
theorem dX6_readNumber_58 : decode cX6_readNumber 58 = .ok (.invokevirtual 48, 3) := by decide +kernel
theorem dX6_readNumber_61 : decode cX6_readNumber 61 = .ok (.aload_n 0, 1) := by decide +kernel
theorem dX6_readNumber_62 : decode cX6_readNumber 62 = .ok (.aload_n 0, 1) := by decide +kernel
theorem dX6_readNumber_63 : decode cX6_readNumber 63 = .ok (.getfield 28, 3) := by decide +kernel
theorem dX6_readNumber_66 : decode cX6_readNumber 66 = .ok (.iconst 1, 1) := by decide +kernel
theorem dX6_readNumber_67 : decode cX6_readNumber 67 = .ok (.isub, 1) := by decide +kernel
theorem dX6_readNumber_68 : decode cX6_readNumber 68 = .ok (.iload_n 3, 1) := by decide +kernel
theorem dX6_readNumber_69 : decode cX6_readNumber 69 = .ok (.invokevirtual 86, 3) := by decide +kernel
theorem dX6_readNumber_72 : decode cX6_readNumber 72 = .ok (.iload_n 2, 1) := by decide +kernel
theorem dX6_readNumber_73 : decode cX6_readNumber 73 = .ok (.ireturn, 1) := by decide +kernel
theorem dX6_readSymbol_0 : decode cX6_readSymbol 0 = .ok (.aload_n 0, 1) := by decide +kernel
theorem dX6_readSymbol_1 : decode cX6_readSymbol 1 = .ok (.getfield 24, 3) := by decide +kernel
theorem dX6_readSymbol_4 : decode cX6_readSymbol 4 = .ok (.iload_n 1, 1) := by decide +kernel
theorem dX6_readSymbol_5 : decode cX6_readSymbol 5 = .ok (.iconst 1, 1) := by decide +kernel
theorem dX6_readSymbol_6 : decode cX6_readSymbol 6 = .ok (.iadd, 1) := by decide +kernel
theorem dX6_readSymbol_7 : decode cX6_readSymbol 7 = .ok (.invokevirtual 52, 3) := by decide +kernel
theorem dX6_readSymbol_10 : decode cX6_readSymbol 10 = .ok (.bipush 61, 2) := by decide +kernel
theorem dX6_readSymbol_12 : decode cX6_readSymbol 12 = .ok (.if_icmp .ne 7, 3) := by decide +kernel
theorem dX6_readSymbol_15 : decode cX6_readSymbol 15 = .ok (.iconst 1, 1) := by decide +kernel
theorem dX6_readSymbol_16 : decode cX6_readSymbol 16 = .ok (.goto 4, 3) := by decide +kernel
theorem dX6_readSymbol_19 : decode cX6_readSymbol 19 = .ok (.iconst 0, 1) := by decide +kernel
theorem dX6_readSymbol_20 : decode cX6_readSymbol 20 = .ok (.istore_n 3, 1) := by decide +kernel
theorem dX6_readSymbol_21 : decode cX6_readSymbol 21 = .ok (.iload_n 3, 1) := by decide +kernel
theorem dX6_readSymbol_22 : decode cX6_readSymbol 22 = .ok (.ifCond .eq 38, 3) := by decide +kernel
theorem dX6_readSymbol_25 : decode cX6_readSymbol 25 = .ok (.iload_n 2, 1) := by decide +kernel
theorem dX6_readSymbol_26 : decode cX6_readSymbol 26 = .ok (.bipush 60, 2) := by decide +kernel
theorem dX6_readSymbol_28 : decode cX6_readSymbol 28 = .ok (.if_icmp .eq 9, 3) := by decide +kernel
theorem dX6_readSymbol_31 : decode cX6_readSymbol 31 = .ok (.iload_n 2, 1) := by decide +kernel
theorem dX6_readSymbol_32 : decode cX6_readSymbol 32 = .ok (.bipush 62, 2) := by decide +kernel
theorem dX6_readSymbol_34 : decode cX6_readSymbol 34 = .ok (.if_icmp .ne 26, 3) := by decide +kernel
theorem dX6_readSymbol_37 : decode cX6_readSymbol 37 = .ok (.aload_n 0, 1) := by decide +kernel
theorem dX6_readSymbol_38 : decode cX6_readSymbol 38 = .ok (.iload_n 2, 1) := by decide +kernel
theorem dX6_readSymbol_39 : decode cX6_readSymbol 39 = .ok (.bipush 60, 2) := by decide +kernel
theorem dX6_readSymbol_41 : decode cX6_readSymbol 41 = .ok (.if_icmp .ne 7, 3) := by decide +kernel
theorem dX6_readSymbol_44 : decode cX6_readSymbol 44 = .ok (.iconst 4, 1) := by decide +kernel
theorem dX6_readSymbol_45 : decode cX6_readSymbol 45 = .ok (.goto 4, 3) := by decide +kernel
theorem dX6_readSymbol_48 : decode cX6_readSymbol 48 = .ok (.iconst 5, 1) := by decide +kernel
theorem dX6_readSymbol_49 : decode cX6_readSymbol 49 = .ok (.iload_n 1, 1) := by decide +kernel
theorem dX6_readSymbol_50 : decode cX6_readSymbol 50 = .ok (.iload_n 1, 1) := by decide +kernel
theorem dX6_readSymbol_51 : decode cX6_readSymbol 51 = .ok (.iconst 2, 1) := by decide +kernel
theorem dX6_readSymbol_52 : decode cX6_readSymbol 52 = .ok (.iadd, 1) := by decide +kernel
theorem dX6_readSymbol_53 : decode cX6_readSymbol 53 = .ok (.invokevirtual 48, 3) := by decide +kernel
theorem dX6_readSymbol_56 : decode cX6_readSymbol 56 = .ok (.iload_n 1, 1) := by decide +kernel
theorem dX6_readSymbol_57 : decode cX6_readSymbol 57 = .ok (.iconst 2, 1) := by decide +kernel
theorem dX6_readSymbol_58 : decode cX6_readSymbol 58 = .ok (.iadd, 1) := by decide +kernel
theorem dX6_readSymbol_59 : decode cX6_readSymbol 59 = .ok (.ireturn, 1) := by decide +kernel
theorem dX6_readSymbol_60 : decode cX6_readSymbol 60 = .ok (.ldc 90, 2) := by decide +kernel
theorem dX6_readSymbol_62 : decode cX6_readSymbol 62 = .ok (.iload_n 2, 1) := by decide +kernel
theorem dX6_readSymbol_63 : decode cX6_readSymbol 63 = .ok (.i2c, 1) := by decide +kernel
theorem dX6_readSymbol_64 : decode cX6_readSymbol 64 = .ok (.invokevirtual 92, 3) := by decide +kernel
theorem dX6_readSymbol_67 : decode cX6_readSymbol 67 = .ok (.ifCond .ge 5, 3) := by decide +kernel
theorem dX6_readSymbol_70 : decode cX6_readSymbol 70 = .ok (.iconst (-1), 1) := by decide +kernel
theorem dX6_readSymbol_71 : decode cX6_readSymbol 71 = .ok (.ireturn, 1) := by decide +kernel
theorem dX6_readSymbol_72 : decode cX6_readSymbol 72 = .ok (.aload_n 0, 1) := by decide +kernel
theorem dX6_readSymbol_73 : decode cX6_readSymbol 73 = .ok (.iload_n 2, 1) := by decide +kernel
theorem dX6_readSymbol_74 : decode cX6_readSymbol 74 = .ok (.iload_n 1, 1) := by decide +kernel
theorem dX6_readSymbol_75 : decode cX6_readSymbol 75 = .ok (.iload_n 1, 1) := by decide +kernel
theorem dX6_readSymbol_76 : decode cX6_readSymbol 76 = .ok (.iconst 1, 1) := by decide +kernel
theorem dX6_readSymbol_77 : decode cX6_readSymbol 77 = .ok (.iadd, 1) := by decide +kernel
theorem dX6_readSymbol_78 : decode cX6_readSymbol 78 = .ok (.invokevirtual 48, 3) := by decide +kernel
theorem dX6_readSymbol_81 : decode cX6_readSymbol 81 = .ok (.iload_n 1, 1) := by decide +kernel
theorem dX6_readSymbol_82 : decode cX6_readSymbol 82 = .ok (.iconst 1, 1) := by decide +kernel
theorem dX6_readSymbol_83 : decode cX6_readSymbol 83 = .ok (.iadd, 1) := by decide +kernel
theorem dX6_readSymbol_84 : decode cX6_readSymbol 84 = .ok (.ireturn, 1) := by decide +kernel
theorem dX6_add_0 : decode cX6_add 0 = .ok (.aload_n 0, 1) := by decide +kernel
theorem dX6_add_1 : decode cX6_add 1 = .ok (.getfield 28, 3) := by decide +kernel
theorem dX6_add_4 : decode cX6_add 4 = .ok (.sipush 400, 3) := by decide +kernel
theorem dX6_add_7 : decode cX6_add 7 = .ok (.if_icmp .le 4, 3) := by decide +kernel
theorem dX6_add_10 : decode cX6_add 10 = .ok (.return_, 1) := by decide +kernel
theorem dX6_add_11 : decode cX6_add 11 = .ok (.aload_n 0, 1) := by decide +kernel
theorem dX6_add_12 : decode cX6_add 12 = .ok (.getfield 9, 3) := by decide +kernel
theorem dX6_add_15 : decode cX6_add 15 = .ok (.aload_n 0, 1) := by decide +kernel
theorem dX6_add_16 : decode cX6_add 16 = .ok (.getfield 28, 3) := by decide +kernel
theorem dX6_add_19 : decode cX6_add 19 = .ok (.iload_n 1, 1) := by decide +kernel
theorem dX6_add_20 : decode cX6_add 20 = .ok (.iastore, 1) := by decide +kernel
theorem dX6_add_21 : decode cX6_add 21 = .ok (.aload_n 0, 1) := by decide +kernel
theorem dX6_add_22 : decode cX6_add 22 = .ok (.getfield 15, 3) := by decide +kernel
theorem dX6_add_25 : decode cX6_add 25 = .ok (.aload_n 0, 1) := by decide +kernel
theorem dX6_add_26 : decode cX6_add 26 = .ok (.getfield 28, 3) := by decide +kernel
theorem dX6_add_29 : decode cX6_add 29 = .ok (.iload_n 2, 1) := by decide +kernel
theorem dX6_add_30 : decode cX6_add 30 = .ok (.iastore, 1) := by decide +kernel
theorem dX6_add_31 : decode cX6_add 31 = .ok (.aload_n 0, 1) := by decide +kernel
theorem dX6_add_32 : decode cX6_add 32 = .ok (.getfield 18, 3) := by decide +kernel
theorem dX6_add_35 : decode cX6_add 35 = .ok (.aload_n 0, 1) := by decide +kernel
theorem dX6_add_36 : decode cX6_add 36 = .ok (.getfield 28, 3) := by decide +kernel
theorem dX6_add_39 : decode cX6_add 39 = .ok (.iload_n 3, 1) := by decide +kernel
theorem dX6_add_40 : decode cX6_add 40 = .ok (.iload_n 2, 1) := by decide +kernel
theorem dX6_add_41 : decode cX6_add 41 = .ok (.isub, 1) := by decide +kernel
theorem dX6_add_42 : decode cX6_add 42 = .ok (.iastore, 1) := by decide +kernel
theorem dX6_add_43 : decode cX6_add 43 = .ok (.aload_n 0, 1) := by decide +kernel
theorem dX6_add_44 : decode cX6_add 44 = .ok (.getfield 21, 3) := by decide +kernel
theorem dX6_add_47 : decode cX6_add 47 = .ok (.aload_n 0, 1) := by decide +kernel
theorem dX6_add_48 : decode cX6_add 48 = .ok (.getfield 28, 3) := by decide +kernel
theorem dX6_add_51 : decode cX6_add 51 = .ok (.iconst 0, 1) := by decide +kernel
theorem dX6_add_52 : decode cX6_add 52 = .ok (.iastore, 1) := by decide +kernel
theorem dX6_add_53 : decode cX6_add 53 = .ok (.aload_n 0, 1) := by decide +kernel
theorem dX6_add_54 : decode cX6_add 54 = .ok (.dup, 1) := by decide +kernel
theorem dX6_add_55 : decode cX6_add 55 = .ok (.getfield 28, 3) := by decide +kernel
theorem dX6_add_58 : decode cX6_add 58 = .ok (.iconst 1, 1) := by decide +kernel
theorem dX6_add_59 : decode cX6_add 59 = .ok (.iadd, 1) := by decide +kernel
theorem dX6_add_60 : decode cX6_add 60 = .ok (.putfield 28, 3) := by decide +kernel
theorem dX6_add_63 : decode cX6_add 63 = .ok (.return_, 1) := by decide +kernel
theorem dX6_keyword_0 : decode cX6_keyword 0 = .ok (.iload_n 0, 1) := by decide +kernel
theorem dX6_keyword_1 : decode cX6_keyword 1 = .ok (.tableswitch 197 128 153 #[119, 122, 125, 128, 131, 134, 137, 140, 143, 146, 149, 152, 155, 158, 161, 164, 167, 170, 173, 176, 179, 182, 185, 188, 191, 194], 119) := by decide +kernel
theorem dX6_keyword_120 : decode cX6_keyword 120 = .ok (.ldc 97, 2) := by decide +kernel
theorem dX6_keyword_122 : decode cX6_keyword 122 = .ok (.areturn, 1) := by decide +kernel
theorem dX6_keyword_123 : decode cX6_keyword 123 = .ok (.ldc 99, 2) := by decide +kernel
theorem dX6_keyword_125 : decode cX6_keyword 125 = .ok (.areturn, 1) := by decide +kernel
theorem dX6_keyword_126 : decode cX6_keyword 126 = .ok (.ldc 101, 2) := by decide +kernel
theorem dX6_keyword_128 : decode cX6_keyword 128 = .ok (.areturn, 1) := by decide +kernel
theorem dX6_keyword_129 : decode cX6_keyword 129 = .ok (.ldc 103, 2) := by decide +kernel
theorem dX6_keyword_131 : decode cX6_keyword 131 = .ok (.areturn, 1) := by decide +kernel
theorem dX6_keyword_132 : decode cX6_keyword 132 = .ok (.ldc 105, 2) := by decide +kernel
theorem dX6_keyword_134 : decode cX6_keyword 134 = .ok (.areturn, 1) := by decide +kernel
theorem dX6_keyword_135 : decode cX6_keyword 135 = .ok (.ldc 107, 2) := by decide +kernel
theorem dX6_keyword_137 : decode cX6_keyword 137 = .ok (.areturn, 1) := by decide +kernel
theorem dX6_keyword_138 : decode cX6_keyword 138 = .ok (.ldc 109, 2) := by decide +kernel
theorem dX6_keyword_140 : decode cX6_keyword 140 = .ok (.areturn, 1) := by decide +kernel
theorem dX6_keyword_141 : decode cX6_keyword 141 = .ok (.ldc 111, 2) := by decide +kernel
theorem dX6_keyword_143 : decode cX6_keyword 143 = .ok (.areturn, 1) := by decide +kernel
theorem dX6_keyword_144 : decode cX6_keyword 144 = .ok (.ldc 113, 2) := by decide +kernel
theorem dX6_keyword_146 : decode cX6_keyword 146 = .ok (.areturn, 1) := by decide +kernel
theorem dX6_keyword_147 : decode cX6_keyword 147 = .ok (.ldc 115, 2) := by decide +kernel
theorem dX6_keyword_149 : decode cX6_keyword 149 = .ok (.areturn, 1) := by decide +kernel
theorem dX6_keyword_150 : decode cX6_keyword 150 = .ok (.ldc 117, 2) := by decide +kernel
theorem dX6_keyword_152 : decode cX6_keyword 152 = .ok (.areturn, 1) := by decide +kernel
theorem dX6_keyword_153 : decode cX6_keyword 153 = .ok (.ldc 119, 2) := by decide +kernel
theorem dX6_keyword_155 : decode cX6_keyword 155 = .ok (.areturn, 1) := by decide +kernel
theorem dX6_keyword_156 : decode cX6_keyword 156 = .ok (.ldc 121, 2) := by decide +kernel
theorem dX6_keyword_158 : decode cX6_keyword 158 = .ok (.areturn, 1) := by decide +kernel
theorem dX6_keyword_159 : decode cX6_keyword 159 = .ok (.ldc 123, 2) := by decide +kernel
theorem dX6_keyword_161 : decode cX6_keyword 161 = .ok (.areturn, 1) := by decide +kernel
theorem dX6_keyword_162 : decode cX6_keyword 162 = .ok (.ldc 125, 2) := by decide +kernel
theorem dX6_keyword_164 : decode cX6_keyword 164 = .ok (.areturn, 1) := by decide +kernel
theorem dX6_keyword_165 : decode cX6_keyword 165 = .ok (.ldc 127, 2) := by decide +kernel
theorem dX6_keyword_167 : decode cX6_keyword 167 = .ok (.areturn, 1) := by decide +kernel
theorem dX6_keyword_168 : decode cX6_keyword 168 = .ok (.ldc 129, 2) := by decide +kernel
theorem dX6_keyword_170 : decode cX6_keyword 170 = .ok (.areturn, 1) := by decide +kernel
theorem dX6_keyword_171 : decode cX6_keyword 171 = .ok (.ldc 131, 2) := by decide +kernel
theorem dX6_keyword_173 : decode cX6_keyword 173 = .ok (.areturn, 1) := by decide +kernel
theorem dX6_keyword_174 : decode cX6_keyword 174 = .ok (.ldc 133, 2) := by decide +kernel
theorem dX6_keyword_176 : decode cX6_keyword 176 = .ok (.areturn, 1) := by decide +kernel
theorem dX6_keyword_177 : decode cX6_keyword 177 = .ok (.ldc 135, 2) := by decide +kernel
theorem dX6_keyword_179 : decode cX6_keyword 179 = .ok (.areturn, 1) := by decide +kernel
theorem dX6_keyword_180 : decode cX6_keyword 180 = .ok (.ldc 137, 2) := by decide +kernel
theorem dX6_keyword_182 : decode cX6_keyword 182 = .ok (.areturn, 1) := by decide +kernel
theorem dX6_keyword_183 : decode cX6_keyword 183 = .ok (.ldc 139, 2) := by decide +kernel
theorem dX6_keyword_185 : decode cX6_keyword 185 = .ok (.areturn, 1) := by decide +kernel
theorem dX6_keyword_186 : decode cX6_keyword 186 = .ok (.ldc 141, 2) := by decide +kernel
theorem dX6_keyword_188 : decode cX6_keyword 188 = .ok (.areturn, 1) := by decide +kernel
theorem dX6_keyword_189 : decode cX6_keyword 189 = .ok (.ldc 143, 2) := by decide +kernel
theorem dX6_keyword_191 : decode cX6_keyword 191 = .ok (.areturn, 1) := by decide +kernel
theorem dX6_keyword_192 : decode cX6_keyword 192 = .ok (.ldc 145, 2) := by decide +kernel
theorem dX6_keyword_194 : decode cX6_keyword 194 = .ok (.areturn, 1) := by decide +kernel
theorem dX6_keyword_195 : decode cX6_keyword 195 = .ok (.ldc 147, 2) := by decide +kernel
theorem dX6_keyword_197 : decode cX6_keyword 197 = .ok (.areturn, 1) := by decide +kernel
theorem dX6_keyword_198 : decode cX6_keyword 198 = .ok (.ldc 149, 2) := by decide +kernel
theorem dX6_keyword_200 : decode cX6_keyword 200 = .ok (.areturn, 1) := by decide +kernel
theorem dX7_init_0 : decode cX7_init 0 = .ok (.aload_n 0, 1) := by decide +kernel
theorem dX7_init_1 : decode cX7_init 1 = .ok (.invokespecial 3, 3) := by decide +kernel
theorem dX7_init_4 : decode cX7_init 4 = .ok (.aload_n 0, 1) := by decide +kernel
theorem dX7_init_5 : decode cX7_init 5 = .ok (.new 9, 3) := by decide +kernel
theorem dX7_init_8 : decode cX7_init 8 = .ok (.dup, 1) := by decide +kernel
theorem dX7_init_9 : decode cX7_init 9 = .ok (.invokespecial 11, 3) := by decide +kernel
theorem dX7_init_12 : decode cX7_init 12 = .ok (.putfield 12, 3) := by decide +kernel
theorem dX7_init_15 : decode cX7_init 15 = .ok (.aload_n 0, 1) := by decide +kernel
theorem dX7_init_16 : decode cX7_init 16 = .ok (.new 18, 3) := by decide +kernel
theorem dX7_init_19 : decode cX7_init 19 = .ok (.dup, 1) := by decide +kernel
theorem dX7_init_20 : decode cX7_init 20 = .ok (.invokespecial 20, 3) := by decide +kernel
theorem dX7_init_23 : decode cX7_init 23 = .ok (.putfield 21, 3) := by decide +kernel
theorem dX7_init_26 : decode cX7_init 26 = .ok (.aload_n 0, 1) := by decide +kernel
theorem dX7_init_27 : decode cX7_init 27 = .ok (.sipush 400, 3) := by decide +kernel
theorem dX7_init_30 : decode cX7_init 30 = .ok (.newarray .int, 2) := by decide +kernel
theorem dX7_init_32 : decode cX7_init 32 = .ok (.putfield 25, 3) := by decide +kernel
theorem dX7_init_35 : decode cX7_init 35 = .ok (.aload_n 0, 1) := by decide +kernel
theorem dX7_init_36 : decode cX7_init 36 = .ok (.aload_n 1, 1) := by decide +kernel
theorem dX7_init_37 : decode cX7_init 37 = .ok (.putfield 29, 3) := by decide +kernel
theorem dX7_init_40 : decode cX7_init 40 = .ok (.return_, 1) := by decide +kernel
theorem dX7_begin_0 : decode cX7_begin 0 = .ok (.aload_n 0, 1) := by decide +kernel
theorem dX7_begin_1 : decode cX7_begin 1 = .ok (.getfield 12, 3) := by decide +kernel
theorem dX7_begin_4 : decode cX7_begin 4 = .ok (.aload_n 0, 1) := by decide +kernel
theorem dX7_begin_5 : decode cX7_begin 5 = .ok (.getfield 29, 3) := by decide +kernel
theorem dX7_begin_8 : decode cX7_begin 8 = .ok (.invokevirtual 33, 3) := by decide +kernel
theorem dX7_begin_11 : decode cX7_begin 11 = .ok (.aload_n 0, 1) := by decide +kernel
theorem dX7_begin_12 : decode cX7_begin 12 = .ok (.getfield 21, 3) := by decide +kernel
theorem dX7_begin_15 : decode cX7_begin 15 = .ok (.invokevirtual 37, 3) := by decide +kernel
theorem dX7_begin_18 : decode cX7_begin 18 = .ok (.aload_n 0, 1) := by decide +kernel
theorem dX7_begin_19 : decode cX7_begin 19 = .ok (.iconst 0, 1) := by decide +kernel
theorem dX7_begin_20 : decode cX7_begin 20 = .ok (.putfield 39, 3) := by decide +kernel
theorem dX7_begin_23 : decode cX7_begin 23 = .ok (.return_, 1) := by decide +kernel
theorem dX7_copy_0 : decode cX7_copy 0 = .ok (.aload_n 0, 1) := by decide +kernel
theorem dX7_copy_1 : decode cX7_copy 1 = .ok (.getfield 12, 3) := by decide +kernel
theorem dX7_copy_4 : decode cX7_copy 4 = .ok (.aload_n 1, 1) := by decide +kernel
theorem dX7_copy_5 : decode cX7_copy 5 = .ok (.getfield 12, 3) := by decide +kernel
theorem dX7_copy_8 : decode cX7_copy 8 = .ok (.invokevirtual 43, 3) := by decide +kernel
theorem dX7_copy_11 : decode cX7_copy 11 = .ok (.aload_n 0, 1) := by decide +kernel
theorem dX7_copy_12 : decode cX7_copy 12 = .ok (.getfield 21, 3) := by decide +kernel
theorem dX7_copy_15 : decode cX7_copy 15 = .ok (.aload_n 1, 1) := by decide +kernel
theorem dX7_copy_16 : decode cX7_copy 16 = .ok (.getfield 21, 3) := by decide +kernel
theorem dX7_copy_19 : decode cX7_copy 19 = .ok (.invokevirtual 47, 3) := by decide +kernel
theorem dX7_copy_22 : decode cX7_copy 22 = .ok (.aload_n 0, 1) := by decide +kernel
theorem dX7_copy_23 : decode cX7_copy 23 = .ok (.aload_n 1, 1) := by decide +kernel
theorem dX7_copy_24 : decode cX7_copy 24 = .ok (.getfield 39, 3) := by decide +kernel
theorem dX7_copy_27 : decode cX7_copy 27 = .ok (.putfield 39, 3) := by decide +kernel
theorem dX7_copy_30 : decode cX7_copy 30 = .ok (.return_, 1) := by decide +kernel
theorem dX7_pass_0 : decode cX7_pass 0 = .ok (.iconst 0, 1) := by decide +kernel
theorem dX7_pass_1 : decode cX7_pass 1 = .ok (.istore_n 2, 1) := by decide +kernel
theorem dX7_pass_2 : decode cX7_pass 2 = .ok (.iload_n 2, 1) := by decide +kernel
theorem dX7_pass_3 : decode cX7_pass 3 = .ok (.iload_n 1, 1) := by decide +kernel
theorem dX7_pass_4 : decode cX7_pass 4 = .ok (.if_icmp .ge 76, 3) := by decide +kernel
theorem dX7_pass_7 : decode cX7_pass 7 = .ok (.aload_n 0, 1) := by decide +kernel
theorem dX7_pass_8 : decode cX7_pass 8 = .ok (.iconst 0, 1) := by decide +kernel
theorem dX7_pass_9 : decode cX7_pass 9 = .ok (.putfield 50, 3) := by decide +kernel
theorem dX7_pass_12 : decode cX7_pass 12 = .ok (.iconst 0, 1) := by decide +kernel
theorem dX7_pass_13 : decode cX7_pass 13 = .ok (.istore_n 3, 1) := by decide +kernel
theorem dX7_pass_14 : decode cX7_pass 14 = .ok (.iload_n 3, 1) := by decide +kernel
theorem dX7_pass_15 : decode cX7_pass 15 = .ok (.aload_n 0, 1) := by decide +kernel
theorem dX7_pass_16 : decode cX7_pass 16 = .ok (.getfield 29, 3) := by decide +kernel
theorem dX7_pass_19 : decode cX7_pass 19 = .ok (.getfield 53, 3) := by decide +kernel
theorem dX7_pass_22 : decode cX7_pass 22 = .ok (.if_icmp .ge 38, 3) := by decide +kernel
theorem dX7_pass_25 : decode cX7_pass 25 = .ok (.iload_n 3, 1) := by decide +kernel
theorem dX7_pass_26 : decode cX7_pass 26 = .ok (.sipush 400, 3) := by decide +kernel
theorem dX7_pass_29 : decode cX7_pass 29 = .ok (.if_icmp .ge 31, 3) := by decide +kernel
theorem dX7_pass_32 : decode cX7_pass 32 = .ok (.aload_n 0, 1) := by decide +kernel
theorem dX7_pass_33 : decode cX7_pass 33 = .ok (.aload_n 0, 1) := by decide +kernel
theorem dX7_pass_34 : decode cX7_pass 34 = .ok (.getfield 29, 3) := by decide +kernel
theorem dX7_pass_37 : decode cX7_pass 37 = .ok (.getfield 58, 3) := by decide +kernel
theorem dX7_pass_40 : decode cX7_pass 40 = .ok (.iload_n 3, 1) := by decide +kernel
theorem dX7_pass_41 : decode cX7_pass 41 = .ok (.iaload, 1) := by decide +kernel
theorem dX7_pass_42 : decode cX7_pass 42 = .ok (.aload_n 0, 1) := by decide +kernel
theorem dX7_pass_43 : decode cX7_pass 43 = .ok (.getfield 29, 3) := by decide +kernel
theorem dX7_pass_46 : decode cX7_pass 46 = .ok (.getfield 61, 3) := by decide +kernel
theorem dX7_pass_49 : decode cX7_pass 49 = .ok (.iload_n 3, 1) := by decide +kernel
theorem dX7_pass_50 : decode cX7_pass 50 = .ok (.iaload, 1) := by decide +kernel
theorem dX7_pass_51 : decode cX7_pass 51 = .ok (.invokevirtual 64, 3) := by decide +kernel
theorem dX7_pass_54 : decode cX7_pass 54 = .ok (.iinc 3 1, 3) := by decide +kernel
theorem dX7_pass_57 : decode cX7_pass 57 = .ok (.goto (-43), 3) := by decide +kernel
theorem dX7_pass_60 : decode cX7_pass 60 = .ok (.aload_n 0, 1) := by decide +kernel
theorem dX7_pass_61 : decode cX7_pass 61 = .ok (.invokevirtual 68, 3) := by decide +kernel
theorem dX7_pass_64 : decode cX7_pass 64 = .ok (.aload_n 0, 1) := by decide +kernel
theorem dX7_pass_65 : decode cX7_pass 65 = .ok (.dup, 1) := by decide +kernel
theorem dX7_pass_66 : decode cX7_pass 66 = .ok (.getfield 39, 3) := by decide +kernel
theorem dX7_pass_69 : decode cX7_pass 69 = .ok (.iconst 1, 1) := by decide +kernel
theorem dX7_pass_70 : decode cX7_pass 70 = .ok (.iadd, 1) := by decide +kernel
theorem dX7_pass_71 : decode cX7_pass 71 = .ok (.putfield 39, 3) := by decide +kernel
theorem dX7_pass_74 : decode cX7_pass 74 = .ok (.iinc 2 1, 3) := by decide +kernel
theorem dX7_pass_77 : decode cX7_pass 77 = .ok (.goto (-75), 3) := by decide +kernel
theorem dX7_pass_80 : decode cX7_pass 80 = .ok (.return_, 1) := by decide +kernel
theorem dX7_dropJob_0 : decode cX7_dropJob 0 = .ok (.aload_n 0, 1) := by decide +kernel
theorem dX7_dropJob_1 : decode cX7_dropJob 1 = .ok (.getfield 21, 3) := by decide +kernel
theorem dX7_dropJob_4 : decode cX7_dropJob 4 = .ok (.iload_n 1, 1) := by decide +kernel
theorem dX7_dropJob_5 : decode cX7_dropJob 5 = .ok (.invokevirtual 71, 3) := by decide +kernel
theorem dX7_dropJob_8 : decode cX7_dropJob 8 = .ok (.iload_n 1, 1) := by decide +kernel
theorem dX7_dropJob_9 : decode cX7_dropJob 9 = .ok (.ifCond .ne 11, 3) := by decide +kernel
theorem dX7_dropJob_12 : decode cX7_dropJob 12 = .ok (.aload_n 0, 1) := by decide +kernel
theorem dX7_dropJob_13 : decode cX7_dropJob 13 = .ok (.getfield 12, 3) := by decide +kernel
theorem dX7_dropJob_16 : decode cX7_dropJob 16 = .ok (.iconst (-1), 1) := by decide +kernel
theorem dX7_dropJob_17 : decode cX7_dropJob 17 = .ok (.invokevirtual 75, 3) := by decide +kernel
theorem dX7_dropJob_20 : decode cX7_dropJob 20 = .ok (.return_, 1) := by decide +kernel
theorem dX7_follow_0 : decode cX7_follow 0 = .ok (.iload_n 1, 1) := by decide +kernel
theorem dX7_follow_1 : decode cX7_follow 1 = .ok (.invokestatic 78, 3) := by decide +kernel
theorem dX7_follow_4 : decode cX7_follow 4 = .ok (.ifCond .eq 12, 3) := by decide +kernel
theorem dX7_follow_7 : decode cX7_follow 7 = .ok (.aload_n 0, 1) := by decide +kernel
theorem dX7_follow_8 : decode cX7_follow 8 = .ok (.iload_n 1, 1) := by decide +kernel
theorem dX7_follow_9 : decode cX7_follow 9 = .ok (.iload_n 2, 1) := by decide +kernel
theorem dX7_follow_10 : decode cX7_follow 10 = .ok (.invokevirtual 82, 3) := by decide +kernel
theorem dX7_follow_13 : decode cX7_follow 13 = .ok (.goto 79, 3) := by decide +kernel
theorem dX7_follow_16 : decode cX7_follow 16 = .ok (.iload_n 1, 1) := by decide +kernel
theorem dX7_follow_17 : decode cX7_follow 17 = .ok (.bipush 6, 2) := by decide +kernel
theorem dX7_follow_19 : decode cX7_follow 19 = .ok (.if_icmp .ne 15, 3) := by decide +kernel
theorem dX7_follow_22 : decode cX7_follow 22 = .ok (.aload_n 0, 1) := by decide +kernel
theorem dX7_follow_23 : decode cX7_follow 23 = .ok (.aload_n 0, 1) := by decide +kernel
theorem dX7_follow_24 : decode cX7_follow 24 = .ok (.invokevirtual 85, 3) := by decide +kernel
theorem dX7_follow_27 : decode cX7_follow 27 = .ok (.ineg, 1) := by decide +kernel
theorem dX7_follow_28 : decode cX7_follow 28 = .ok (.invokevirtual 89, 3) := by decide +kernel
theorem dX7_follow_31 : decode cX7_follow 31 = .ok (.goto 61, 3) := by decide +kernel
theorem dX7_follow_34 : decode cX7_follow 34 = .ok (.iload_n 1, 1) := by decide +kernel
theorem dX7_follow_35 : decode cX7_follow 35 = .ok (.sipush 149, 3) := by decide +kernel
theorem dX7_follow_38 : decode cX7_follow 38 = .ok (.if_icmp .ne 16, 3) := by decide +kernel
theorem dX7_follow_41 : decode cX7_follow 41 = .ok (.aload_n 0, 1) := by decide +kernel
theorem dX7_follow_42 : decode cX7_follow 42 = .ok (.iconst 1, 1) := by decide +kernel
theorem dX7_follow_43 : decode cX7_follow 43 = .ok (.aload_n 0, 1) := by decide +kernel
theorem dX7_follow_44 : decode cX7_follow 44 = .ok (.invokevirtual 85, 3) := by decide +kernel
theorem dX7_follow_47 : decode cX7_follow 47 = .ok (.isub, 1) := by decide +kernel
theorem dX7_follow_48 : decode cX7_follow 48 = .ok (.invokevirtual 89, 3) := by decide +kernel
theorem dX7_follow_51 : decode cX7_follow 51 = .ok (.goto 41, 3) := by decide +kernel
theorem dX7_follow_54 : decode cX7_follow 54 = .ok (.iload_n 1, 1) := by decide +kernel
theorem dX7_follow_55 : decode cX7_follow 55 = .ok (.invokestatic 92, 3) := by decide +kernel
theorem dX7_follow_58 : decode cX7_follow 58 = .ok (.ifCond .eq 24, 3) := by decide +kernel
theorem dX7_follow_61 : decode cX7_follow 61 = .ok (.aload_n 0, 1) := by decide +kernel
theorem dX7_follow_62 : decode cX7_follow 62 = .ok (.invokevirtual 85, 3) := by decide +kernel
theorem dX7_follow_65 : decode cX7_follow 65 = .ok (.istore_n 3, 1) := by decide +kernel
theorem dX7_follow_66 : decode cX7_follow 66 = .ok (.aload_n 0, 1) := by decide +kernel
theorem dX7_follow_67 : decode cX7_follow 67 = .ok (.iload_n 1, 1) := by decide +kernel
theorem dX7_follow_68 : decode cX7_follow 68 = .ok (.aload_n 0, 1) := by decide +kernel
theorem dX7_follow_69 : decode cX7_follow 69 = .ok (.invokevirtual 85, 3) := by decide +kernel
theorem dX7_follow_72 : decode cX7_follow 72 = .ok (.iload_n 3, 1) := by decide +kernel
theorem dX7_follow_73 : decode cX7_follow 73 = .ok (.invokestatic 95, 3) := by decide +kernel
theorem dX7_follow_76 : decode cX7_follow 76 = .ok (.invokevirtual 89, 3) := by decide +kernel
theorem dX7_follow_79 : decode cX7_follow 79 = .ok (.goto 13, 3) := by decide +kernel
theorem dX7_follow_82 : decode cX7_follow 82 = .ok (.aload_n 0, 1) := by decide +kernel
theorem dX7_follow_83 : decode cX7_follow 83 = .ok (.aload_n 0, 1) := by decide +kernel
theorem dX7_follow_84 : decode cX7_follow 84 = .ok (.iload_n 1, 1) := by decide +kernel
theorem dX7_follow_85 : decode cX7_follow 85 = .ok (.iload_n 2, 1) := by decide +kernel
theorem dX7_follow_86 : decode cX7_follow 86 = .ok (.invokevirtual 99, 3) := by decide +kernel
theorem dX7_follow_89 : decode cX7_follow 89 = .ok (.invokevirtual 89, 3) := by decide +kernel
theorem dX7_follow_92 : decode cX7_follow 92 = .ok (.return_, 1) := by decide +kernel
theorem dX7_push_0 : decode cX7_push 0 = .ok (.aload_n 0, 1) := by decide +kernel
theorem dX7_push_1 : decode cX7_push 1 = .ok (.getfield 50, 3) := by decide +kernel
theorem dX7_push_4 : decode cX7_push 4 = .ok (.sipush 400, 3) := by decide +kernel
theorem dX7_push_7 : decode cX7_push 7 = .ok (.if_icmp .ge 23, 3) := by decide +kernel
theorem dX7_push_10 : decode cX7_push 10 = .ok (.aload_n 0, 1) := by decide +kernel
theorem dX7_push_11 : decode cX7_push 11 = .ok (.getfield 25, 3) := by decide +kernel
theorem dX7_push_14 : decode cX7_push 14 = .ok (.aload_n 0, 1) := by decide +kernel
theorem dX7_push_15 : decode cX7_push 15 = .ok (.getfield 50, 3) := by decide +kernel
theorem dX7_push_18 : decode cX7_push 18 = .ok (.iload_n 1, 1) := by decide +kernel
theorem dX7_push_19 : decode cX7_push 19 = .ok (.iastore, 1) := by decide +kernel
theorem dX7_push_20 : decode cX7_push 20 = .ok (.aload_n 0, 1) := by decide +kernel
theorem dX7_push_21 : decode cX7_push 21 = .ok (.dup, 1) := by decide +kernel
theorem dX7_push_22 : decode cX7_push 22 = .ok (.getfield 50, 3) := by decide +kernel
theorem dX7_push_25 : decode cX7_push 25 = .ok (.iconst 1, 1) := by decide +kernel
theorem dX7_push_26 : decode cX7_push 26 = .ok (.iadd, 1) := by decide +kernel
theorem dX7_push_27 : decode cX7_push 27 = .ok (.putfield 50, 3) := by decide +kernel
theorem dX7_push_30 : decode cX7_push 30 = .ok (.return_, 1) := by decide +kernel
theorem dX7_pop_0 : decode cX7_pop 0 = .ok (.aload_n 0, 1) := by decide +kernel
theorem dX7_pop_1 : decode cX7_pop 1 = .ok (.getfield 50, 3) := by decide +kernel
theorem dX7_pop_4 : decode cX7_pop 4 = .ok (.ifCond .gt 5, 3) := by decide +kernel
theorem dX7_pop_7 : decode cX7_pop 7 = .ok (.iconst 0, 1) := by decide +kernel
theorem dX7_pop_8 : decode cX7_pop 8 = .ok (.ireturn, 1) := by decide +kernel
theorem dX7_pop_9 : decode cX7_pop 9 = .ok (.aload_n 0, 1) := by decide +kernel
theorem dX7_pop_10 : decode cX7_pop 10 = .ok (.dup, 1) := by decide +kernel
theorem dX7_pop_11 : decode cX7_pop 11 = .ok (.getfield 50, 3) := by decide +kernel
theorem dX7_pop_14 : decode cX7_pop 14 = .ok (.iconst 1, 1) := by decide +kernel
theorem dX7_pop_15 : decode cX7_pop 15 = .ok (.isub, 1) := by decide +kernel
theorem dX7_pop_16 : decode cX7_pop 16 = .ok (.putfield 50, 3) := by decide +kernel
theorem dX7_pop_19 : decode cX7_pop 19 = .ok (.aload_n 0, 1) := by decide +kernel
theorem dX7_pop_20 : decode cX7_pop 20 = .ok (.getfield 25, 3) := by decide +kernel
theorem dX7_pop_23 : decode cX7_pop 23 = .ok (.aload_n 0, 1) := by decide +kernel
theorem dX7_pop_24 : decode cX7_pop 24 = .ok (.getfield 50, 3) := by decide +kernel
theorem dX7_pop_27 : decode cX7_pop 27 = .ok (.iaload, 1) := by decide +kernel
theorem dX7_pop_28 : decode cX7_pop 28 = .ok (.ireturn, 1) := by decide +kernel
theorem dX7_carryOut_0 : decode cX7_carryOut 0 = .ok (.aload_n 0, 1) := by decide +kernel
theorem dX7_carryOut_1 : decode cX7_carryOut 1 = .ok (.invokevirtual 85, 3) := by decide +kernel
theorem dX7_carryOut_4 : decode cX7_carryOut 4 = .ok (.ifCond .eq 7, 3) := by decide +kernel
theorem dX7_carryOut_7 : decode cX7_carryOut 7 = .ok (.iconst 1, 1) := by decide +kernel
theorem dX7_carryOut_8 : decode cX7_carryOut 8 = .ok (.goto 4, 3) := by decide +kernel
theorem dX7_carryOut_11 : decode cX7_carryOut 11 = .ok (.iconst 0, 1) := by decide +kernel
theorem dX7_carryOut_12 : decode cX7_carryOut 12 = .ok (.istore_n 3, 1) := by decide +kernel
theorem dX7_carryOut_13 : decode cX7_carryOut 13 = .ok (.iload_n 1, 1) := by decide +kernel
theorem dX7_carryOut_14 : decode cX7_carryOut 14 = .ok (.invokestatic 103, 3) := by decide +kernel
theorem dX7_carryOut_17 : decode cX7_carryOut 17 = .ok (.ifCond .eq 10, 3) := by decide +kernel
theorem dX7_carryOut_20 : decode cX7_carryOut 20 = .ok (.aload_n 0, 1) := by decide +kernel
theorem dX7_carryOut_21 : decode cX7_carryOut 21 = .ok (.invokevirtual 85, 3) := by decide +kernel
theorem dX7_carryOut_24 : decode cX7_carryOut 24 = .ok (.goto 4, 3) := by decide +kernel
theorem dX7_carryOut_27 : decode cX7_carryOut 27 = .ok (.iconst 0, 1) := by decide +kernel
theorem dX7_carryOut_28 : decode cX7_carryOut 28 = .ok (.istore 4, 2) := by decide +kernel
theorem dX7_carryOut_30 : decode cX7_carryOut 30 = .ok (.iload_n 3, 1) := by decide +kernel
theorem dX7_carryOut_31 : decode cX7_carryOut 31 = .ok (.ifCond .ne 4, 3) := by decide +kernel
theorem dX7_carryOut_34 : decode cX7_carryOut 34 = .ok (.return_, 1) := by decide +kernel
theorem dX7_carryOut_35 : decode cX7_carryOut 35 = .ok (.iload_n 1, 1) := by decide +kernel
theorem dX7_carryOut_36 : decode cX7_carryOut 36 = .ok (.tableswitch 86 133 137 #[36, 86, 49, 62, 74], 36) := by decide +kernel
theorem dX7_carryOut_72 : decode cX7_carryOut 72 = .ok (.aload_n 0, 1) := by decide +kernel
theorem dX7_carryOut_73 : decode cX7_carryOut 73 = .ok (.getfield 12, 3) := by decide +kernel
theorem dX7_carryOut_76 : decode cX7_carryOut 76 = .ok (.iload_n 2, 1) := by decide +kernel
theorem dX7_carryOut_77 : decode cX7_carryOut 77 = .ok (.iload 4, 2) := by decide +kernel
theorem dX7_carryOut_79 : decode cX7_carryOut 79 = .ok (.invokevirtual 106, 3) := by decide +kernel
theorem dX7_carryOut_82 : decode cX7_carryOut 82 = .ok (.goto 49, 3) := by decide +kernel
theorem dX7_carryOut_85 : decode cX7_carryOut 85 = .ok (.aload_n 0, 1) := by decide +kernel
theorem dX7_carryOut_86 : decode cX7_carryOut 86 = .ok (.getfield 12, 3) := by decide +kernel
theorem dX7_carryOut_89 : decode cX7_carryOut 89 = .ok (.iload_n 2, 1) := by decide +kernel
theorem dX7_carryOut_90 : decode cX7_carryOut 90 = .ok (.iload 4, 2) := by decide +kernel
theorem dX7_carryOut_92 : decode cX7_carryOut 92 = .ok (.invokevirtual 109, 3) := by decide +kernel
theorem dX7_carryOut_95 : decode cX7_carryOut 95 = .ok (.goto 36, 3) := by decide +kernel
theorem dX7_carryOut_98 : decode cX7_carryOut 98 = .ok (.aload_n 0, 1) := by decide +kernel
theorem dX7_carryOut_99 : decode cX7_carryOut 99 = .ok (.getfield 21, 3) := by decide +kernel
theorem dX7_carryOut_102 : decode cX7_carryOut 102 = .ok (.iconst 0, 1) := by decide +kernel
theorem dX7_carryOut_103 : decode cX7_carryOut 103 = .ok (.iload_n 2, 1) := by decide +kernel
theorem dX7_carryOut_104 : decode cX7_carryOut 104 = .ok (.invokevirtual 112, 3) := by decide +kernel
theorem dX7_carryOut_107 : decode cX7_carryOut 107 = .ok (.goto 24, 3) := by decide +kernel
theorem dX7_carryOut_110 : decode cX7_carryOut 110 = .ok (.aload_n 0, 1) := by decide +kernel
theorem dX7_carryOut_111 : decode cX7_carryOut 111 = .ok (.getfield 21, 3) := by decide +kernel
theorem dX7_carryOut_114 : decode cX7_carryOut 114 = .ok (.iconst 1, 1) := by decide +kernel
theorem dX7_carryOut_115 : decode cX7_carryOut 115 = .ok (.iload_n 2, 1) := by decide +kernel
theorem dX7_carryOut_116 : decode cX7_carryOut 116 = .ok (.invokevirtual 112, 3) := by decide +kernel
theorem dX7_carryOut_119 : decode cX7_carryOut 119 = .ok (.goto 12, 3) := by decide +kernel
theorem dX7_carryOut_122 : decode cX7_carryOut 122 = .ok (.aload_n 0, 1) := by decide +kernel
theorem dX7_carryOut_123 : decode cX7_carryOut 123 = .ok (.getfield 21, 3) := by decide +kernel
theorem dX7_carryOut_126 : decode cX7_carryOut 126 = .ok (.iconst 2, 1) := by decide +kernel
theorem dX7_carryOut_127 : decode cX7_carryOut 127 = .ok (.iload_n 2, 1) := by decide +kernel
theorem dX7_carryOut_128 : decode cX7_carryOut 128 = .ok (.invokevirtual 112, 3) := by decide +kernel
theorem dX7_carryOut_131 : decode cX7_carryOut 131 = .ok (.return_, 1) := by decide +kernel
theorem dX7_valueOf_0 : decode cX7_valueOf 0 = .ok (.iload_n 1, 1) := by decide +kernel
theorem dX7_valueOf_1 : decode cX7_valueOf 1 = .ok (.lookupswitch 125 #[(3, 67), (7, 69), (140, 71), (141, 76), (142, 84), (147, 92), (148, 108)], 67) := by decide +kernel
theorem dX7_valueOf_68 : decode cX7_valueOf 68 = .ok (.iload_n 2, 1) := by decide +kernel
theorem dX7_valueOf_69 : decode cX7_valueOf 69 = .ok (.ireturn, 1) := by decide +kernel
theorem dX7_valueOf_70 : decode cX7_valueOf 70 = .ok (.iconst 1, 1) := by decide +kernel
theorem dX7_valueOf_71 : decode cX7_valueOf 71 = .ok (.ireturn, 1) := by decide +kernel
theorem dX7_valueOf_72 : decode cX7_valueOf 72 = .ok (.aload_n 0, 1) := by decide +kernel
theorem dX7_valueOf_73 : decode cX7_valueOf 73 = .ok (.getfield 39, 3) := by decide +kernel
theorem dX7_valueOf_76 : decode cX7_valueOf 76 = .ok (.ireturn, 1) := by decide +kernel
theorem dX7_valueOf_77 : decode cX7_valueOf 77 = .ok (.aload_n 0, 1) := by decide +kernel
theorem dX7_valueOf_78 : decode cX7_valueOf 78 = .ok (.getfield 12, 3) := by decide +kernel
theorem dX7_valueOf_81 : decode cX7_valueOf 81 = .ok (.invokevirtual 115, 3) := by decide +kernel
theorem dX7_valueOf_84 : decode cX7_valueOf 84 = .ok (.ireturn, 1) := by decide +kernel
theorem dX7_valueOf_85 : decode cX7_valueOf 85 = .ok (.aload_n 0, 1) := by decide +kernel
theorem dX7_valueOf_86 : decode cX7_valueOf 86 = .ok (.getfield 21, 3) := by decide +kernel
theorem dX7_valueOf_89 : decode cX7_valueOf 89 = .ok (.getfield 118, 3) := by decide +kernel
theorem dX7_valueOf_92 : decode cX7_valueOf 92 = .ok (.ireturn, 1) := by decide +kernel
theorem dX7_valueOf_93 : decode cX7_valueOf 93 = .ok (.aload_n 0, 1) := by decide +kernel
theorem dX7_valueOf_94 : decode cX7_valueOf 94 = .ok (.getfield 12, 3) := by decide +kernel
theorem dX7_valueOf_97 : decode cX7_valueOf 97 = .ok (.invokevirtual 121, 3) := by decide +kernel
theorem dX7_valueOf_100 : decode cX7_valueOf 100 = .ok (.ifCond .eq 7, 3) := by decide +kernel
theorem dX7_valueOf_103 : decode cX7_valueOf 103 = .ok (.iconst 1, 1) := by decide +kernel
theorem dX7_valueOf_104 : decode cX7_valueOf 104 = .ok (.goto 4, 3) := by decide +kernel
theorem dX7_valueOf_107 : decode cX7_valueOf 107 = .ok (.iconst 0, 1) := by decide +kernel
theorem dX7_valueOf_108 : decode cX7_valueOf 108 = .ok (.ireturn, 1) := by decide +kernel
theorem dX7_valueOf_109 : decode cX7_valueOf 109 = .ok (.aload_n 0, 1) := by decide +kernel
theorem dX7_valueOf_110 : decode cX7_valueOf 110 = .ok (.getfield 21, 3) := by decide +kernel
theorem dX7_valueOf_113 : decode cX7_valueOf 113 = .ok (.iload_n 2, 1) := by decide +kernel
theorem dX7_valueOf_114 : decode cX7_valueOf 114 = .ok (.invokevirtual 125, 3) := by decide +kernel
theorem dX7_valueOf_117 : decode cX7_valueOf 117 = .ok (.ifCond .eq 7, 3) := by decide +kernel
theorem dX7_valueOf_120 : decode cX7_valueOf 120 = .ok (.iconst 1, 1) := by decide +kernel
theorem dX7_valueOf_121 : decode cX7_valueOf 121 = .ok (.goto 4, 3) := by decide +kernel
theorem dX7_valueOf_124 : decode cX7_valueOf 124 = .ok (.iconst 0, 1) := by decide +kernel
theorem dX7_valueOf_125 : decode cX7_valueOf 125 = .ok (.ireturn, 1) := by decide +kernel
theorem dX7_valueOf_126 : decode cX7_valueOf 126 = .ok (.aload_n 0, 1) := by decide +kernel
theorem dX7_valueOf_127 : decode cX7_valueOf 127 = .ok (.getfield 12, 3) := by decide +kernel
theorem dX7_valueOf_130 : decode cX7_valueOf 130 = .ok (.iload_n 1, 1) := by decide +kernel
theorem dX7_valueOf_131 : decode cX7_valueOf 131 = .ok (.iload_n 2, 1) := by decide +kernel
theorem dX7_valueOf_132 : decode cX7_valueOf 132 = .ok (.invokevirtual 128, 3) := by decide +kernel
theorem dX7_valueOf_135 : decode cX7_valueOf 135 = .ok (.ireturn, 1) := by decide +kernel
theorem dX7_joinsTwo_0 : decode cX7_joinsTwo 0 = .ok (.iload_n 0, 1) := by decide +kernel
theorem dX7_joinsTwo_1 : decode cX7_joinsTwo 1 = .ok (.lookupswitch 117 #[(4, 115), (5, 115), (42, 115), (43, 115), (45, 115), (47, 115), (60, 115), (61, 115), (62, 115), (150, 115), (151, 115), (152, 115), (153, 115)], 115) := by decide +kernel
theorem dX7_joinsTwo_116 : decode cX7_joinsTwo 116 = .ok (.iconst 1, 1) := by decide +kernel
theorem dX7_joinsTwo_117 : decode cX7_joinsTwo 117 = .ok (.ireturn, 1) := by decide +kernel
theorem dX7_joinsTwo_118 : decode cX7_joinsTwo 118 = .ok (.iconst 0, 1) := by decide +kernel
theorem dX7_joinsTwo_119 : decode cX7_joinsTwo 119 = .ok (.ireturn, 1) := by decide +kernel
theorem dX7_join_0 : decode cX7_join 0 = .ok (.iload_n 0, 1) := by decide +kernel
theorem dX7_join_1 : decode cX7_join 1 = .ok (.lookupswitch 200 #[(4, 164), (5, 175), (42, 115), (43, 107), (45, 111), (47, 119), (60, 131), (61, 153), (62, 142), (150, 186), (151, 190), (152, 194)], 107) := by decide +kernel
theorem dX7_join_108 : decode cX7_join 108 = .ok (.iload_n 1, 1) := by decide +kernel
theorem dX7_join_109 : decode cX7_join 109 = .ok (.iload_n 2, 1) := by decide +kernel
theorem dX7_join_110 : decode cX7_join 110 = .ok (.iadd, 1) := by decide +kernel
theorem dX7_join_111 : decode cX7_join 111 = .ok (.ireturn, 1) := by decide +kernel
theorem dX7_join_112 : decode cX7_join 112 = .ok (.iload_n 1, 1) := by decide +kernel
theorem dX7_join_113 : decode cX7_join 113 = .ok (.iload_n 2, 1) := by decide +kernel
theorem dX7_join_114 : decode cX7_join 114 = .ok (.isub, 1) := by decide +kernel
theorem dX7_join_115 : decode cX7_join 115 = .ok (.ireturn, 1) := by decide +kernel
theorem dX7_join_116 : decode cX7_join 116 = .ok (.iload_n 1, 1) := by decide +kernel
theorem dX7_join_117 : decode cX7_join 117 = .ok (.iload_n 2, 1) := by decide +kernel
theorem dX7_join_118 : decode cX7_join 118 = .ok (.imul, 1) := by decide +kernel
theorem dX7_join_119 : decode cX7_join 119 = .ok (.ireturn, 1) := by decide +kernel
theorem dX7_join_120 : decode cX7_join 120 = .ok (.iload_n 2, 1) := by decide +kernel
theorem dX7_join_121 : decode cX7_join 121 = .ok (.ifCond .ne 7, 3) := by decide +kernel
theorem dX7_join_124 : decode cX7_join 124 = .ok (.iconst 0, 1) := by decide +kernel
theorem dX7_join_125 : decode cX7_join 125 = .ok (.goto 6, 3) := by decide +kernel
theorem dX7_join_128 : decode cX7_join 128 = .ok (.iload_n 1, 1) := by decide +kernel
theorem dX7_join_129 : decode cX7_join 129 = .ok (.iload_n 2, 1) := by decide +kernel
theorem dX7_join_130 : decode cX7_join 130 = .ok (.idiv, 1) := by decide +kernel
theorem dX7_join_131 : decode cX7_join 131 = .ok (.ireturn, 1) := by decide +kernel
theorem dX7_join_132 : decode cX7_join 132 = .ok (.iload_n 1, 1) := by decide +kernel
theorem dX7_join_133 : decode cX7_join 133 = .ok (.iload_n 2, 1) := by decide +kernel
theorem dX7_join_134 : decode cX7_join 134 = .ok (.if_icmp .ge 7, 3) := by decide +kernel
theorem dX7_join_137 : decode cX7_join 137 = .ok (.iconst 1, 1) := by decide +kernel
theorem dX7_join_138 : decode cX7_join 138 = .ok (.goto 4, 3) := by decide +kernel
theorem dX7_join_141 : decode cX7_join 141 = .ok (.iconst 0, 1) := by decide +kernel
theorem dX7_join_142 : decode cX7_join 142 = .ok (.ireturn, 1) := by decide +kernel
theorem dX7_join_143 : decode cX7_join 143 = .ok (.iload_n 1, 1) := by decide +kernel
theorem dX7_join_144 : decode cX7_join 144 = .ok (.iload_n 2, 1) := by decide +kernel
theorem dX7_join_145 : decode cX7_join 145 = .ok (.if_icmp .le 7, 3) := by decide +kernel
theorem dX7_join_148 : decode cX7_join 148 = .ok (.iconst 1, 1) := by decide +kernel
theorem dX7_join_149 : decode cX7_join 149 = .ok (.goto 4, 3) := by decide +kernel
theorem dX7_join_152 : decode cX7_join 152 = .ok (.iconst 0, 1) := by decide +kernel
theorem dX7_join_153 : decode cX7_join 153 = .ok (.ireturn, 1) := by decide +kernel
theorem dX7_join_154 : decode cX7_join 154 = .ok (.iload_n 1, 1) := by decide +kernel
theorem dX7_join_155 : decode cX7_join 155 = .ok (.iload_n 2, 1) := by decide +kernel
theorem dX7_join_156 : decode cX7_join 156 = .ok (.if_icmp .ne 7, 3) := by decide +kernel
theorem dX7_join_159 : decode cX7_join 159 = .ok (.iconst 1, 1) := by decide +kernel
theorem dX7_join_160 : decode cX7_join 160 = .ok (.goto 4, 3) := by decide +kernel
theorem dX7_join_163 : decode cX7_join 163 = .ok (.iconst 0, 1) := by decide +kernel
theorem dX7_join_164 : decode cX7_join 164 = .ok (.ireturn, 1) := by decide +kernel
theorem dX7_join_165 : decode cX7_join 165 = .ok (.iload_n 1, 1) := by decide +kernel
theorem dX7_join_166 : decode cX7_join 166 = .ok (.iload_n 2, 1) := by decide +kernel
theorem dX7_join_167 : decode cX7_join 167 = .ok (.if_icmp .gt 7, 3) := by decide +kernel
theorem dX7_join_170 : decode cX7_join 170 = .ok (.iconst 1, 1) := by decide +kernel
theorem dX7_join_171 : decode cX7_join 171 = .ok (.goto 4, 3) := by decide +kernel
theorem dX7_join_174 : decode cX7_join 174 = .ok (.iconst 0, 1) := by decide +kernel
theorem dX7_join_175 : decode cX7_join 175 = .ok (.ireturn, 1) := by decide +kernel
theorem dX7_join_176 : decode cX7_join 176 = .ok (.iload_n 1, 1) := by decide +kernel
theorem dX7_join_177 : decode cX7_join 177 = .ok (.iload_n 2, 1) := by decide +kernel
theorem dX7_join_178 : decode cX7_join 178 = .ok (.if_icmp .lt 7, 3) := by decide +kernel
theorem dX7_join_181 : decode cX7_join 181 = .ok (.iconst 1, 1) := by decide +kernel
theorem dX7_join_182 : decode cX7_join 182 = .ok (.goto 4, 3) := by decide +kernel
theorem dX7_join_185 : decode cX7_join 185 = .ok (.iconst 0, 1) := by decide +kernel
theorem dX7_join_186 : decode cX7_join 186 = .ok (.ireturn, 1) := by decide +kernel
theorem dX7_join_187 : decode cX7_join 187 = .ok (.iload_n 1, 1) := by decide +kernel
theorem dX7_join_188 : decode cX7_join 188 = .ok (.iload_n 2, 1) := by decide +kernel
theorem dX7_join_189 : decode cX7_join 189 = .ok (.iand, 1) := by decide +kernel
theorem dX7_join_190 : decode cX7_join 190 = .ok (.ireturn, 1) := by decide +kernel
theorem dX7_join_191 : decode cX7_join 191 = .ok (.iload_n 1, 1) := by decide +kernel
theorem dX7_join_192 : decode cX7_join 192 = .ok (.iload_n 2, 1) := by decide +kernel
theorem dX7_join_193 : decode cX7_join 193 = .ok (.ior, 1) := by decide +kernel
theorem dX7_join_194 : decode cX7_join 194 = .ok (.ireturn, 1) := by decide +kernel
theorem dX7_join_195 : decode cX7_join 195 = .ok (.iload_n 1, 1) := by decide +kernel
theorem dX7_join_196 : decode cX7_join 196 = .ok (.iload_n 2, 1) := by decide +kernel
theorem dX7_join_197 : decode cX7_join 197 = .ok (.invokestatic 129, 3) := by decide +kernel
theorem dX7_join_200 : decode cX7_join 200 = .ok (.ireturn, 1) := by decide +kernel
theorem dX7_join_201 : decode cX7_join 201 = .ok (.iload_n 1, 1) := by decide +kernel
theorem dX7_join_202 : decode cX7_join 202 = .ok (.iload_n 2, 1) := by decide +kernel
theorem dX7_join_203 : decode cX7_join 203 = .ok (.invokestatic 134, 3) := by decide +kernel
theorem dX7_join_206 : decode cX7_join 206 = .ok (.ireturn, 1) := by decide +kernel
theorem dX7_work_0 : decode cX7_work 0 = .ok (.aload_n 0, 1) := by decide +kernel
theorem dX7_work_1 : decode cX7_work 1 = .ok (.getfield 21, 3) := by decide +kernel
theorem dX7_work_4 : decode cX7_work 4 = .ok (.getfield 118, 3) := by decide +kernel
theorem dX7_work_7 : decode cX7_work 7 = .ok (.ifCond .ne 4, 3) := by decide +kernel
theorem dX7_work_10 : decode cX7_work 10 = .ok (.return_, 1) := by decide +kernel
theorem dX7_work_11 : decode cX7_work 11 = .ok (.aload_n 0, 1) := by decide +kernel
theorem dX7_work_12 : decode cX7_work 12 = .ok (.getfield 21, 3) := by decide +kernel
theorem dX7_work_15 : decode cX7_work 15 = .ok (.iconst 0, 1) := by decide +kernel
theorem dX7_work_16 : decode cX7_work 16 = .ok (.invokevirtual 137, 3) := by decide +kernel
theorem dX7_work_19 : decode cX7_work 19 = .ok (.istore_n 1, 1) := by decide +kernel
theorem dX7_work_20 : decode cX7_work 20 = .ok (.aload_n 0, 1) := by decide +kernel
theorem dX7_work_21 : decode cX7_work 21 = .ok (.getfield 21, 3) := by decide +kernel
theorem dX7_work_24 : decode cX7_work 24 = .ok (.iconst 0, 1) := by decide +kernel
theorem dX7_work_25 : decode cX7_work 25 = .ok (.invokevirtual 141, 3) := by decide +kernel
theorem dX7_work_28 : decode cX7_work 28 = .ok (.istore_n 2, 1) := by decide +kernel
theorem dX7_work_29 : decode cX7_work 29 = .ok (.aload_n 0, 1) := by decide +kernel
theorem dX7_work_30 : decode cX7_work 30 = .ok (.getfield 21, 3) := by decide +kernel
theorem dX7_work_33 : decode cX7_work 33 = .ok (.getfield 144, 3) := by decide +kernel
theorem dX7_work_36 : decode cX7_work 36 = .ok (.ifCond .ne 24, 3) := by decide +kernel
theorem dX7_work_39 : decode cX7_work 39 = .ok (.aload_n 0, 1) := by decide +kernel
theorem dX7_work_40 : decode cX7_work 40 = .ok (.getfield 21, 3) := by decide +kernel
theorem dX7_work_43 : decode cX7_work 43 = .ok (.aload_n 0, 1) := by decide +kernel
theorem dX7_work_44 : decode cX7_work 44 = .ok (.iload_n 1, 1) := by decide +kernel
theorem dX7_work_45 : decode cX7_work 45 = .ok (.iload_n 2, 1) := by decide +kernel
theorem dX7_work_46 : decode cX7_work 46 = .ok (.invokevirtual 147, 3) := by decide +kernel
theorem dX7_work_49 : decode cX7_work 49 = .ok (.putfield 144, 3) := by decide +kernel
theorem dX7_work_52 : decode cX7_work 52 = .ok (.aload_n 0, 1) := by decide +kernel
theorem dX7_work_53 : decode cX7_work 53 = .ok (.getfield 12, 3) := by decide +kernel
theorem dX7_work_56 : decode cX7_work 56 = .ok (.iload_n 2, 1) := by decide +kernel
theorem dX7_work_57 : decode cX7_work 57 = .ok (.invokevirtual 75, 3) := by decide +kernel
theorem dX7_work_60 : decode cX7_work 60 = .ok (.aload_n 0, 1) := by decide +kernel
theorem dX7_work_61 : decode cX7_work 61 = .ok (.getfield 21, 3) := by decide +kernel
theorem dX7_work_64 : decode cX7_work 64 = .ok (.dup, 1) := by decide +kernel
theorem dX7_work_65 : decode cX7_work 65 = .ok (.getfield 144, 3) := by decide +kernel
theorem dX7_work_68 : decode cX7_work 68 = .ok (.iconst 1, 1) := by decide +kernel
theorem dX7_work_69 : decode cX7_work 69 = .ok (.isub, 1) := by decide +kernel
theorem dX7_work_70 : decode cX7_work 70 = .ok (.putfield 144, 3) := by decide +kernel
theorem dX7_work_73 : decode cX7_work 73 = .ok (.aload_n 0, 1) := by decide +kernel
theorem dX7_work_74 : decode cX7_work 74 = .ok (.getfield 21, 3) := by decide +kernel
theorem dX7_work_77 : decode cX7_work 77 = .ok (.getfield 144, 3) := by decide +kernel
theorem dX7_work_80 : decode cX7_work 80 = .ok (.ifCond .ne 27, 3) := by decide +kernel
theorem dX7_work_83 : decode cX7_work 83 = .ok (.aload_n 0, 1) := by decide +kernel
theorem dX7_work_84 : decode cX7_work 84 = .ok (.iconst 0, 1) := by decide +kernel
theorem dX7_work_85 : decode cX7_work 85 = .ok (.invokevirtual 150, 3) := by decide +kernel
theorem dX7_work_88 : decode cX7_work 88 = .ok (.aload_n 0, 1) := by decide +kernel
theorem dX7_work_89 : decode cX7_work 89 = .ok (.getfield 21, 3) := by decide +kernel
theorem dX7_work_92 : decode cX7_work 92 = .ok (.dup, 1) := by decide +kernel
theorem dX7_work_93 : decode cX7_work 93 = .ok (.getfield 153, 3) := by decide +kernel
theorem dX7_work_96 : decode cX7_work 96 = .ok (.iconst 1, 1) := by decide +kernel
theorem dX7_work_97 : decode cX7_work 97 = .ok (.iadd, 1) := by decide +kernel
theorem dX7_work_98 : decode cX7_work 98 = .ok (.putfield 153, 3) := by decide +kernel
theorem dX7_work_101 : decode cX7_work 101 = .ok (.aload_n 0, 1) := by decide +kernel
theorem dX7_work_102 : decode cX7_work 102 = .ok (.iload_n 1, 1) := by decide +kernel
theorem dX7_work_103 : decode cX7_work 103 = .ok (.iload_n 2, 1) := by decide +kernel
theorem dX7_work_104 : decode cX7_work 104 = .ok (.invokevirtual 156, 3) := by decide +kernel
theorem dX7_work_107 : decode cX7_work 107 = .ok (.return_, 1) := by decide +kernel
theorem dX7_minutesFor_0 : decode cX7_minutesFor 0 = .ok (.iload_n 1, 1) := by decide +kernel
theorem dX7_minutesFor_1 : decode cX7_minutesFor 1 = .ok (.lookupswitch 66 #[(0, 27), (1, 47)], 27) := by decide +kernel
theorem dX7_minutesFor_28 : decode cX7_minutesFor 28 = .ok (.bipush 100, 2) := by decide +kernel
theorem dX7_minutesFor_30 : decode cX7_minutesFor 30 = .ok (.aload_n 0, 1) := by decide +kernel
theorem dX7_minutesFor_31 : decode cX7_minutesFor 31 = .ok (.getfield 12, 3) := by decide +kernel
theorem dX7_minutesFor_34 : decode cX7_minutesFor 34 = .ok (.sipush 129, 3) := by decide +kernel
theorem dX7_minutesFor_37 : decode cX7_minutesFor 37 = .ok (.iload_n 2, 1) := by decide +kernel
theorem dX7_minutesFor_38 : decode cX7_minutesFor 38 = .ok (.invokevirtual 128, 3) := by decide +kernel
theorem dX7_minutesFor_41 : decode cX7_minutesFor 41 = .ok (.isub, 1) := by decide +kernel
theorem dX7_minutesFor_42 : decode cX7_minutesFor 42 = .ok (.bipush 10, 2) := by decide +kernel
theorem dX7_minutesFor_44 : decode cX7_minutesFor 44 = .ok (.idiv, 1) := by decide +kernel
theorem dX7_minutesFor_45 : decode cX7_minutesFor 45 = .ok (.iconst 1, 1) := by decide +kernel
theorem dX7_minutesFor_46 : decode cX7_minutesFor 46 = .ok (.iadd, 1) := by decide +kernel
theorem dX7_minutesFor_47 : decode cX7_minutesFor 47 = .ok (.ireturn, 1) := by decide +kernel
theorem dX7_minutesFor_48 : decode cX7_minutesFor 48 = .ok (.aload_n 0, 1) := by decide +kernel
theorem dX7_minutesFor_49 : decode cX7_minutesFor 49 = .ok (.getfield 12, 3) := by decide +kernel
theorem dX7_minutesFor_52 : decode cX7_minutesFor 52 = .ok (.sipush 130, 3) := by decide +kernel
theorem dX7_minutesFor_55 : decode cX7_minutesFor 55 = .ok (.iload_n 2, 1) := by decide +kernel
theorem dX7_minutesFor_56 : decode cX7_minutesFor 56 = .ok (.invokevirtual 128, 3) := by decide +kernel
theorem dX7_minutesFor_59 : decode cX7_minutesFor 59 = .ok (.invokestatic 159, 3) := by decide +kernel
theorem dX7_minutesFor_62 : decode cX7_minutesFor 62 = .ok (.iconst 5, 1) := by decide +kernel
theorem dX7_minutesFor_63 : decode cX7_minutesFor 63 = .ok (.idiv, 1) := by decide +kernel
theorem dX7_minutesFor_64 : decode cX7_minutesFor 64 = .ok (.iconst 1, 1) := by decide +kernel
theorem dX7_minutesFor_65 : decode cX7_minutesFor 65 = .ok (.iadd, 1) := by decide +kernel
theorem dX7_minutesFor_66 : decode cX7_minutesFor 66 = .ok (.ireturn, 1) := by decide +kernel
theorem dX7_minutesFor_67 : decode cX7_minutesFor 67 = .ok (.bipush 20, 2) := by decide +kernel
theorem dX7_minutesFor_69 : decode cX7_minutesFor 69 = .ok (.ireturn, 1) := by decide +kernel
theorem dX7_finish_0 : decode cX7_finish 0 = .ok (.iload_n 1, 1) := by decide +kernel
theorem dX7_finish_1 : decode cX7_finish 1 = .ok (.lookupswitch 50 #[(0, 27), (1, 38)], 27) := by decide +kernel
theorem dX7_finish_28 : decode cX7_finish 28 = .ok (.aload_n 0, 1) := by decide +kernel
theorem dX7_finish_29 : decode cX7_finish 29 = .ok (.getfield 12, 3) := by decide +kernel
theorem dX7_finish_32 : decode cX7_finish 32 = .ok (.iload_n 2, 1) := by decide +kernel
theorem dX7_finish_33 : decode cX7_finish 33 = .ok (.invokevirtual 162, 3) := by decide +kernel
theorem dX7_finish_36 : decode cX7_finish 36 = .ok (.goto 23, 3) := by decide +kernel
theorem dX7_finish_39 : decode cX7_finish 39 = .ok (.aload_n 0, 1) := by decide +kernel
theorem dX7_finish_40 : decode cX7_finish 40 = .ok (.getfield 12, 3) := by decide +kernel
theorem dX7_finish_43 : decode cX7_finish 43 = .ok (.iload_n 2, 1) := by decide +kernel
theorem dX7_finish_44 : decode cX7_finish 44 = .ok (.iconst 0, 1) := by decide +kernel
theorem dX7_finish_45 : decode cX7_finish 45 = .ok (.invokevirtual 165, 3) := by decide +kernel
theorem dX7_finish_48 : decode cX7_finish 48 = .ok (.goto 11, 3) := by decide +kernel
theorem dX7_finish_51 : decode cX7_finish 51 = .ok (.aload_n 0, 1) := by decide +kernel
theorem dX7_finish_52 : decode cX7_finish 52 = .ok (.getfield 12, 3) := by decide +kernel
theorem dX7_finish_55 : decode cX7_finish 55 = .ok (.iload_n 2, 1) := by decide +kernel
theorem dX7_finish_56 : decode cX7_finish 56 = .ok (.invokevirtual 168, 3) := by decide +kernel
theorem dX7_finish_59 : decode cX7_finish 59 = .ok (.return_, 1) := by decide +kernel
theorem dX8_init_0 : decode cX8_init 0 = .ok (.aload_n 0, 1) := by decide +kernel
theorem dX8_init_1 : decode cX8_init 1 = .ok (.invokespecial 1, 3) := by decide +kernel
theorem dX8_init_4 : decode cX8_init 4 = .ok (.aload_n 0, 1) := by decide +kernel
theorem dX8_init_5 : decode cX8_init 5 = .ok (.new 7, 3) := by decide +kernel
theorem dX8_init_8 : decode cX8_init 8 = .ok (.dup, 1) := by decide +kernel
theorem dX8_init_9 : decode cX8_init 9 = .ok (.invokespecial 9, 3) := by decide +kernel
theorem dX8_init_12 : decode cX8_init 12 = .ok (.putfield 10, 3) := by decide +kernel
theorem dX8_init_15 : decode cX8_init 15 = .ok (.aload_n 0, 1) := by decide +kernel
theorem dX8_init_16 : decode cX8_init 16 = .ok (.new 16, 3) := by decide +kernel
theorem dX8_init_19 : decode cX8_init 19 = .ok (.dup, 1) := by decide +kernel
theorem dX8_init_20 : decode cX8_init 20 = .ok (.aload_n 0, 1) := by decide +kernel
theorem dX8_init_21 : decode cX8_init 21 = .ok (.getfield 10, 3) := by decide +kernel
theorem dX8_init_24 : decode cX8_init 24 = .ok (.invokespecial 18, 3) := by decide +kernel
theorem dX8_init_27 : decode cX8_init 27 = .ok (.putfield 21, 3) := by decide +kernel
theorem dX8_init_30 : decode cX8_init 30 = .ok (.aload_n 0, 1) := by decide +kernel
theorem dX8_init_31 : decode cX8_init 31 = .ok (.new 25, 3) := by decide +kernel
theorem dX8_init_34 : decode cX8_init 34 = .ok (.dup, 1) := by decide +kernel
theorem dX8_init_35 : decode cX8_init 35 = .ok (.invokespecial 27, 3) := by decide +kernel
theorem dX8_init_38 : decode cX8_init 38 = .ok (.putfield 28, 3) := by decide +kernel
theorem dX8_init_41 : decode cX8_init 41 = .ok (.aload_n 0, 1) := by decide +kernel
theorem dX8_init_42 : decode cX8_init 42 = .ok (.new 32, 3) := by decide +kernel
theorem dX8_init_45 : decode cX8_init 45 = .ok (.dup, 1) := by decide +kernel
theorem dX8_init_46 : decode cX8_init 46 = .ok (.aload_n 0, 1) := by decide +kernel
theorem dX8_init_47 : decode cX8_init 47 = .ok (.getfield 21, 3) := by decide +kernel
theorem dX8_init_50 : decode cX8_init 50 = .ok (.aload_n 0, 1) := by decide +kernel
theorem dX8_init_51 : decode cX8_init 51 = .ok (.getfield 28, 3) := by decide +kernel
theorem dX8_init_54 : decode cX8_init 54 = .ok (.invokespecial 34, 3) := by decide +kernel
theorem dX8_init_57 : decode cX8_init 57 = .ok (.putfield 37, 3) := by decide +kernel
theorem dX8_init_60 : decode cX8_init 60 = .ok (.aload_n 0, 1) := by decide +kernel
theorem dX8_init_61 : decode cX8_init 61 = .ok (.new 41, 3) := by decide +kernel
theorem dX8_init_64 : decode cX8_init 64 = .ok (.dup, 1) := by decide +kernel
theorem dX8_init_65 : decode cX8_init 65 = .ok (.aload_n 0, 1) := by decide +kernel
theorem dX8_init_66 : decode cX8_init 66 = .ok (.getfield 10, 3) := by decide +kernel
theorem dX8_init_69 : decode cX8_init 69 = .ok (.aload_n 0, 1) := by decide +kernel
theorem dX8_init_70 : decode cX8_init 70 = .ok (.getfield 21, 3) := by decide +kernel
theorem dX8_init_73 : decode cX8_init 73 = .ok (.aload_n 0, 1) := by decide +kernel
theorem dX8_init_74 : decode cX8_init 74 = .ok (.getfield 28, 3) := by decide +kernel
theorem dX8_init_77 : decode cX8_init 77 = .ok (.invokespecial 43, 3) := by decide +kernel
theorem dX8_init_80 : decode cX8_init 80 = .ok (.putfield 46, 3) := by decide +kernel
theorem dX8_init_83 : decode cX8_init 83 = .ok (.aload_n 0, 1) := by decide +kernel
theorem dX8_init_84 : decode cX8_init 84 = .ok (.new 25, 3) := by decide +kernel
theorem dX8_init_87 : decode cX8_init 87 = .ok (.dup, 1) := by decide +kernel
theorem dX8_init_88 : decode cX8_init 88 = .ok (.invokespecial 27, 3) := by decide +kernel
theorem dX8_init_91 : decode cX8_init 91 = .ok (.putfield 50, 3) := by decide +kernel
theorem dX8_init_94 : decode cX8_init 94 = .ok (.aload_n 0, 1) := by decide +kernel
theorem dX8_init_95 : decode cX8_init 95 = .ok (.new 53, 3) := by decide +kernel
theorem dX8_init_98 : decode cX8_init 98 = .ok (.dup, 1) := by decide +kernel
theorem dX8_init_99 : decode cX8_init 99 = .ok (.aload_n 0, 1) := by decide +kernel
theorem dX8_init_100 : decode cX8_init 100 = .ok (.getfield 50, 3) := by decide +kernel
theorem dX8_init_103 : decode cX8_init 103 = .ok (.invokespecial 55, 3) := by decide +kernel
theorem dX8_init_106 : decode cX8_init 106 = .ok (.putfield 58, 3) := by decide +kernel
theorem dX8_init_109 : decode cX8_init 109 = .ok (.aload_n 0, 1) := by decide +kernel
theorem dX8_init_110 : decode cX8_init 110 = .ok (.new 53, 3) := by decide +kernel
theorem dX8_init_113 : decode cX8_init 113 = .ok (.dup, 1) := by decide +kernel
theorem dX8_init_114 : decode cX8_init 114 = .ok (.aload_n 0, 1) := by decide +kernel
theorem dX8_init_115 : decode cX8_init 115 = .ok (.getfield 50, 3) := by decide +kernel
theorem dX8_init_118 : decode cX8_init 118 = .ok (.invokespecial 55, 3) := by decide +kernel
theorem dX8_init_121 : decode cX8_init 121 = .ok (.putfield 62, 3) := by decide +kernel
theorem dX8_init_124 : decode cX8_init 124 = .ok (.aload_n 0, 1) := by decide +kernel
theorem dX8_init_125 : decode cX8_init 125 = .ok (.iconst (-1), 1) := by decide +kernel
theorem dX8_init_126 : decode cX8_init 126 = .ok (.putfield 65, 3) := by decide +kernel
theorem dX8_init_129 : decode cX8_init 129 = .ok (.return_, 1) := by decide +kernel
theorem dX8_feed_0 : decode cX8_feed 0 = .ok (.aload_n 0, 1) := by decide +kernel
theorem dX8_feed_1 : decode cX8_feed 1 = .ok (.getfield 10, 3) := by decide +kernel
theorem dX8_feed_4 : decode cX8_feed 4 = .ok (.getfield 69, 3) := by decide +kernel
theorem dX8_feed_7 : decode cX8_feed 7 = .ok (.sipush 1980, 3) := by decide +kernel
theorem dX8_feed_10 : decode cX8_feed 10 = .ok (.if_icmp .le 13, 3) := by decide +kernel
theorem dX8_feed_13 : decode cX8_feed 13 = .ok (.new 72, 3) := by decide +kernel
theorem dX8_feed_16 : decode cX8_feed 16 = .ok (.dup, 1) := by decide +kernel
theorem dX8_feed_17 : decode cX8_feed 17 = .ok (.ldc 74, 2) := by decide +kernel
theorem dX8_feed_19 : decode cX8_feed 19 = .ok (.invokespecial 76, 3) := by decide +kernel
theorem dX8_feed_22 : decode cX8_feed 22 = .ok (.athrow, 1) := by decide +kernel
theorem dX8_feed_23 : decode cX8_feed 23 = .ok (.aload_n 0, 1) := by decide +kernel
theorem dX8_feed_24 : decode cX8_feed 24 = .ok (.getfield 10, 3) := by decide +kernel
theorem dX8_feed_27 : decode cX8_feed 27 = .ok (.iload_n 1, 1) := by decide +kernel
theorem dX8_feed_28 : decode cX8_feed 28 = .ok (.invokevirtual 79, 3) := by decide +kernel
theorem dX8_feed_31 : decode cX8_feed 31 = .ok (.aload_n 0, 1) := by decide +kernel
theorem dX8_feed_32 : decode cX8_feed 32 = .ok (.getfield 10, 3) := by decide +kernel
theorem dX8_feed_35 : decode cX8_feed 35 = .ok (.iload_n 2, 1) := by decide +kernel
theorem dX8_feed_36 : decode cX8_feed 36 = .ok (.invokevirtual 79, 3) := by decide +kernel
theorem dX8_feed_39 : decode cX8_feed 39 = .ok (.aload_n 0, 1) := by decide +kernel
theorem dX8_feed_40 : decode cX8_feed 40 = .ok (.getfield 10, 3) := by decide +kernel
theorem dX8_feed_43 : decode cX8_feed 43 = .ok (.iload_n 3, 1) := by decide +kernel
theorem dX8_feed_44 : decode cX8_feed 44 = .ok (.invokevirtual 79, 3) := by decide +kernel
theorem dX8_feed_47 : decode cX8_feed 47 = .ok (.aload_n 0, 1) := by decide +kernel
theorem dX8_feed_48 : decode cX8_feed 48 = .ok (.getfield 10, 3) := by decide +kernel
theorem dX8_feed_51 : decode cX8_feed 51 = .ok (.iload 4, 2) := by decide +kernel
theorem dX8_feed_53 : decode cX8_feed 53 = .ok (.invokevirtual 79, 3) := by decide +kernel
theorem dX8_feed_56 : decode cX8_feed 56 = .ok (.aload_n 0, 1) := by decide +kernel
theorem dX8_feed_57 : decode cX8_feed 57 = .ok (.getfield 10, 3) := by decide +kernel
theorem dX8_feed_60 : decode cX8_feed 60 = .ok (.iload 5, 2) := by decide +kernel
theorem dX8_feed_62 : decode cX8_feed 62 = .ok (.invokevirtual 79, 3) := by decide +kernel
theorem dX8_feed_65 : decode cX8_feed 65 = .ok (.aload_n 0, 1) := by decide +kernel
theorem dX8_feed_66 : decode cX8_feed 66 = .ok (.getfield 10, 3) := by decide +kernel
theorem dX8_feed_69 : decode cX8_feed 69 = .ok (.getfield 69, 3) := by decide +kernel
theorem dX8_feed_72 : decode cX8_feed 72 = .ok (.ireturn, 1) := by decide +kernel
theorem dX8_trim_0 : decode cX8_trim 0 = .ok (.iload_n 1, 1) := by decide +kernel
theorem dX8_trim_1 : decode cX8_trim 1 = .ok (.ifCond .lt 14, 3) := by decide +kernel
theorem dX8_trim_4 : decode cX8_trim 4 = .ok (.iload_n 1, 1) := by decide +kernel
theorem dX8_trim_5 : decode cX8_trim 5 = .ok (.aload_n 0, 1) := by decide +kernel
theorem dX8_trim_6 : decode cX8_trim 6 = .ok (.getfield 10, 3) := by decide +kernel
theorem dX8_trim_9 : decode cX8_trim 9 = .ok (.getfield 69, 3) := by decide +kernel
theorem dX8_trim_12 : decode cX8_trim 12 = .ok (.if_icmp .le 13, 3) := by decide +kernel
theorem dX8_trim_15 : decode cX8_trim 15 = .ok (.new 83, 3) := by decide +kernel
theorem dX8_trim_18 : decode cX8_trim 18 = .ok (.dup, 1) := by decide +kernel
theorem dX8_trim_19 : decode cX8_trim 19 = .ok (.ldc 85, 2) := by decide +kernel
theorem dX8_trim_21 : decode cX8_trim 21 = .ok (.invokespecial 87, 3) := by decide +kernel
theorem dX8_trim_24 : decode cX8_trim 24 = .ok (.athrow, 1) := by decide +kernel
theorem dX8_trim_25 : decode cX8_trim 25 = .ok (.aload_n 0, 1) := by decide +kernel
theorem dX8_trim_26 : decode cX8_trim 26 = .ok (.getfield 10, 3) := by decide +kernel
theorem dX8_trim_29 : decode cX8_trim 29 = .ok (.iload_n 1, 1) := by decide +kernel
theorem dX8_trim_30 : decode cX8_trim 30 = .ok (.putfield 69, 3) := by decide +kernel
theorem dX8_trim_33 : decode cX8_trim 33 = .ok (.iload_n 1, 1) := by decide +kernel
theorem dX8_trim_34 : decode cX8_trim 34 = .ok (.ireturn, 1) := by decide +kernel
theorem dX8_teach_0 : decode cX8_teach 0 = .ok (.aload_n 0, 1) := by decide +kernel
theorem dX8_teach_1 : decode cX8_teach 1 = .ok (.getfield 21, 3) := by decide +kernel
theorem dX8_teach_4 : decode cX8_teach 4 = .ok (.invokevirtual 88, 3) := by decide +kernel
theorem dX8_teach_7 : decode cX8_teach 7 = .ok (.iconst 1, 1) := by decide +kernel
theorem dX8_teach_8 : decode cX8_teach 8 = .ok (.istore_n 1, 1) := by decide +kernel
theorem dX8_teach_9 : decode cX8_teach 9 = .ok (.aload_n 0, 1) := by decide +kernel
theorem dX8_teach_10 : decode cX8_teach 10 = .ok (.getfield 37, 3) := by decide +kernel
theorem dX8_teach_13 : decode cX8_teach 13 = .ok (.invokevirtual 91, 3) := by decide +kernel
theorem dX8_teach_16 : decode cX8_teach 16 = .ok (.istore_n 2, 1) := by decide +kernel
theorem dX8_teach_17 : decode cX8_teach 17 = .ok (.iload_n 2, 1) := by decide +kernel
theorem dX8_teach_18 : decode cX8_teach 18 = .ok (.ifCond .ge 19, 3) := by decide +kernel
theorem dX8_teach_21 : decode cX8_teach 21 = .ok (.aload_n 0, 1) := by decide +kernel
theorem dX8_teach_22 : decode cX8_teach 22 = .ok (.getfield 46, 3) := by decide +kernel
theorem dX8_teach_25 : decode cX8_teach 25 = .ok (.invokevirtual 95, 3) := by decide +kernel
theorem dX8_teach_28 : decode cX8_teach 28 = .ok (.istore_n 2, 1) := by decide +kernel
theorem dX8_teach_29 : decode cX8_teach 29 = .ok (.aload_n 0, 1) := by decide +kernel
theorem dX8_teach_30 : decode cX8_teach 30 = .ok (.getfield 46, 3) := by decide +kernel
theorem dX8_teach_33 : decode cX8_teach 33 = .ok (.getfield 98, 3) := by decide +kernel
theorem dX8_teach_36 : decode cX8_teach 36 = .ok (.istore_n 1, 1) := by decide +kernel
theorem dX8_teach_37 : decode cX8_teach 37 = .ok (.aload_n 0, 1) := by decide +kernel
theorem dX8_teach_38 : decode cX8_teach 38 = .ok (.iload_n 2, 1) := by decide +kernel
theorem dX8_teach_39 : decode cX8_teach 39 = .ok (.ifCond .ge 7, 3) := by decide +kernel
theorem dX8_teach_42 : decode cX8_teach 42 = .ok (.iconst (-1), 1) := by decide +kernel
theorem dX8_teach_43 : decode cX8_teach 43 = .ok (.goto 11, 3) := by decide +kernel
theorem dX8_teach_46 : decode cX8_teach 46 = .ok (.aload_n 0, 1) := by decide +kernel
theorem dX8_teach_47 : decode cX8_teach 47 = .ok (.getfield 21, 3) := by decide +kernel
theorem dX8_teach_50 : decode cX8_teach 50 = .ok (.iload_n 2, 1) := by decide +kernel
theorem dX8_teach_51 : decode cX8_teach 51 = .ok (.invokevirtual 101, 3) := by decide +kernel
theorem dX8_teach_54 : decode cX8_teach 54 = .ok (.putfield 65, 3) := by decide +kernel
theorem dX8_teach_57 : decode cX8_teach 57 = .ok (.aload_n 0, 1) := by decide +kernel
theorem dX8_teach_58 : decode cX8_teach 58 = .ok (.getfield 10, 3) := by decide +kernel
theorem dX8_teach_61 : decode cX8_teach 61 = .ok (.iconst 0, 1) := by decide +kernel
theorem dX8_teach_62 : decode cX8_teach 62 = .ok (.putfield 69, 3) := by decide +kernel
theorem dX8_teach_65 : decode cX8_teach 65 = .ok (.iload_n 2, 1) := by decide +kernel
theorem dX8_teach_66 : decode cX8_teach 66 = .ok (.ifCond .lt 5, 3) := by decide +kernel
theorem dX8_teach_69 : decode cX8_teach 69 = .ok (.iload_n 1, 1) := by decide +kernel
theorem dX8_teach_70 : decode cX8_teach 70 = .ok (.ireturn, 1) := by decide +kernel
theorem dX8_teach_71 : decode cX8_teach 71 = .ok (.aload_n 0, 1) := by decide +kernel
theorem dX8_teach_72 : decode cX8_teach 72 = .ok (.getfield 50, 3) := by decide +kernel
theorem dX8_teach_75 : decode cX8_teach 75 = .ok (.aload_n 0, 1) := by decide +kernel
theorem dX8_teach_76 : decode cX8_teach 76 = .ok (.getfield 28, 3) := by decide +kernel
theorem dX8_teach_79 : decode cX8_teach 79 = .ok (.aload_n 0, 1) := by decide +kernel
theorem dX8_teach_80 : decode cX8_teach 80 = .ok (.getfield 21, 3) := by decide +kernel
theorem dX8_teach_83 : decode cX8_teach 83 = .ok (.invokevirtual 105, 3) := by decide +kernel
theorem dX8_teach_86 : decode cX8_teach 86 = .ok (.aload_n 0, 1) := by decide +kernel
theorem dX8_teach_87 : decode cX8_teach 87 = .ok (.getfield 58, 3) := by decide +kernel
theorem dX8_teach_90 : decode cX8_teach 90 = .ok (.invokevirtual 109, 3) := by decide +kernel
theorem dX8_teach_93 : decode cX8_teach 93 = .ok (.iconst 0, 1) := by decide +kernel
theorem dX8_teach_94 : decode cX8_teach 94 = .ok (.ireturn, 1) := by decide +kernel
theorem dX8_errorAt_0 : decode cX8_errorAt 0 = .ok (.aload_n 0, 1) := by decide +kernel
theorem dX8_errorAt_1 : decode cX8_errorAt 1 = .ok (.getfield 65, 3) := by decide +kernel
theorem dX8_errorAt_4 : decode cX8_errorAt 4 = .ok (.ireturn, 1) := by decide +kernel
theorem dX8_mirrors_0 : decode cX8_mirrors 0 = .ok (.aload_n 0, 1) := by decide +kernel
theorem dX8_mirrors_1 : decode cX8_mirrors 1 = .ok (.getfield 58, 3) := by decide +kernel
theorem dX8_mirrors_4 : decode cX8_mirrors 4 = .ok (.getfield 112, 3) := by decide +kernel
theorem dX8_mirrors_7 : decode cX8_mirrors 7 = .ok (.getfield 116, 3) := by decide +kernel
theorem dX8_mirrors_10 : decode cX8_mirrors 10 = .ok (.ireturn, 1) := by decide +kernel
theorem dX8_orders_0 : decode cX8_orders 0 = .ok (.aload_n 0, 1) := by decide +kernel
theorem dX8_orders_1 : decode cX8_orders 1 = .ok (.getfield 50, 3) := by decide +kernel
theorem dX8_orders_4 : decode cX8_orders 4 = .ok (.getfield 121, 3) := by decide +kernel
theorem dX8_orders_7 : decode cX8_orders 7 = .ok (.ireturn, 1) := by decide +kernel
theorem dX8_minutes_0 : decode cX8_minutes 0 = .ok (.aload_n 0, 1) := by decide +kernel
theorem dX8_minutes_1 : decode cX8_minutes 1 = .ok (.getfield 58, 3) := by decide +kernel
theorem dX8_minutes_4 : decode cX8_minutes 4 = .ok (.getfield 124, 3) := by decide +kernel
theorem dX8_minutes_7 : decode cX8_minutes 7 = .ok (.ireturn, 1) := by decide +kernel
theorem dX8_tapeBytes_0 : decode cX8_tapeBytes 0 = .ok (.aload_n 0, 1) := by decide +kernel
theorem dX8_tapeBytes_1 : decode cX8_tapeBytes 1 = .ok (.getfield 10, 3) := by decide +kernel
theorem dX8_tapeBytes_4 : decode cX8_tapeBytes 4 = .ok (.getfield 69, 3) := by decide +kernel
theorem dX8_tapeBytes_7 : decode cX8_tapeBytes 7 = .ok (.ireturn, 1) := by decide +kernel
theorem dX8_lightAtEnd_0 : decode cX8_lightAtEnd 0 = .ok (.aload_n 0, 1) := by decide +kernel
theorem dX8_lightAtEnd_1 : decode cX8_lightAtEnd 1 = .ok (.getfield 58, 3) := by decide +kernel
theorem dX8_lightAtEnd_4 : decode cX8_lightAtEnd 4 = .ok (.getfield 112, 3) := by decide +kernel
theorem dX8_lightAtEnd_7 : decode cX8_lightAtEnd 7 = .ok (.invokevirtual 127, 3) := by decide +kernel
theorem dX8_lightAtEnd_10 : decode cX8_lightAtEnd 10 = .ok (.ireturn, 1) := by decide +kernel
theorem dX8_tiltAtEnd_0 : decode cX8_tiltAtEnd 0 = .ok (.aload_n 0, 1) := by decide +kernel
theorem dX8_tiltAtEnd_1 : decode cX8_tiltAtEnd 1 = .ok (.getfield 58, 3) := by decide +kernel
theorem dX8_tiltAtEnd_4 : decode cX8_tiltAtEnd 4 = .ok (.getfield 112, 3) := by decide +kernel
theorem dX8_tiltAtEnd_7 : decode cX8_tiltAtEnd 7 = .ok (.invokevirtual 130, 3) := by decide +kernel
theorem dX8_tiltAtEnd_10 : decode cX8_tiltAtEnd 10 = .ok (.ireturn, 1) := by decide +kernel
theorem dX8_isSeen_0 : decode cX8_isSeen 0 = .ok (.aload_n 0, 1) := by decide +kernel
theorem dX8_isSeen_1 : decode cX8_isSeen 1 = .ok (.getfield 58, 3) := by decide +kernel
theorem dX8_isSeen_4 : decode cX8_isSeen 4 = .ok (.getfield 112, 3) := by decide +kernel
theorem dX8_isSeen_7 : decode cX8_isSeen 7 = .ok (.invokevirtual 133, 3) := by decide +kernel
theorem dX8_isSeen_10 : decode cX8_isSeen 10 = .ok (.ireturn, 1) := by decide +kernel
theorem dX8_worstMirror_0 : decode cX8_worstMirror 0 = .ok (.aload_n 0, 1) := by decide +kernel
theorem dX8_worstMirror_1 : decode cX8_worstMirror 1 = .ok (.getfield 58, 3) := by decide +kernel
theorem dX8_worstMirror_4 : decode cX8_worstMirror 4 = .ok (.getfield 112, 3) := by decide +kernel
theorem dX8_worstMirror_7 : decode cX8_worstMirror 7 = .ok (.getfield 116, 3) := by decide +kernel
theorem dX8_worstMirror_10 : decode cX8_worstMirror 10 = .ok (.ifCond .ne 13, 3) := by decide +kernel
theorem dX8_worstMirror_13 : decode cX8_worstMirror 13 = .ok (.new 72, 3) := by decide +kernel
theorem dX8_worstMirror_16 : decode cX8_worstMirror 16 = .ok (.dup, 1) := by decide +kernel
theorem dX8_worstMirror_17 : decode cX8_worstMirror 17 = .ok (.ldc 137, 2) := by decide +kernel
theorem dX8_worstMirror_19 : decode cX8_worstMirror 19 = .ok (.invokespecial 76, 3) := by decide +kernel
theorem dX8_worstMirror_22 : decode cX8_worstMirror 22 = .ok (.athrow, 1) := by decide +kernel
theorem dX8_worstMirror_23 : decode cX8_worstMirror 23 = .ok (.aload_n 0, 1) := by decide +kernel
theorem dX8_worstMirror_24 : decode cX8_worstMirror 24 = .ok (.getfield 58, 3) := by decide +kernel
theorem dX8_worstMirror_27 : decode cX8_worstMirror 27 = .ok (.getfield 112, 3) := by decide +kernel
theorem dX8_worstMirror_30 : decode cX8_worstMirror 30 = .ok (.invokevirtual 139, 3) := by decide +kernel
theorem dX8_worstMirror_33 : decode cX8_worstMirror 33 = .ok (.ireturn, 1) := by decide +kernel
theorem dX8_clarityOf_0 : decode cX8_clarityOf 0 = .ok (.aload_n 0, 1) := by decide +kernel
theorem dX8_clarityOf_1 : decode cX8_clarityOf 1 = .ok (.iload_n 1, 1) := by decide +kernel
theorem dX8_clarityOf_2 : decode cX8_clarityOf 2 = .ok (.invokevirtual 142, 3) := by decide +kernel
theorem dX8_clarityOf_5 : decode cX8_clarityOf 5 = .ok (.aload_n 0, 1) := by decide +kernel
theorem dX8_clarityOf_6 : decode cX8_clarityOf 6 = .ok (.getfield 58, 3) := by decide +kernel
theorem dX8_clarityOf_9 : decode cX8_clarityOf 9 = .ok (.getfield 112, 3) := by decide +kernel
theorem dX8_clarityOf_12 : decode cX8_clarityOf 12 = .ok (.sipush 129, 3) := by decide +kernel
theorem dX8_clarityOf_15 : decode cX8_clarityOf 15 = .ok (.iload_n 1, 1) := by decide +kernel
theorem dX8_clarityOf_16 : decode cX8_clarityOf 16 = .ok (.invokevirtual 145, 3) := by decide +kernel
theorem dX8_clarityOf_19 : decode cX8_clarityOf 19 = .ok (.ireturn, 1) := by decide +kernel
theorem dX8_bestClarityOf_0 : decode cX8_bestClarityOf 0 = .ok (.aload_n 0, 1) := by decide +kernel
theorem dX8_bestClarityOf_1 : decode cX8_bestClarityOf 1 = .ok (.iload_n 1, 1) := by decide +kernel
theorem dX8_bestClarityOf_2 : decode cX8_bestClarityOf 2 = .ok (.invokevirtual 142, 3) := by decide +kernel
theorem dX8_bestClarityOf_5 : decode cX8_bestClarityOf 5 = .ok (.aload_n 0, 1) := by decide +kernel
theorem dX8_bestClarityOf_6 : decode cX8_bestClarityOf 6 = .ok (.getfield 58, 3) := by decide +kernel
theorem dX8_bestClarityOf_9 : decode cX8_bestClarityOf 9 = .ok (.getfield 112, 3) := by decide +kernel
theorem dX8_bestClarityOf_12 : decode cX8_bestClarityOf 12 = .ok (.sipush 145, 3) := by decide +kernel
theorem dX8_bestClarityOf_15 : decode cX8_bestClarityOf 15 = .ok (.iload_n 1, 1) := by decide +kernel
theorem dX8_bestClarityOf_16 : decode cX8_bestClarityOf 16 = .ok (.invokevirtual 145, 3) := by decide +kernel
theorem dX8_bestClarityOf_19 : decode cX8_bestClarityOf 19 = .ok (.ireturn, 1) := by decide +kernel
theorem dX8_offsetOf_0 : decode cX8_offsetOf 0 = .ok (.aload_n 0, 1) := by decide +kernel
theorem dX8_offsetOf_1 : decode cX8_offsetOf 1 = .ok (.iload_n 1, 1) := by decide +kernel
theorem dX8_offsetOf_2 : decode cX8_offsetOf 2 = .ok (.invokevirtual 142, 3) := by decide +kernel
theorem dX8_offsetOf_5 : decode cX8_offsetOf 5 = .ok (.aload_n 0, 1) := by decide +kernel
theorem dX8_offsetOf_6 : decode cX8_offsetOf 6 = .ok (.getfield 58, 3) := by decide +kernel
theorem dX8_offsetOf_9 : decode cX8_offsetOf 9 = .ok (.getfield 112, 3) := by decide +kernel
theorem dX8_offsetOf_12 : decode cX8_offsetOf 12 = .ok (.sipush 130, 3) := by decide +kernel
theorem dX8_offsetOf_15 : decode cX8_offsetOf 15 = .ok (.iload_n 1, 1) := by decide +kernel
theorem dX8_offsetOf_16 : decode cX8_offsetOf 16 = .ok (.invokevirtual 145, 3) := by decide +kernel
theorem dX8_offsetOf_19 : decode cX8_offsetOf 19 = .ok (.ireturn, 1) := by decide +kernel
theorem dX8_placeOf_0 : decode cX8_placeOf 0 = .ok (.aload_n 0, 1) := by decide +kernel
theorem dX8_placeOf_1 : decode cX8_placeOf 1 = .ok (.iload_n 1, 1) := by decide +kernel
theorem dX8_placeOf_2 : decode cX8_placeOf 2 = .ok (.invokevirtual 142, 3) := by decide +kernel
theorem dX8_placeOf_5 : decode cX8_placeOf 5 = .ok (.aload_n 0, 1) := by decide +kernel
theorem dX8_placeOf_6 : decode cX8_placeOf 6 = .ok (.getfield 58, 3) := by decide +kernel
theorem dX8_placeOf_9 : decode cX8_placeOf 9 = .ok (.getfield 112, 3) := by decide +kernel
theorem dX8_placeOf_12 : decode cX8_placeOf 12 = .ok (.iload_n 1, 1) := by decide +kernel
theorem dX8_placeOf_13 : decode cX8_placeOf 13 = .ok (.invokevirtual 149, 3) := by decide +kernel
theorem dX8_placeOf_16 : decode cX8_placeOf 16 = .ok (.ireturn, 1) := by decide +kernel
theorem dX8_lightBehind_0 : decode cX8_lightBehind 0 = .ok (.aload_n 0, 1) := by decide +kernel
theorem dX8_lightBehind_1 : decode cX8_lightBehind 1 = .ok (.iload_n 1, 1) := by decide +kernel
theorem dX8_lightBehind_2 : decode cX8_lightBehind 2 = .ok (.invokevirtual 142, 3) := by decide +kernel
theorem dX8_lightBehind_5 : decode cX8_lightBehind 5 = .ok (.aload_n 0, 1) := by decide +kernel
theorem dX8_lightBehind_6 : decode cX8_lightBehind 6 = .ok (.getfield 58, 3) := by decide +kernel
theorem dX8_lightBehind_9 : decode cX8_lightBehind 9 = .ok (.getfield 112, 3) := by decide +kernel
theorem dX8_lightBehind_12 : decode cX8_lightBehind 12 = .ok (.sipush 141, 3) := by decide +kernel
theorem dX8_lightBehind_15 : decode cX8_lightBehind 15 = .ok (.iload_n 1, 1) := by decide +kernel
theorem dX8_lightBehind_16 : decode cX8_lightBehind 16 = .ok (.invokevirtual 145, 3) := by decide +kernel
theorem dX8_lightBehind_19 : decode cX8_lightBehind 19 = .ok (.ireturn, 1) := by decide +kernel
theorem dX8_lostAt_0 : decode cX8_lostAt 0 = .ok (.aload_n 0, 1) := by decide +kernel
theorem dX8_lostAt_1 : decode cX8_lostAt 1 = .ok (.iload_n 1, 1) := by decide +kernel
theorem dX8_lostAt_2 : decode cX8_lostAt 2 = .ok (.invokevirtual 142, 3) := by decide +kernel
theorem dX8_lostAt_5 : decode cX8_lostAt 5 = .ok (.aload_n 0, 1) := by decide +kernel
theorem dX8_lostAt_6 : decode cX8_lostAt 6 = .ok (.getfield 58, 3) := by decide +kernel
theorem dX8_lostAt_9 : decode cX8_lostAt 9 = .ok (.getfield 112, 3) := by decide +kernel
theorem dX8_lostAt_12 : decode cX8_lostAt 12 = .ok (.sipush 143, 3) := by decide +kernel
theorem dX8_lostAt_15 : decode cX8_lostAt 15 = .ok (.iload_n 1, 1) := by decide +kernel
theorem dX8_lostAt_16 : decode cX8_lostAt 16 = .ok (.invokevirtual 145, 3) := by decide +kernel
theorem dX8_lostAt_19 : decode cX8_lostAt 19 = .ok (.ireturn, 1) := by decide +kernel
theorem dX8_tiltBehind_0 : decode cX8_tiltBehind 0 = .ok (.aload_n 0, 1) := by decide +kernel
theorem dX8_tiltBehind_1 : decode cX8_tiltBehind 1 = .ok (.iload_n 1, 1) := by decide +kernel
theorem dX8_tiltBehind_2 : decode cX8_tiltBehind 2 = .ok (.invokevirtual 142, 3) := by decide +kernel
theorem dX8_tiltBehind_5 : decode cX8_tiltBehind 5 = .ok (.aload_n 0, 1) := by decide +kernel
theorem dX8_tiltBehind_6 : decode cX8_tiltBehind 6 = .ok (.getfield 58, 3) := by decide +kernel
theorem dX8_tiltBehind_9 : decode cX8_tiltBehind 9 = .ok (.getfield 112, 3) := by decide +kernel
theorem dX8_tiltBehind_12 : decode cX8_tiltBehind 12 = .ok (.sipush 144, 3) := by decide +kernel
theorem dX8_tiltBehind_15 : decode cX8_tiltBehind 15 = .ok (.iload_n 1, 1) := by decide +kernel
theorem dX8_tiltBehind_16 : decode cX8_tiltBehind 16 = .ok (.invokevirtual 145, 3) := by decide +kernel
theorem dX8_tiltBehind_19 : decode cX8_tiltBehind 19 = .ok (.ireturn, 1) := by decide +kernel
theorem dX8_isCovered_0 : decode cX8_isCovered 0 = .ok (.aload_n 0, 1) := by decide +kernel
theorem dX8_isCovered_1 : decode cX8_isCovered 1 = .ok (.iload_n 1, 1) := by decide +kernel
theorem dX8_isCovered_2 : decode cX8_isCovered 2 = .ok (.invokevirtual 142, 3) := by decide +kernel
theorem dX8_isCovered_5 : decode cX8_isCovered 5 = .ok (.aload_n 0, 1) := by decide +kernel
theorem dX8_isCovered_6 : decode cX8_isCovered 6 = .ok (.getfield 58, 3) := by decide +kernel
theorem dX8_isCovered_9 : decode cX8_isCovered 9 = .ok (.getfield 112, 3) := by decide +kernel
theorem dX8_isCovered_12 : decode cX8_isCovered 12 = .ok (.getfield 152, 3) := by decide +kernel
theorem dX8_isCovered_15 : decode cX8_isCovered 15 = .ok (.iload_n 1, 1) := by decide +kernel
theorem dX8_isCovered_16 : decode cX8_isCovered 16 = .ok (.if_icmp .ne 7, 3) := by decide +kernel
theorem dX8_isCovered_19 : decode cX8_isCovered 19 = .ok (.iconst 1, 1) := by decide +kernel
theorem dX8_isCovered_20 : decode cX8_isCovered 20 = .ok (.goto 4, 3) := by decide +kernel
theorem dX8_isCovered_23 : decode cX8_isCovered 23 = .ok (.iconst 0, 1) := by decide +kernel
theorem dX8_isCovered_24 : decode cX8_isCovered 24 = .ok (.ireturn, 1) := by decide +kernel
theorem dX8_mirrorAt_0 : decode cX8_mirrorAt 0 = .ok (.iload_n 1, 1) := by decide +kernel
theorem dX8_mirrorAt_1 : decode cX8_mirrorAt 1 = .ok (.ifCond .lt 17, 3) := by decide +kernel
theorem dX8_mirrorAt_4 : decode cX8_mirrorAt 4 = .ok (.iload_n 1, 1) := by decide +kernel
theorem dX8_mirrorAt_5 : decode cX8_mirrorAt 5 = .ok (.aload_n 0, 1) := by decide +kernel
theorem dX8_mirrorAt_6 : decode cX8_mirrorAt 6 = .ok (.getfield 58, 3) := by decide +kernel
theorem dX8_mirrorAt_9 : decode cX8_mirrorAt 9 = .ok (.getfield 112, 3) := by decide +kernel
theorem dX8_mirrorAt_12 : decode cX8_mirrorAt 12 = .ok (.getfield 116, 3) := by decide +kernel
theorem dX8_mirrorAt_15 : decode cX8_mirrorAt 15 = .ok (.if_icmp .lt 13, 3) := by decide +kernel
theorem dX8_mirrorAt_18 : decode cX8_mirrorAt 18 = .ok (.new 155, 3) := by decide +kernel
theorem dX8_mirrorAt_21 : decode cX8_mirrorAt 21 = .ok (.dup, 1) := by decide +kernel
theorem dX8_mirrorAt_22 : decode cX8_mirrorAt 22 = .ok (.ldc 157, 2) := by decide +kernel
theorem dX8_mirrorAt_24 : decode cX8_mirrorAt 24 = .ok (.invokespecial 159, 3) := by decide +kernel
theorem dX8_mirrorAt_27 : decode cX8_mirrorAt 27 = .ok (.athrow, 1) := by decide +kernel
theorem dX8_mirrorAt_28 : decode cX8_mirrorAt 28 = .ok (.aload_n 0, 1) := by decide +kernel
theorem dX8_mirrorAt_29 : decode cX8_mirrorAt 29 = .ok (.getfield 58, 3) := by decide +kernel
theorem dX8_mirrorAt_32 : decode cX8_mirrorAt 32 = .ok (.getfield 112, 3) := by decide +kernel
theorem dX8_mirrorAt_35 : decode cX8_mirrorAt 35 = .ok (.iload_n 1, 1) := by decide +kernel
theorem dX8_mirrorAt_36 : decode cX8_mirrorAt 36 = .ok (.invokevirtual 160, 3) := by decide +kernel
theorem dX8_mirrorAt_39 : decode cX8_mirrorAt 39 = .ok (.ireturn, 1) := by decide +kernel
theorem dX8_jobs_0 : decode cX8_jobs 0 = .ok (.aload_n 0, 1) := by decide +kernel
theorem dX8_jobs_1 : decode cX8_jobs 1 = .ok (.getfield 58, 3) := by decide +kernel
theorem dX8_jobs_4 : decode cX8_jobs 4 = .ok (.getfield 163, 3) := by decide +kernel
theorem dX8_jobs_7 : decode cX8_jobs 7 = .ok (.getfield 167, 3) := by decide +kernel
theorem dX8_jobs_10 : decode cX8_jobs 10 = .ok (.ireturn, 1) := by decide +kernel
theorem dX8_jobsDone_0 : decode cX8_jobsDone 0 = .ok (.aload_n 0, 1) := by decide +kernel
theorem dX8_jobsDone_1 : decode cX8_jobsDone 1 = .ok (.getfield 58, 3) := by decide +kernel
theorem dX8_jobsDone_4 : decode cX8_jobsDone 4 = .ok (.getfield 163, 3) := by decide +kernel
theorem dX8_jobsDone_7 : decode cX8_jobsDone 7 = .ok (.getfield 172, 3) := by decide +kernel
theorem dX8_jobsDone_10 : decode cX8_jobsDone 10 = .ok (.ireturn, 1) := by decide +kernel
theorem dX8_kindOfJob_0 : decode cX8_kindOfJob 0 = .ok (.aload_n 0, 1) := by decide +kernel
theorem dX8_kindOfJob_1 : decode cX8_kindOfJob 1 = .ok (.iload_n 1, 1) := by decide +kernel
theorem dX8_kindOfJob_2 : decode cX8_kindOfJob 2 = .ok (.invokevirtual 175, 3) := by decide +kernel
theorem dX8_kindOfJob_5 : decode cX8_kindOfJob 5 = .ok (.aload_n 0, 1) := by decide +kernel
theorem dX8_kindOfJob_6 : decode cX8_kindOfJob 6 = .ok (.getfield 58, 3) := by decide +kernel
theorem dX8_kindOfJob_9 : decode cX8_kindOfJob 9 = .ok (.getfield 163, 3) := by decide +kernel
theorem dX8_kindOfJob_12 : decode cX8_kindOfJob 12 = .ok (.iload_n 1, 1) := by decide +kernel
theorem dX8_kindOfJob_13 : decode cX8_kindOfJob 13 = .ok (.invokevirtual 178, 3) := by decide +kernel
theorem dX8_kindOfJob_16 : decode cX8_kindOfJob 16 = .ok (.ireturn, 1) := by decide +kernel
theorem dX8_mirrorOfJob_0 : decode cX8_mirrorOfJob 0 = .ok (.aload_n 0, 1) := by decide +kernel
theorem dX8_mirrorOfJob_1 : decode cX8_mirrorOfJob 1 = .ok (.iload_n 1, 1) := by decide +kernel
theorem dX8_mirrorOfJob_2 : decode cX8_mirrorOfJob 2 = .ok (.invokevirtual 175, 3) := by decide +kernel
theorem dX8_mirrorOfJob_5 : decode cX8_mirrorOfJob 5 = .ok (.aload_n 0, 1) := by decide +kernel
theorem dX8_mirrorOfJob_6 : decode cX8_mirrorOfJob 6 = .ok (.getfield 58, 3) := by decide +kernel
theorem dX8_mirrorOfJob_9 : decode cX8_mirrorOfJob 9 = .ok (.getfield 163, 3) := by decide +kernel
theorem dX8_mirrorOfJob_12 : decode cX8_mirrorOfJob 12 = .ok (.iload_n 1, 1) := by decide +kernel
theorem dX8_mirrorOfJob_13 : decode cX8_mirrorOfJob 13 = .ok (.invokevirtual 181, 3) := by decide +kernel
theorem dX8_mirrorOfJob_16 : decode cX8_mirrorOfJob 16 = .ok (.ireturn, 1) := by decide +kernel
theorem dX8_minutesToGo_0 : decode cX8_minutesToGo 0 = .ok (.aload_n 0, 1) := by decide +kernel
theorem dX8_minutesToGo_1 : decode cX8_minutesToGo 1 = .ok (.getfield 58, 3) := by decide +kernel
theorem dX8_minutesToGo_4 : decode cX8_minutesToGo 4 = .ok (.getfield 163, 3) := by decide +kernel
theorem dX8_minutesToGo_7 : decode cX8_minutesToGo 7 = .ok (.getfield 182, 3) := by decide +kernel
theorem dX8_minutesToGo_10 : decode cX8_minutesToGo 10 = .ok (.ireturn, 1) := by decide +kernel
theorem dX8_orderJob_0 : decode cX8_orderJob 0 = .ok (.aload_n 0, 1) := by decide +kernel
theorem dX8_orderJob_1 : decode cX8_orderJob 1 = .ok (.iload_n 1, 1) := by decide +kernel
theorem dX8_orderJob_2 : decode cX8_orderJob 2 = .ok (.invokevirtual 142, 3) := by decide +kernel
theorem dX8_orderJob_5 : decode cX8_orderJob 5 = .ok (.iload_n 2, 1) := by decide +kernel
theorem dX8_orderJob_6 : decode cX8_orderJob 6 = .ok (.ifCond .lt 8, 3) := by decide +kernel
theorem dX8_orderJob_9 : decode cX8_orderJob 9 = .ok (.iload_n 2, 1) := by decide +kernel
theorem dX8_orderJob_10 : decode cX8_orderJob 10 = .ok (.iconst 2, 1) := by decide +kernel
theorem dX8_orderJob_11 : decode cX8_orderJob 11 = .ok (.if_icmp .le 13, 3) := by decide +kernel
theorem dX8_orderJob_14 : decode cX8_orderJob 14 = .ok (.new 83, 3) := by decide +kernel
theorem dX8_orderJob_17 : decode cX8_orderJob 17 = .ok (.dup, 1) := by decide +kernel
theorem dX8_orderJob_18 : decode cX8_orderJob 18 = .ok (.ldc 185, 2) := by decide +kernel
theorem dX8_orderJob_20 : decode cX8_orderJob 20 = .ok (.invokespecial 87, 3) := by decide +kernel
theorem dX8_orderJob_23 : decode cX8_orderJob 23 = .ok (.athrow, 1) := by decide +kernel
theorem dX8_orderJob_24 : decode cX8_orderJob 24 = .ok (.aload_n 0, 1) := by decide +kernel
theorem dX8_orderJob_25 : decode cX8_orderJob 25 = .ok (.getfield 58, 3) := by decide +kernel
theorem dX8_orderJob_28 : decode cX8_orderJob 28 = .ok (.getfield 163, 3) := by decide +kernel
theorem dX8_orderJob_31 : decode cX8_orderJob 31 = .ok (.iload_n 2, 1) := by decide +kernel
theorem dX8_orderJob_32 : decode cX8_orderJob 32 = .ok (.iload_n 1, 1) := by decide +kernel
theorem dX8_orderJob_33 : decode cX8_orderJob 33 = .ok (.invokevirtual 187, 3) := by decide +kernel
theorem dX8_orderJob_36 : decode cX8_orderJob 36 = .ok (.ifCond .ne 13, 3) := by decide +kernel
theorem dX8_orderJob_39 : decode cX8_orderJob 39 = .ok (.new 72, 3) := by decide +kernel
theorem dX8_orderJob_42 : decode cX8_orderJob 42 = .ok (.dup, 1) := by decide +kernel
theorem dX8_orderJob_43 : decode cX8_orderJob 43 = .ok (.ldc 191, 2) := by decide +kernel
theorem dX8_orderJob_45 : decode cX8_orderJob 45 = .ok (.invokespecial 76, 3) := by decide +kernel
theorem dX8_orderJob_48 : decode cX8_orderJob 48 = .ok (.athrow, 1) := by decide +kernel
theorem dX8_orderJob_49 : decode cX8_orderJob 49 = .ok (.aload_n 0, 1) := by decide +kernel
theorem dX8_orderJob_50 : decode cX8_orderJob 50 = .ok (.getfield 58, 3) := by decide +kernel
theorem dX8_orderJob_53 : decode cX8_orderJob 53 = .ok (.getfield 163, 3) := by decide +kernel
theorem dX8_orderJob_56 : decode cX8_orderJob 56 = .ok (.iload_n 2, 1) := by decide +kernel
theorem dX8_orderJob_57 : decode cX8_orderJob 57 = .ok (.iload_n 1, 1) := by decide +kernel
theorem dX8_orderJob_58 : decode cX8_orderJob 58 = .ok (.invokevirtual 193, 3) := by decide +kernel
theorem dX8_orderJob_61 : decode cX8_orderJob 61 = .ok (.aload_n 0, 1) := by decide +kernel
theorem dX8_orderJob_62 : decode cX8_orderJob 62 = .ok (.getfield 58, 3) := by decide +kernel
theorem dX8_orderJob_65 : decode cX8_orderJob 65 = .ok (.getfield 163, 3) := by decide +kernel
theorem dX8_orderJob_68 : decode cX8_orderJob 68 = .ok (.getfield 167, 3) := by decide +kernel
theorem dX8_orderJob_71 : decode cX8_orderJob 71 = .ok (.ireturn, 1) := by decide +kernel
theorem dX8_cancelJob_0 : decode cX8_cancelJob 0 = .ok (.aload_n 0, 1) := by decide +kernel
theorem dX8_cancelJob_1 : decode cX8_cancelJob 1 = .ok (.iload_n 1, 1) := by decide +kernel
theorem dX8_cancelJob_2 : decode cX8_cancelJob 2 = .ok (.invokevirtual 175, 3) := by decide +kernel
theorem dX8_cancelJob_5 : decode cX8_cancelJob 5 = .ok (.aload_n 0, 1) := by decide +kernel
theorem dX8_cancelJob_6 : decode cX8_cancelJob 6 = .ok (.getfield 58, 3) := by decide +kernel
theorem dX8_cancelJob_9 : decode cX8_cancelJob 9 = .ok (.getfield 163, 3) := by decide +kernel
theorem dX8_cancelJob_12 : decode cX8_cancelJob 12 = .ok (.iload_n 1, 1) := by decide +kernel
theorem dX8_cancelJob_13 : decode cX8_cancelJob 13 = .ok (.invokevirtual 181, 3) := by decide +kernel
theorem dX8_cancelJob_16 : decode cX8_cancelJob 16 = .ok (.istore_n 2, 1) := by decide +kernel
theorem dX8_cancelJob_17 : decode cX8_cancelJob 17 = .ok (.aload_n 0, 1) := by decide +kernel
theorem dX8_cancelJob_18 : decode cX8_cancelJob 18 = .ok (.getfield 58, 3) := by decide +kernel
theorem dX8_cancelJob_21 : decode cX8_cancelJob 21 = .ok (.iload_n 1, 1) := by decide +kernel
theorem dX8_cancelJob_22 : decode cX8_cancelJob 22 = .ok (.invokevirtual 197, 3) := by decide +kernel
theorem dX8_cancelJob_25 : decode cX8_cancelJob 25 = .ok (.iload_n 2, 1) := by decide +kernel
theorem dX8_cancelJob_26 : decode cX8_cancelJob 26 = .ok (.ireturn, 1) := by decide +kernel
theorem dX8_turnMirror_0 : decode cX8_turnMirror 0 = .ok (.aload_n 0, 1) := by decide +kernel
theorem dX8_turnMirror_1 : decode cX8_turnMirror 1 = .ok (.iload_n 1, 1) := by decide +kernel
theorem dX8_turnMirror_2 : decode cX8_turnMirror 2 = .ok (.invokevirtual 142, 3) := by decide +kernel
theorem dX8_turnMirror_5 : decode cX8_turnMirror 5 = .ok (.iload_n 2, 1) := by decide +kernel
theorem dX8_turnMirror_6 : decode cX8_turnMirror 6 = .ok (.bipush (-90), 2) := by decide +kernel
theorem dX8_turnMirror_8 : decode cX8_turnMirror 8 = .ok (.if_icmp .lt 9, 3) := by decide +kernel
theorem dX8_turnMirror_11 : decode cX8_turnMirror 11 = .ok (.iload_n 2, 1) := by decide +kernel
theorem dX8_turnMirror_12 : decode cX8_turnMirror 12 = .ok (.bipush 90, 2) := by decide +kernel
theorem dX8_turnMirror_14 : decode cX8_turnMirror 14 = .ok (.if_icmp .le 13, 3) := by decide +kernel
theorem dX8_turnMirror_17 : decode cX8_turnMirror 17 = .ok (.new 83, 3) := by decide +kernel
theorem dX8_turnMirror_20 : decode cX8_turnMirror 20 = .ok (.dup, 1) := by decide +kernel
theorem dX8_turnMirror_21 : decode cX8_turnMirror 21 = .ok (.ldc 200, 2) := by decide +kernel
theorem dX8_turnMirror_23 : decode cX8_turnMirror 23 = .ok (.invokespecial 87, 3) := by decide +kernel
theorem dX8_turnMirror_26 : decode cX8_turnMirror 26 = .ok (.athrow, 1) := by decide +kernel
theorem dX8_turnMirror_27 : decode cX8_turnMirror 27 = .ok (.aload_n 0, 1) := by decide +kernel
theorem dX8_turnMirror_28 : decode cX8_turnMirror 28 = .ok (.getfield 58, 3) := by decide +kernel
theorem dX8_turnMirror_31 : decode cX8_turnMirror 31 = .ok (.getfield 112, 3) := by decide +kernel
theorem dX8_turnMirror_34 : decode cX8_turnMirror 34 = .ok (.sipush 130, 3) := by decide +kernel
theorem dX8_turnMirror_37 : decode cX8_turnMirror 37 = .ok (.iload_n 1, 1) := by decide +kernel
theorem dX8_turnMirror_38 : decode cX8_turnMirror 38 = .ok (.invokevirtual 145, 3) := by decide +kernel
theorem dX8_turnMirror_41 : decode cX8_turnMirror 41 = .ok (.istore_n 3, 1) := by decide +kernel
theorem dX8_turnMirror_42 : decode cX8_turnMirror 42 = .ok (.aload_n 0, 1) := by decide +kernel
theorem dX8_turnMirror_43 : decode cX8_turnMirror 43 = .ok (.getfield 58, 3) := by decide +kernel
theorem dX8_turnMirror_46 : decode cX8_turnMirror 46 = .ok (.getfield 112, 3) := by decide +kernel
theorem dX8_turnMirror_49 : decode cX8_turnMirror 49 = .ok (.iload_n 1, 1) := by decide +kernel
theorem dX8_turnMirror_50 : decode cX8_turnMirror 50 = .ok (.iload_n 2, 1) := by decide +kernel
theorem dX8_turnMirror_51 : decode cX8_turnMirror 51 = .ok (.invokevirtual 202, 3) := by decide +kernel
theorem dX8_turnMirror_54 : decode cX8_turnMirror 54 = .ok (.iload_n 3, 1) := by decide +kernel
theorem dX8_turnMirror_55 : decode cX8_turnMirror 55 = .ok (.ireturn, 1) := by decide +kernel
theorem dX8_dustMirror_0 : decode cX8_dustMirror 0 = .ok (.aload_n 0, 1) := by decide +kernel
theorem dX8_dustMirror_1 : decode cX8_dustMirror 1 = .ok (.iload_n 1, 1) := by decide +kernel
theorem dX8_dustMirror_2 : decode cX8_dustMirror 2 = .ok (.invokevirtual 142, 3) := by decide +kernel
theorem dX8_dustMirror_5 : decode cX8_dustMirror 5 = .ok (.iload_n 2, 1) := by decide +kernel
theorem dX8_dustMirror_6 : decode cX8_dustMirror 6 = .ok (.ifCond .lt 9, 3) := by decide +kernel
theorem dX8_dustMirror_9 : decode cX8_dustMirror 9 = .ok (.iload_n 2, 1) := by decide +kernel
theorem dX8_dustMirror_10 : decode cX8_dustMirror 10 = .ok (.bipush 100, 2) := by decide +kernel
theorem dX8_dustMirror_12 : decode cX8_dustMirror 12 = .ok (.if_icmp .le 13, 3) := by decide +kernel
theorem dX8_dustMirror_15 : decode cX8_dustMirror 15 = .ok (.new 83, 3) := by decide +kernel
theorem dX8_dustMirror_18 : decode cX8_dustMirror 18 = .ok (.dup, 1) := by decide +kernel
theorem dX8_dustMirror_19 : decode cX8_dustMirror 19 = .ok (.ldc 205, 2) := by decide +kernel
theorem dX8_dustMirror_21 : decode cX8_dustMirror 21 = .ok (.invokespecial 87, 3) := by decide +kernel
theorem dX8_dustMirror_24 : decode cX8_dustMirror 24 = .ok (.athrow, 1) := by decide +kernel
theorem dX8_dustMirror_25 : decode cX8_dustMirror 25 = .ok (.aload_n 0, 1) := by decide +kernel
theorem dX8_dustMirror_26 : decode cX8_dustMirror 26 = .ok (.getfield 58, 3) := by decide +kernel
theorem dX8_dustMirror_29 : decode cX8_dustMirror 29 = .ok (.getfield 112, 3) := by decide +kernel
theorem dX8_dustMirror_32 : decode cX8_dustMirror 32 = .ok (.iload_n 1, 1) := by decide +kernel
theorem dX8_dustMirror_33 : decode cX8_dustMirror 33 = .ok (.iload_n 2, 1) := by decide +kernel
theorem dX8_dustMirror_34 : decode cX8_dustMirror 34 = .ok (.bipush 100, 2) := by decide +kernel
theorem dX8_dustMirror_36 : decode cX8_dustMirror 36 = .ok (.invokevirtual 207, 3) := by decide +kernel
theorem dX8_dustMirror_39 : decode cX8_dustMirror 39 = .ok (.aload_n 0, 1) := by decide +kernel
theorem dX8_dustMirror_40 : decode cX8_dustMirror 40 = .ok (.getfield 58, 3) := by decide +kernel
theorem dX8_dustMirror_43 : decode cX8_dustMirror 43 = .ok (.getfield 112, 3) := by decide +kernel
theorem dX8_dustMirror_46 : decode cX8_dustMirror 46 = .ok (.sipush 129, 3) := by decide +kernel
theorem dX8_dustMirror_49 : decode cX8_dustMirror 49 = .ok (.iload_n 1, 1) := by decide +kernel
theorem dX8_dustMirror_50 : decode cX8_dustMirror 50 = .ok (.invokevirtual 145, 3) := by decide +kernel
theorem dX8_dustMirror_53 : decode cX8_dustMirror 53 = .ok (.ireturn, 1) := by decide +kernel
theorem dX8_moveMirror_0 : decode cX8_moveMirror 0 = .ok (.aload_n 0, 1) := by decide +kernel
theorem dX8_moveMirror_1 : decode cX8_moveMirror 1 = .ok (.iload_n 1, 1) := by decide +kernel
theorem dX8_moveMirror_2 : decode cX8_moveMirror 2 = .ok (.invokevirtual 142, 3) := by decide +kernel
theorem dX8_moveMirror_5 : decode cX8_moveMirror 5 = .ok (.iload_n 2, 1) := by decide +kernel
theorem dX8_moveMirror_6 : decode cX8_moveMirror 6 = .ok (.ifCond .lt 17, 3) := by decide +kernel
theorem dX8_moveMirror_9 : decode cX8_moveMirror 9 = .ok (.iload_n 2, 1) := by decide +kernel
theorem dX8_moveMirror_10 : decode cX8_moveMirror 10 = .ok (.aload_n 0, 1) := by decide +kernel
theorem dX8_moveMirror_11 : decode cX8_moveMirror 11 = .ok (.getfield 58, 3) := by decide +kernel
theorem dX8_moveMirror_14 : decode cX8_moveMirror 14 = .ok (.getfield 112, 3) := by decide +kernel
theorem dX8_moveMirror_17 : decode cX8_moveMirror 17 = .ok (.getfield 116, 3) := by decide +kernel
theorem dX8_moveMirror_20 : decode cX8_moveMirror 20 = .ok (.if_icmp .lt 13, 3) := by decide +kernel
theorem dX8_moveMirror_23 : decode cX8_moveMirror 23 = .ok (.new 155, 3) := by decide +kernel
theorem dX8_moveMirror_26 : decode cX8_moveMirror 26 = .ok (.dup, 1) := by decide +kernel
theorem dX8_moveMirror_27 : decode cX8_moveMirror 27 = .ok (.ldc 157, 2) := by decide +kernel
theorem dX8_moveMirror_29 : decode cX8_moveMirror 29 = .ok (.invokespecial 159, 3) := by decide +kernel
theorem dX8_moveMirror_32 : decode cX8_moveMirror 32 = .ok (.athrow, 1) := by decide +kernel
theorem dX8_moveMirror_33 : decode cX8_moveMirror 33 = .ok (.aload_n 0, 1) := by decide +kernel
theorem dX8_moveMirror_34 : decode cX8_moveMirror 34 = .ok (.getfield 58, 3) := by decide +kernel
theorem dX8_moveMirror_37 : decode cX8_moveMirror 37 = .ok (.getfield 112, 3) := by decide +kernel
theorem dX8_moveMirror_40 : decode cX8_moveMirror 40 = .ok (.iload_n 1, 1) := by decide +kernel
theorem dX8_moveMirror_41 : decode cX8_moveMirror 41 = .ok (.invokevirtual 149, 3) := by decide +kernel
theorem dX8_moveMirror_44 : decode cX8_moveMirror 44 = .ok (.istore_n 3, 1) := by decide +kernel
theorem dX8_moveMirror_45 : decode cX8_moveMirror 45 = .ok (.aload_n 0, 1) := by decide +kernel
theorem dX8_moveMirror_46 : decode cX8_moveMirror 46 = .ok (.getfield 58, 3) := by decide +kernel
theorem dX8_moveMirror_49 : decode cX8_moveMirror 49 = .ok (.getfield 112, 3) := by decide +kernel
theorem dX8_moveMirror_52 : decode cX8_moveMirror 52 = .ok (.iload_n 1, 1) := by decide +kernel
theorem dX8_moveMirror_53 : decode cX8_moveMirror 53 = .ok (.iload_n 2, 1) := by decide +kernel
theorem dX8_moveMirror_54 : decode cX8_moveMirror 54 = .ok (.invokevirtual 211, 3) := by decide +kernel
theorem dX8_moveMirror_57 : decode cX8_moveMirror 57 = .ok (.iload_n 3, 1) := by decide +kernel
theorem dX8_moveMirror_58 : decode cX8_moveMirror 58 = .ok (.ireturn, 1) := by decide +kernel
theorem dX8_passMinutes_0 : decode cX8_passMinutes 0 = .ok (.iload_n 1, 1) := by decide +kernel
theorem dX8_passMinutes_1 : decode cX8_passMinutes 1 = .ok (.invokestatic 214, 3) := by decide +kernel
theorem dX8_passMinutes_4 : decode cX8_passMinutes 4 = .ok (.aload_n 0, 1) := by decide +kernel
theorem dX8_passMinutes_5 : decode cX8_passMinutes 5 = .ok (.getfield 58, 3) := by decide +kernel
theorem dX8_passMinutes_8 : decode cX8_passMinutes 8 = .ok (.getfield 163, 3) := by decide +kernel
theorem dX8_passMinutes_11 : decode cX8_passMinutes 11 = .ok (.getfield 172, 3) := by decide +kernel
theorem dX8_passMinutes_14 : decode cX8_passMinutes 14 = .ok (.istore_n 2, 1) := by decide +kernel
theorem dX8_passMinutes_15 : decode cX8_passMinutes 15 = .ok (.aload_n 0, 1) := by decide +kernel
theorem dX8_passMinutes_16 : decode cX8_passMinutes 16 = .ok (.getfield 58, 3) := by decide +kernel
theorem dX8_passMinutes_19 : decode cX8_passMinutes 19 = .ok (.iload_n 1, 1) := by decide +kernel
theorem dX8_passMinutes_20 : decode cX8_passMinutes 20 = .ok (.invokevirtual 217, 3) := by decide +kernel
theorem dX8_passMinutes_23 : decode cX8_passMinutes 23 = .ok (.aload_n 0, 1) := by decide +kernel
theorem dX8_passMinutes_24 : decode cX8_passMinutes 24 = .ok (.getfield 58, 3) := by decide +kernel
theorem dX8_passMinutes_27 : decode cX8_passMinutes 27 = .ok (.getfield 163, 3) := by decide +kernel
theorem dX8_passMinutes_30 : decode cX8_passMinutes 30 = .ok (.getfield 172, 3) := by decide +kernel
theorem dX8_passMinutes_33 : decode cX8_passMinutes 33 = .ok (.iload_n 2, 1) := by decide +kernel
theorem dX8_passMinutes_34 : decode cX8_passMinutes 34 = .ok (.isub, 1) := by decide +kernel
theorem dX8_passMinutes_35 : decode cX8_passMinutes 35 = .ok (.ireturn, 1) := by decide +kernel
theorem dX8_lightAfter_0 : decode cX8_lightAfter 0 = .ok (.iload_n 1, 1) := by decide +kernel
theorem dX8_lightAfter_1 : decode cX8_lightAfter 1 = .ok (.invokestatic 214, 3) := by decide +kernel
theorem dX8_lightAfter_4 : decode cX8_lightAfter 4 = .ok (.aload_n 0, 1) := by decide +kernel
theorem dX8_lightAfter_5 : decode cX8_lightAfter 5 = .ok (.getfield 62, 3) := by decide +kernel
theorem dX8_lightAfter_8 : decode cX8_lightAfter 8 = .ok (.aload_n 0, 1) := by decide +kernel
theorem dX8_lightAfter_9 : decode cX8_lightAfter 9 = .ok (.getfield 58, 3) := by decide +kernel
theorem dX8_lightAfter_12 : decode cX8_lightAfter 12 = .ok (.invokevirtual 220, 3) := by decide +kernel
theorem dX8_lightAfter_15 : decode cX8_lightAfter 15 = .ok (.aload_n 0, 1) := by decide +kernel
theorem dX8_lightAfter_16 : decode cX8_lightAfter 16 = .ok (.getfield 62, 3) := by decide +kernel
theorem dX8_lightAfter_19 : decode cX8_lightAfter 19 = .ok (.iload_n 1, 1) := by decide +kernel
theorem dX8_lightAfter_20 : decode cX8_lightAfter 20 = .ok (.invokevirtual 217, 3) := by decide +kernel
theorem dX8_lightAfter_23 : decode cX8_lightAfter 23 = .ok (.aload_n 0, 1) := by decide +kernel
theorem dX8_lightAfter_24 : decode cX8_lightAfter 24 = .ok (.getfield 62, 3) := by decide +kernel
theorem dX8_lightAfter_27 : decode cX8_lightAfter 27 = .ok (.getfield 112, 3) := by decide +kernel
theorem dX8_lightAfter_30 : decode cX8_lightAfter 30 = .ok (.invokevirtual 127, 3) := by decide +kernel
theorem dX8_lightAfter_33 : decode cX8_lightAfter 33 = .ok (.ireturn, 1) := by decide +kernel
theorem dX8_minutesUntilSeen_0 : decode cX8_minutesUntilSeen 0 = .ok (.aload_n 0, 1) := by decide +kernel
theorem dX8_minutesUntilSeen_1 : decode cX8_minutesUntilSeen 1 = .ok (.getfield 62, 3) := by decide +kernel
theorem dX8_minutesUntilSeen_4 : decode cX8_minutesUntilSeen 4 = .ok (.aload_n 0, 1) := by decide +kernel
theorem dX8_minutesUntilSeen_5 : decode cX8_minutesUntilSeen 5 = .ok (.getfield 58, 3) := by decide +kernel
theorem dX8_minutesUntilSeen_8 : decode cX8_minutesUntilSeen 8 = .ok (.invokevirtual 220, 3) := by decide +kernel
theorem dX8_minutesUntilSeen_11 : decode cX8_minutesUntilSeen 11 = .ok (.iconst 0, 1) := by decide +kernel
theorem dX8_minutesUntilSeen_12 : decode cX8_minutesUntilSeen 12 = .ok (.istore_n 1, 1) := by decide +kernel
theorem dX8_minutesUntilSeen_13 : decode cX8_minutesUntilSeen 13 = .ok (.iload_n 1, 1) := by decide +kernel
theorem dX8_minutesUntilSeen_14 : decode cX8_minutesUntilSeen 14 = .ok (.bipush 100, 2) := by decide +kernel
theorem dX8_minutesUntilSeen_16 : decode cX8_minutesUntilSeen 16 = .ok (.if_icmp .gt 32, 3) := by decide +kernel
theorem dX8_minutesUntilSeen_19 : decode cX8_minutesUntilSeen 19 = .ok (.aload_n 0, 1) := by decide +kernel
theorem dX8_minutesUntilSeen_20 : decode cX8_minutesUntilSeen 20 = .ok (.getfield 62, 3) := by decide +kernel
theorem dX8_minutesUntilSeen_23 : decode cX8_minutesUntilSeen 23 = .ok (.getfield 112, 3) := by decide +kernel
theorem dX8_minutesUntilSeen_26 : decode cX8_minutesUntilSeen 26 = .ok (.invokevirtual 133, 3) := by decide +kernel
theorem dX8_minutesUntilSeen_29 : decode cX8_minutesUntilSeen 29 = .ok (.ifCond .eq 5, 3) := by decide +kernel
theorem dX8_minutesUntilSeen_32 : decode cX8_minutesUntilSeen 32 = .ok (.iload_n 1, 1) := by decide +kernel
theorem dX8_minutesUntilSeen_33 : decode cX8_minutesUntilSeen 33 = .ok (.ireturn, 1) := by decide +kernel
theorem dX8_minutesUntilSeen_34 : decode cX8_minutesUntilSeen 34 = .ok (.aload_n 0, 1) := by decide +kernel
theorem dX8_minutesUntilSeen_35 : decode cX8_minutesUntilSeen 35 = .ok (.getfield 62, 3) := by decide +kernel
theorem dX8_minutesUntilSeen_38 : decode cX8_minutesUntilSeen 38 = .ok (.iconst 1, 1) := by decide +kernel
theorem dX8_minutesUntilSeen_39 : decode cX8_minutesUntilSeen 39 = .ok (.invokevirtual 217, 3) := by decide +kernel
theorem dX8_minutesUntilSeen_42 : decode cX8_minutesUntilSeen 42 = .ok (.iinc 1 1, 3) := by decide +kernel
theorem dX8_minutesUntilSeen_45 : decode cX8_minutesUntilSeen 45 = .ok (.goto (-32), 3) := by decide +kernel
theorem dX8_minutesUntilSeen_48 : decode cX8_minutesUntilSeen 48 = .ok (.iconst (-1), 1) := by decide +kernel
theorem dX8_minutesUntilSeen_49 : decode cX8_minutesUntilSeen 49 = .ok (.ireturn, 1) := by decide +kernel
theorem dX8_minutesUntilDone_0 : decode cX8_minutesUntilDone 0 = .ok (.aload_n 0, 1) := by decide +kernel
theorem dX8_minutesUntilDone_1 : decode cX8_minutesUntilDone 1 = .ok (.iload_n 1, 1) := by decide +kernel
theorem dX8_minutesUntilDone_2 : decode cX8_minutesUntilDone 2 = .ok (.invokevirtual 175, 3) := by decide +kernel
theorem dX8_minutesUntilDone_5 : decode cX8_minutesUntilDone 5 = .ok (.aload_n 0, 1) := by decide +kernel
theorem dX8_minutesUntilDone_6 : decode cX8_minutesUntilDone 6 = .ok (.getfield 62, 3) := by decide +kernel
theorem dX8_minutesUntilDone_9 : decode cX8_minutesUntilDone 9 = .ok (.aload_n 0, 1) := by decide +kernel
theorem dX8_minutesUntilDone_10 : decode cX8_minutesUntilDone 10 = .ok (.getfield 58, 3) := by decide +kernel
theorem dX8_minutesUntilDone_13 : decode cX8_minutesUntilDone 13 = .ok (.invokevirtual 220, 3) := by decide +kernel
theorem dX8_minutesUntilDone_16 : decode cX8_minutesUntilDone 16 = .ok (.aload_n 0, 1) := by decide +kernel
theorem dX8_minutesUntilDone_17 : decode cX8_minutesUntilDone 17 = .ok (.getfield 58, 3) := by decide +kernel
theorem dX8_minutesUntilDone_20 : decode cX8_minutesUntilDone 20 = .ok (.getfield 163, 3) := by decide +kernel
theorem dX8_minutesUntilDone_23 : decode cX8_minutesUntilDone 23 = .ok (.getfield 172, 3) := by decide +kernel
theorem dX8_minutesUntilDone_26 : decode cX8_minutesUntilDone 26 = .ok (.iload_n 1, 1) := by decide +kernel
theorem dX8_minutesUntilDone_27 : decode cX8_minutesUntilDone 27 = .ok (.iadd, 1) := by decide +kernel
theorem dX8_minutesUntilDone_28 : decode cX8_minutesUntilDone 28 = .ok (.iconst 1, 1) := by decide +kernel
theorem dX8_minutesUntilDone_29 : decode cX8_minutesUntilDone 29 = .ok (.iadd, 1) := by decide +kernel
theorem dX8_minutesUntilDone_30 : decode cX8_minutesUntilDone 30 = .ok (.istore_n 2, 1) := by decide +kernel
theorem dX8_minutesUntilDone_31 : decode cX8_minutesUntilDone 31 = .ok (.iconst 1, 1) := by decide +kernel
theorem dX8_minutesUntilDone_32 : decode cX8_minutesUntilDone 32 = .ok (.istore_n 3, 1) := by decide +kernel
theorem dX8_minutesUntilDone_33 : decode cX8_minutesUntilDone 33 = .ok (.iload_n 3, 1) := by decide +kernel
theorem dX8_minutesUntilDone_34 : decode cX8_minutesUntilDone 34 = .ok (.sipush 300, 3) := by decide +kernel
theorem dX8_minutesUntilDone_37 : decode cX8_minutesUntilDone 37 = .ok (.if_icmp .gt 33, 3) := by decide +kernel
theorem dX8_minutesUntilDone_40 : decode cX8_minutesUntilDone 40 = .ok (.aload_n 0, 1) := by decide +kernel
theorem dX8_minutesUntilDone_41 : decode cX8_minutesUntilDone 41 = .ok (.getfield 62, 3) := by decide +kernel
theorem dX8_minutesUntilDone_44 : decode cX8_minutesUntilDone 44 = .ok (.iconst 1, 1) := by decide +kernel
theorem dX8_minutesUntilDone_45 : decode cX8_minutesUntilDone 45 = .ok (.invokevirtual 217, 3) := by decide +kernel
theorem dX8_minutesUntilDone_48 : decode cX8_minutesUntilDone 48 = .ok (.aload_n 0, 1) := by decide +kernel
theorem dX8_minutesUntilDone_49 : decode cX8_minutesUntilDone 49 = .ok (.getfield 62, 3) := by decide +kernel
theorem dX8_minutesUntilDone_52 : decode cX8_minutesUntilDone 52 = .ok (.getfield 163, 3) := by decide +kernel
theorem dX8_minutesUntilDone_55 : decode cX8_minutesUntilDone 55 = .ok (.getfield 172, 3) := by decide +kernel
theorem dX8_minutesUntilDone_58 : decode cX8_minutesUntilDone 58 = .ok (.iload_n 2, 1) := by decide +kernel
theorem dX8_minutesUntilDone_59 : decode cX8_minutesUntilDone 59 = .ok (.if_icmp .lt 5, 3) := by decide +kernel
theorem dX8_minutesUntilDone_62 : decode cX8_minutesUntilDone 62 = .ok (.iload_n 3, 1) := by decide +kernel
theorem dX8_minutesUntilDone_63 : decode cX8_minutesUntilDone 63 = .ok (.ireturn, 1) := by decide +kernel
theorem dX8_minutesUntilDone_64 : decode cX8_minutesUntilDone 64 = .ok (.iinc 3 1, 3) := by decide +kernel
theorem dX8_minutesUntilDone_67 : decode cX8_minutesUntilDone 67 = .ok (.goto (-34), 3) := by decide +kernel
theorem dX8_minutesUntilDone_70 : decode cX8_minutesUntilDone 70 = .ok (.iconst (-1), 1) := by decide +kernel
theorem dX8_minutesUntilDone_71 : decode cX8_minutesUntilDone 71 = .ok (.ireturn, 1) := by decide +kernel
theorem dX8_bestToClean_0 : decode cX8_bestToClean 0 = .ok (.iconst (-1), 1) := by decide +kernel
theorem dX8_bestToClean_1 : decode cX8_bestToClean 1 = .ok (.istore_n 1, 1) := by decide +kernel
theorem dX8_bestToClean_2 : decode cX8_bestToClean 2 = .ok (.aload_n 0, 1) := by decide +kernel
theorem dX8_bestToClean_3 : decode cX8_bestToClean 3 = .ok (.getfield 58, 3) := by decide +kernel
theorem dX8_bestToClean_6 : decode cX8_bestToClean 6 = .ok (.getfield 112, 3) := by decide +kernel
theorem dX8_bestToClean_9 : decode cX8_bestToClean 9 = .ok (.invokevirtual 127, 3) := by decide +kernel
theorem dX8_bestToClean_12 : decode cX8_bestToClean 12 = .ok (.istore_n 2, 1) := by decide +kernel
theorem dX8_bestToClean_13 : decode cX8_bestToClean 13 = .ok (.iconst 0, 1) := by decide +kernel
theorem dX8_bestToClean_14 : decode cX8_bestToClean 14 = .ok (.istore_n 3, 1) := by decide +kernel
theorem dX8_bestToClean_15 : decode cX8_bestToClean 15 = .ok (.iload_n 3, 1) := by decide +kernel
theorem dX8_bestToClean_16 : decode cX8_bestToClean 16 = .ok (.aload_n 0, 1) := by decide +kernel
theorem dX8_bestToClean_17 : decode cX8_bestToClean 17 = .ok (.getfield 58, 3) := by decide +kernel
theorem dX8_bestToClean_20 : decode cX8_bestToClean 20 = .ok (.getfield 112, 3) := by decide +kernel
theorem dX8_bestToClean_23 : decode cX8_bestToClean 23 = .ok (.getfield 116, 3) := by decide +kernel
theorem dX8_bestToClean_26 : decode cX8_bestToClean 26 = .ok (.if_icmp .ge 60, 3) := by decide +kernel
theorem dX8_bestToClean_29 : decode cX8_bestToClean 29 = .ok (.aload_n 0, 1) := by decide +kernel
theorem dX8_bestToClean_30 : decode cX8_bestToClean 30 = .ok (.getfield 62, 3) := by decide +kernel
theorem dX8_bestToClean_33 : decode cX8_bestToClean 33 = .ok (.getfield 112, 3) := by decide +kernel
theorem dX8_bestToClean_36 : decode cX8_bestToClean 36 = .ok (.aload_n 0, 1) := by decide +kernel
theorem dX8_bestToClean_37 : decode cX8_bestToClean 37 = .ok (.getfield 58, 3) := by decide +kernel
theorem dX8_bestToClean_40 : decode cX8_bestToClean 40 = .ok (.getfield 112, 3) := by decide +kernel
theorem dX8_bestToClean_43 : decode cX8_bestToClean 43 = .ok (.invokevirtual 224, 3) := by decide +kernel
theorem dX8_bestToClean_46 : decode cX8_bestToClean 46 = .ok (.aload_n 0, 1) := by decide +kernel
theorem dX8_bestToClean_47 : decode cX8_bestToClean 47 = .ok (.getfield 62, 3) := by decide +kernel
theorem dX8_bestToClean_50 : decode cX8_bestToClean 50 = .ok (.getfield 112, 3) := by decide +kernel
theorem dX8_bestToClean_53 : decode cX8_bestToClean 53 = .ok (.iload_n 3, 1) := by decide +kernel
theorem dX8_bestToClean_54 : decode cX8_bestToClean 54 = .ok (.invokevirtual 227, 3) := by decide +kernel
theorem dX8_bestToClean_57 : decode cX8_bestToClean 57 = .ok (.aload_n 0, 1) := by decide +kernel
theorem dX8_bestToClean_58 : decode cX8_bestToClean 58 = .ok (.getfield 62, 3) := by decide +kernel
theorem dX8_bestToClean_61 : decode cX8_bestToClean 61 = .ok (.getfield 112, 3) := by decide +kernel
theorem dX8_bestToClean_64 : decode cX8_bestToClean 64 = .ok (.invokevirtual 127, 3) := by decide +kernel
theorem dX8_bestToClean_67 : decode cX8_bestToClean 67 = .ok (.istore 4, 2) := by decide +kernel
theorem dX8_bestToClean_69 : decode cX8_bestToClean 69 = .ok (.iload 4, 2) := by decide +kernel
theorem dX8_bestToClean_71 : decode cX8_bestToClean 71 = .ok (.iload_n 2, 1) := by decide +kernel
theorem dX8_bestToClean_72 : decode cX8_bestToClean 72 = .ok (.if_icmp .le 8, 3) := by decide +kernel
theorem dX8_bestToClean_75 : decode cX8_bestToClean 75 = .ok (.iload 4, 2) := by decide +kernel
theorem dX8_bestToClean_77 : decode cX8_bestToClean 77 = .ok (.istore_n 2, 1) := by decide +kernel
theorem dX8_bestToClean_78 : decode cX8_bestToClean 78 = .ok (.iload_n 3, 1) := by decide +kernel
theorem dX8_bestToClean_79 : decode cX8_bestToClean 79 = .ok (.istore_n 1, 1) := by decide +kernel
theorem dX8_bestToClean_80 : decode cX8_bestToClean 80 = .ok (.iinc 3 1, 3) := by decide +kernel
theorem dX8_bestToClean_83 : decode cX8_bestToClean 83 = .ok (.goto (-68), 3) := by decide +kernel
theorem dX8_bestToClean_86 : decode cX8_bestToClean 86 = .ok (.iload_n 1, 1) := by decide +kernel
theorem dX8_bestToClean_87 : decode cX8_bestToClean 87 = .ok (.ireturn, 1) := by decide +kernel
theorem dX8_bestOffset_0 : decode cX8_bestOffset 0 = .ok (.aload_n 0, 1) := by decide +kernel
theorem dX8_bestOffset_1 : decode cX8_bestOffset 1 = .ok (.iload_n 1, 1) := by decide +kernel
theorem dX8_bestOffset_2 : decode cX8_bestOffset 2 = .ok (.invokevirtual 142, 3) := by decide +kernel
theorem dX8_bestOffset_5 : decode cX8_bestOffset 5 = .ok (.aload_n 0, 1) := by decide +kernel
theorem dX8_bestOffset_6 : decode cX8_bestOffset 6 = .ok (.getfield 62, 3) := by decide +kernel
theorem dX8_bestOffset_9 : decode cX8_bestOffset 9 = .ok (.getfield 112, 3) := by decide +kernel
theorem dX8_bestOffset_12 : decode cX8_bestOffset 12 = .ok (.aload_n 0, 1) := by decide +kernel
theorem dX8_bestOffset_13 : decode cX8_bestOffset 13 = .ok (.getfield 58, 3) := by decide +kernel
theorem dX8_bestOffset_16 : decode cX8_bestOffset 16 = .ok (.getfield 112, 3) := by decide +kernel
theorem dX8_bestOffset_19 : decode cX8_bestOffset 19 = .ok (.invokevirtual 224, 3) := by decide +kernel
theorem dX8_bestOffset_22 : decode cX8_bestOffset 22 = .ok (.iconst 0, 1) := by decide +kernel
theorem dX8_bestOffset_23 : decode cX8_bestOffset 23 = .ok (.istore_n 2, 1) := by decide +kernel
theorem dX8_bestOffset_24 : decode cX8_bestOffset 24 = .ok (.aload_n 0, 1) := by decide +kernel
theorem dX8_bestOffset_25 : decode cX8_bestOffset 25 = .ok (.iload_n 1, 1) := by decide +kernel
theorem dX8_bestOffset_26 : decode cX8_bestOffset 26 = .ok (.iconst 0, 1) := by decide +kernel
theorem dX8_bestOffset_27 : decode cX8_bestOffset 27 = .ok (.invokevirtual 230, 3) := by decide +kernel
theorem dX8_bestOffset_30 : decode cX8_bestOffset 30 = .ok (.istore_n 3, 1) := by decide +kernel
theorem dX8_bestOffset_31 : decode cX8_bestOffset 31 = .ok (.iconst 1, 1) := by decide +kernel
theorem dX8_bestOffset_32 : decode cX8_bestOffset 32 = .ok (.istore 4, 2) := by decide +kernel
theorem dX8_bestOffset_34 : decode cX8_bestOffset 34 = .ok (.iload 4, 2) := by decide +kernel
theorem dX8_bestOffset_36 : decode cX8_bestOffset 36 = .ok (.bipush 90, 2) := by decide +kernel
theorem dX8_bestOffset_38 : decode cX8_bestOffset 38 = .ok (.if_icmp .gt 53, 3) := by decide +kernel
theorem dX8_bestOffset_41 : decode cX8_bestOffset 41 = .ok (.aload_n 0, 1) := by decide +kernel
theorem dX8_bestOffset_42 : decode cX8_bestOffset 42 = .ok (.iload_n 1, 1) := by decide +kernel
theorem dX8_bestOffset_43 : decode cX8_bestOffset 43 = .ok (.iload 4, 2) := by decide +kernel
theorem dX8_bestOffset_45 : decode cX8_bestOffset 45 = .ok (.invokevirtual 230, 3) := by decide +kernel
theorem dX8_bestOffset_48 : decode cX8_bestOffset 48 = .ok (.istore 5, 2) := by decide +kernel
theorem dX8_bestOffset_50 : decode cX8_bestOffset 50 = .ok (.iload 5, 2) := by decide +kernel
theorem dX8_bestOffset_52 : decode cX8_bestOffset 52 = .ok (.iload_n 3, 1) := by decide +kernel
theorem dX8_bestOffset_53 : decode cX8_bestOffset 53 = .ok (.if_icmp .le 9, 3) := by decide +kernel
theorem dX8_bestOffset_56 : decode cX8_bestOffset 56 = .ok (.iload 5, 2) := by decide +kernel
theorem dX8_bestOffset_58 : decode cX8_bestOffset 58 = .ok (.istore_n 3, 1) := by decide +kernel
theorem dX8_bestOffset_59 : decode cX8_bestOffset 59 = .ok (.iload 4, 2) := by decide +kernel
theorem dX8_bestOffset_61 : decode cX8_bestOffset 61 = .ok (.istore_n 2, 1) := by decide +kernel
theorem dX8_bestOffset_62 : decode cX8_bestOffset 62 = .ok (.aload_n 0, 1) := by decide +kernel
theorem dX8_bestOffset_63 : decode cX8_bestOffset 63 = .ok (.iload_n 1, 1) := by decide +kernel
theorem dX8_bestOffset_64 : decode cX8_bestOffset 64 = .ok (.iload 4, 2) := by decide +kernel
theorem dX8_bestOffset_66 : decode cX8_bestOffset 66 = .ok (.ineg, 1) := by decide +kernel
theorem dX8_bestOffset_67 : decode cX8_bestOffset 67 = .ok (.invokevirtual 230, 3) := by decide +kernel
theorem dX8_bestOffset_70 : decode cX8_bestOffset 70 = .ok (.istore 6, 2) := by decide +kernel
theorem dX8_bestOffset_72 : decode cX8_bestOffset 72 = .ok (.iload 6, 2) := by decide +kernel
theorem dX8_bestOffset_74 : decode cX8_bestOffset 74 = .ok (.iload_n 3, 1) := by decide +kernel
theorem dX8_bestOffset_75 : decode cX8_bestOffset 75 = .ok (.if_icmp .le 10, 3) := by decide +kernel
theorem dX8_bestOffset_78 : decode cX8_bestOffset 78 = .ok (.iload 6, 2) := by decide +kernel
theorem dX8_bestOffset_80 : decode cX8_bestOffset 80 = .ok (.istore_n 3, 1) := by decide +kernel
theorem dX8_bestOffset_81 : decode cX8_bestOffset 81 = .ok (.iload 4, 2) := by decide +kernel
theorem dX8_bestOffset_83 : decode cX8_bestOffset 83 = .ok (.ineg, 1) := by decide +kernel
theorem dX8_bestOffset_84 : decode cX8_bestOffset 84 = .ok (.istore_n 2, 1) := by decide +kernel
theorem dX8_bestOffset_85 : decode cX8_bestOffset 85 = .ok (.iinc 4 1, 3) := by decide +kernel
theorem dX8_bestOffset_88 : decode cX8_bestOffset 88 = .ok (.goto (-54), 3) := by decide +kernel
theorem dX8_bestOffset_91 : decode cX8_bestOffset 91 = .ok (.iload_n 2, 1) := by decide +kernel
theorem dX8_bestOffset_92 : decode cX8_bestOffset 92 = .ok (.ireturn, 1) := by decide +kernel
theorem dX8_meanClarity_0 : decode cX8_meanClarity 0 = .ok (.aload_n 0, 1) := by decide +kernel
theorem dX8_meanClarity_1 : decode cX8_meanClarity 1 = .ok (.getfield 58, 3) := by decide +kernel
theorem dX8_meanClarity_4 : decode cX8_meanClarity 4 = .ok (.getfield 112, 3) := by decide +kernel
theorem dX8_meanClarity_7 : decode cX8_meanClarity 7 = .ok (.getfield 116, 3) := by decide +kernel
theorem dX8_meanClarity_10 : decode cX8_meanClarity 10 = .ok (.istore_n 1, 1) := by decide +kernel
theorem dX8_meanClarity_11 : decode cX8_meanClarity 11 = .ok (.iload_n 1, 1) := by decide +kernel
theorem dX8_meanClarity_12 : decode cX8_meanClarity 12 = .ok (.ifCond .ne 5, 3) := by decide +kernel
theorem dX8_meanClarity_15 : decode cX8_meanClarity 15 = .ok (.dconst 0, 1) := by decide +kernel
theorem dX8_meanClarity_16 : decode cX8_meanClarity 16 = .ok (.dreturn, 1) := by decide +kernel
theorem dX8_meanClarity_17 : decode cX8_meanClarity 17 = .ok (.iconst 0, 1) := by decide +kernel
theorem dX8_meanClarity_18 : decode cX8_meanClarity 18 = .ok (.istore_n 2, 1) := by decide +kernel
theorem dX8_meanClarity_19 : decode cX8_meanClarity 19 = .ok (.iconst 0, 1) := by decide +kernel
theorem dX8_meanClarity_20 : decode cX8_meanClarity 20 = .ok (.istore_n 3, 1) := by decide +kernel
theorem dX8_meanClarity_21 : decode cX8_meanClarity 21 = .ok (.iload_n 3, 1) := by decide +kernel
theorem dX8_meanClarity_22 : decode cX8_meanClarity 22 = .ok (.iload_n 1, 1) := by decide +kernel
theorem dX8_meanClarity_23 : decode cX8_meanClarity 23 = .ok (.if_icmp .ge 26, 3) := by decide +kernel
theorem dX8_meanClarity_26 : decode cX8_meanClarity 26 = .ok (.iload_n 2, 1) := by decide +kernel
theorem dX8_meanClarity_27 : decode cX8_meanClarity 27 = .ok (.aload_n 0, 1) := by decide +kernel
theorem dX8_meanClarity_28 : decode cX8_meanClarity 28 = .ok (.getfield 58, 3) := by decide +kernel
theorem dX8_meanClarity_31 : decode cX8_meanClarity 31 = .ok (.getfield 112, 3) := by decide +kernel
theorem dX8_meanClarity_34 : decode cX8_meanClarity 34 = .ok (.sipush 129, 3) := by decide +kernel
theorem dX8_meanClarity_37 : decode cX8_meanClarity 37 = .ok (.iload_n 3, 1) := by decide +kernel
theorem dX8_meanClarity_38 : decode cX8_meanClarity 38 = .ok (.invokevirtual 145, 3) := by decide +kernel
theorem dX8_meanClarity_41 : decode cX8_meanClarity 41 = .ok (.iadd, 1) := by decide +kernel
theorem dX8_meanClarity_42 : decode cX8_meanClarity 42 = .ok (.istore_n 2, 1) := by decide +kernel
theorem dX8_meanClarity_43 : decode cX8_meanClarity 43 = .ok (.iinc 3 1, 3) := by decide +kernel
theorem dX8_meanClarity_46 : decode cX8_meanClarity 46 = .ok (.goto (-25), 3) := by decide +kernel
theorem dX8_meanClarity_49 : decode cX8_meanClarity 49 = .ok (.iload_n 2, 1) := by decide +kernel
theorem dX8_meanClarity_50 : decode cX8_meanClarity 50 = .ok (.i2d, 1) := by decide +kernel
theorem dX8_meanClarity_51 : decode cX8_meanClarity 51 = .ok (.iload_n 1, 1) := by decide +kernel
theorem dX8_meanClarity_52 : decode cX8_meanClarity 52 = .ok (.i2d, 1) := by decide +kernel
theorem dX8_meanClarity_53 : decode cX8_meanClarity 53 = .ok (.ddiv, 1) := by decide +kernel
theorem dX8_meanClarity_54 : decode cX8_meanClarity 54 = .ok (.dreturn, 1) := by decide +kernel
theorem dX8_digest_0 : decode cX8_digest 0 = .ok (.ldc2_w 233, 3) := by decide +kernel
theorem dX8_digest_3 : decode cX8_digest 3 = .ok (.lstore_n 1, 1) := by decide +kernel
theorem dX8_digest_4 : decode cX8_digest 4 = .ok (.lload_n 1, 1) := by decide +kernel
theorem dX8_digest_5 : decode cX8_digest 5 = .ok (.ldc2_w 235, 3) := by decide +kernel
theorem dX8_digest_8 : decode cX8_digest 8 = .ok (.lmul, 1) := by decide +kernel
theorem dX8_digest_9 : decode cX8_digest 9 = .ok (.aload_n 0, 1) := by decide +kernel
theorem dX8_digest_10 : decode cX8_digest 10 = .ok (.invokevirtual 237, 3) := by decide +kernel
theorem dX8_digest_13 : decode cX8_digest 13 = .ok (.i2l, 1) := by decide +kernel
theorem dX8_digest_14 : decode cX8_digest 14 = .ok (.ladd, 1) := by decide +kernel
theorem dX8_digest_15 : decode cX8_digest 15 = .ok (.lstore_n 1, 1) := by decide +kernel
theorem dX8_digest_16 : decode cX8_digest 16 = .ok (.lload_n 1, 1) := by decide +kernel
theorem dX8_digest_17 : decode cX8_digest 17 = .ok (.ldc2_w 235, 3) := by decide +kernel
theorem dX8_digest_20 : decode cX8_digest 20 = .ok (.lmul, 1) := by decide +kernel
theorem dX8_digest_21 : decode cX8_digest 21 = .ok (.aload_n 0, 1) := by decide +kernel
theorem dX8_digest_22 : decode cX8_digest 22 = .ok (.invokevirtual 240, 3) := by decide +kernel
theorem dX8_digest_25 : decode cX8_digest 25 = .ok (.i2l, 1) := by decide +kernel
theorem dX8_digest_26 : decode cX8_digest 26 = .ok (.ladd, 1) := by decide +kernel
theorem dX8_digest_27 : decode cX8_digest 27 = .ok (.lstore_n 1, 1) := by decide +kernel
theorem dX8_digest_28 : decode cX8_digest 28 = .ok (.lload_n 1, 1) := by decide +kernel
theorem dX8_digest_29 : decode cX8_digest 29 = .ok (.ldc2_w 235, 3) := by decide +kernel
theorem dX8_digest_32 : decode cX8_digest 32 = .ok (.lmul, 1) := by decide +kernel
theorem dX8_digest_33 : decode cX8_digest 33 = .ok (.aload_n 0, 1) := by decide +kernel
theorem dX8_digest_34 : decode cX8_digest 34 = .ok (.invokevirtual 242, 3) := by decide +kernel
theorem dX8_digest_37 : decode cX8_digest 37 = .ok (.i2l, 1) := by decide +kernel
theorem dX8_digest_38 : decode cX8_digest 38 = .ok (.ladd, 1) := by decide +kernel
theorem dX8_digest_39 : decode cX8_digest 39 = .ok (.lstore_n 1, 1) := by decide +kernel
theorem dX8_digest_40 : decode cX8_digest 40 = .ok (.lload_n 1, 1) := by decide +kernel
theorem dX8_digest_41 : decode cX8_digest 41 = .ok (.ldc2_w 235, 3) := by decide +kernel
theorem dX8_digest_44 : decode cX8_digest 44 = .ok (.lmul, 1) := by decide +kernel
theorem dX8_digest_45 : decode cX8_digest 45 = .ok (.aload_n 0, 1) := by decide +kernel
theorem dX8_digest_46 : decode cX8_digest 46 = .ok (.invokevirtual 245, 3) := by decide +kernel
theorem dX8_digest_49 : decode cX8_digest 49 = .ok (.i2l, 1) := by decide +kernel
theorem dX8_digest_50 : decode cX8_digest 50 = .ok (.ladd, 1) := by decide +kernel
theorem dX8_digest_51 : decode cX8_digest 51 = .ok (.lstore_n 1, 1) := by decide +kernel
theorem dX8_digest_52 : decode cX8_digest 52 = .ok (.lload_n 1, 1) := by decide +kernel
theorem dX8_digest_53 : decode cX8_digest 53 = .ok (.ldc2_w 235, 3) := by decide +kernel
theorem dX8_digest_56 : decode cX8_digest 56 = .ok (.lmul, 1) := by decide +kernel
theorem dX8_digest_57 : decode cX8_digest 57 = .ok (.aload_n 0, 1) := by decide +kernel
theorem dX8_digest_58 : decode cX8_digest 58 = .ok (.invokevirtual 248, 3) := by decide +kernel
theorem dX8_digest_61 : decode cX8_digest 61 = .ok (.i2l, 1) := by decide +kernel
theorem dX8_digest_62 : decode cX8_digest 62 = .ok (.ladd, 1) := by decide +kernel
theorem dX8_digest_63 : decode cX8_digest 63 = .ok (.lstore_n 1, 1) := by decide +kernel
theorem dX8_digest_64 : decode cX8_digest 64 = .ok (.lload_n 1, 1) := by decide +kernel
theorem dX8_digest_65 : decode cX8_digest 65 = .ok (.ldc2_w 235, 3) := by decide +kernel
theorem dX8_digest_68 : decode cX8_digest 68 = .ok (.lmul, 1) := by decide +kernel
theorem dX8_digest_69 : decode cX8_digest 69 = .ok (.aload_n 0, 1) := by decide +kernel
theorem dX8_digest_70 : decode cX8_digest 70 = .ok (.invokevirtual 251, 3) := by decide +kernel
theorem dX8_digest_73 : decode cX8_digest 73 = .ok (.i2l, 1) := by decide +kernel
theorem dX8_digest_74 : decode cX8_digest 74 = .ok (.ladd, 1) := by decide +kernel
theorem dX8_digest_75 : decode cX8_digest 75 = .ok (.lstore_n 1, 1) := by decide +kernel
theorem dX8_digest_76 : decode cX8_digest 76 = .ok (.lload_n 1, 1) := by decide +kernel
theorem dX8_digest_77 : decode cX8_digest 77 = .ok (.ldc2_w 235, 3) := by decide +kernel
theorem dX8_digest_80 : decode cX8_digest 80 = .ok (.lmul, 1) := by decide +kernel
theorem dX8_digest_81 : decode cX8_digest 81 = .ok (.aload_n 0, 1) := by decide +kernel
theorem dX8_digest_82 : decode cX8_digest 82 = .ok (.invokevirtual 254, 3) := by decide +kernel
theorem dX8_digest_85 : decode cX8_digest 85 = .ok (.ifCond .eq 7, 3) := by decide +kernel
theorem dX8_digest_88 : decode cX8_digest 88 = .ok (.iconst 1, 1) := by decide +kernel
theorem dX8_digest_89 : decode cX8_digest 89 = .ok (.goto 4, 3) := by decide +kernel
theorem dX8_digest_92 : decode cX8_digest 92 = .ok (.iconst 0, 1) := by decide +kernel
theorem dX8_digest_93 : decode cX8_digest 93 = .ok (.i2l, 1) := by decide +kernel
theorem dX8_digest_94 : decode cX8_digest 94 = .ok (.ladd, 1) := by decide +kernel
theorem dX8_digest_95 : decode cX8_digest 95 = .ok (.lstore_n 1, 1) := by decide +kernel
theorem dX8_digest_96 : decode cX8_digest 96 = .ok (.iconst 0, 1) := by decide +kernel
theorem dX8_digest_97 : decode cX8_digest 97 = .ok (.istore_n 3, 1) := by decide +kernel
theorem dX8_digest_98 : decode cX8_digest 98 = .ok (.iload_n 3, 1) := by decide +kernel
theorem dX8_digest_99 : decode cX8_digest 99 = .ok (.aload_n 0, 1) := by decide +kernel
theorem dX8_digest_100 : decode cX8_digest 100 = .ok (.getfield 58, 3) := by decide +kernel
theorem dX8_digest_103 : decode cX8_digest 103 = .ok (.getfield 112, 3) := by decide +kernel
theorem dX8_digest_106 : decode cX8_digest 106 = .ok (.getfield 116, 3) := by decide +kernel
theorem dX8_digest_109 : decode cX8_digest 109 = .ok (.if_icmp .ge 16, 3) := by decide +kernel
theorem dX8_digest_112 : decode cX8_digest 112 = .ok (.aload_n 0, 1) := by decide +kernel
theorem dX8_digest_113 : decode cX8_digest 113 = .ok (.lload_n 1, 1) := by decide +kernel
theorem dX8_digest_114 : decode cX8_digest 114 = .ok (.iload_n 3, 1) := by decide +kernel
theorem dX8_digest_115 : decode cX8_digest 115 = .ok (.invokevirtual 257, 3) := by decide +kernel
theorem dX8_digest_118 : decode cX8_digest 118 = .ok (.lstore_n 1, 1) := by decide +kernel
theorem dX8_digest_119 : decode cX8_digest 119 = .ok (.iinc 3 1, 3) := by decide +kernel
theorem dX8_digest_122 : decode cX8_digest 122 = .ok (.goto (-24), 3) := by decide +kernel
theorem dX8_digest_125 : decode cX8_digest 125 = .ok (.lload_n 1, 1) := by decide +kernel
theorem dX8_digest_126 : decode cX8_digest 126 = .ok (.ldc2_w 235, 3) := by decide +kernel
theorem dX8_digest_129 : decode cX8_digest 129 = .ok (.lmul, 1) := by decide +kernel
theorem dX8_digest_130 : decode cX8_digest 130 = .ok (.aload_n 0, 1) := by decide +kernel
theorem dX8_digest_131 : decode cX8_digest 131 = .ok (.invokevirtual 261, 3) := by decide +kernel
theorem dX8_digest_134 : decode cX8_digest 134 = .ok (.i2l, 1) := by decide +kernel
theorem dX8_digest_135 : decode cX8_digest 135 = .ok (.ladd, 1) := by decide +kernel
theorem dX8_digest_136 : decode cX8_digest 136 = .ok (.lstore_n 1, 1) := by decide +kernel
theorem dX8_digest_137 : decode cX8_digest 137 = .ok (.lload_n 1, 1) := by decide +kernel
theorem dX8_digest_138 : decode cX8_digest 138 = .ok (.ldc2_w 235, 3) := by decide +kernel
theorem dX8_digest_141 : decode cX8_digest 141 = .ok (.lmul, 1) := by decide +kernel
theorem dX8_digest_142 : decode cX8_digest 142 = .ok (.aload_n 0, 1) := by decide +kernel
theorem dX8_digest_143 : decode cX8_digest 143 = .ok (.invokevirtual 264, 3) := by decide +kernel
theorem dX8_digest_146 : decode cX8_digest 146 = .ok (.i2l, 1) := by decide +kernel
theorem dX8_digest_147 : decode cX8_digest 147 = .ok (.ladd, 1) := by decide +kernel
theorem dX8_digest_148 : decode cX8_digest 148 = .ok (.lstore_n 1, 1) := by decide +kernel
theorem dX8_digest_149 : decode cX8_digest 149 = .ok (.lload_n 1, 1) := by decide +kernel
theorem dX8_digest_150 : decode cX8_digest 150 = .ok (.ldc2_w 235, 3) := by decide +kernel
theorem dX8_digest_153 : decode cX8_digest 153 = .ok (.lmul, 1) := by decide +kernel
theorem dX8_digest_154 : decode cX8_digest 154 = .ok (.aload_n 0, 1) := by decide +kernel
theorem dX8_digest_155 : decode cX8_digest 155 = .ok (.invokevirtual 267, 3) := by decide +kernel
theorem dX8_digest_158 : decode cX8_digest 158 = .ok (.i2l, 1) := by decide +kernel
theorem dX8_digest_159 : decode cX8_digest 159 = .ok (.ladd, 1) := by decide +kernel
theorem dX8_digest_160 : decode cX8_digest 160 = .ok (.lstore_n 1, 1) := by decide +kernel
theorem dX8_digest_161 : decode cX8_digest 161 = .ok (.iconst 0, 1) := by decide +kernel
theorem dX8_digest_162 : decode cX8_digest 162 = .ok (.istore_n 3, 1) := by decide +kernel
theorem dX8_digest_163 : decode cX8_digest 163 = .ok (.iload_n 3, 1) := by decide +kernel
theorem dX8_digest_164 : decode cX8_digest 164 = .ok (.aload_n 0, 1) := by decide +kernel
theorem dX8_digest_165 : decode cX8_digest 165 = .ok (.getfield 58, 3) := by decide +kernel
theorem dX8_digest_168 : decode cX8_digest 168 = .ok (.getfield 163, 3) := by decide +kernel
theorem dX8_digest_171 : decode cX8_digest 171 = .ok (.getfield 167, 3) := by decide +kernel
theorem dX8_digest_174 : decode cX8_digest 174 = .ok (.if_icmp .ge 47, 3) := by decide +kernel
theorem dX8_digest_177 : decode cX8_digest 177 = .ok (.lload_n 1, 1) := by decide +kernel
theorem dX8_digest_178 : decode cX8_digest 178 = .ok (.ldc2_w 235, 3) := by decide +kernel
theorem dX8_digest_181 : decode cX8_digest 181 = .ok (.lmul, 1) := by decide +kernel
theorem dX8_digest_182 : decode cX8_digest 182 = .ok (.aload_n 0, 1) := by decide +kernel
theorem dX8_digest_183 : decode cX8_digest 183 = .ok (.getfield 58, 3) := by decide +kernel
theorem dX8_digest_186 : decode cX8_digest 186 = .ok (.getfield 163, 3) := by decide +kernel
theorem dX8_digest_189 : decode cX8_digest 189 = .ok (.iload_n 3, 1) := by decide +kernel
theorem dX8_digest_190 : decode cX8_digest 190 = .ok (.invokevirtual 178, 3) := by decide +kernel
theorem dX8_digest_193 : decode cX8_digest 193 = .ok (.i2l, 1) := by decide +kernel
theorem dX8_digest_194 : decode cX8_digest 194 = .ok (.ladd, 1) := by decide +kernel
theorem dX8_digest_195 : decode cX8_digest 195 = .ok (.lstore_n 1, 1) := by decide +kernel
theorem dX8_digest_196 : decode cX8_digest 196 = .ok (.lload_n 1, 1) := by decide +kernel
theorem dX8_digest_197 : decode cX8_digest 197 = .ok (.ldc2_w 235, 3) := by decide +kernel
theorem dX8_digest_200 : decode cX8_digest 200 = .ok (.lmul, 1) := by decide +kernel
theorem dX8_digest_201 : decode cX8_digest 201 = .ok (.aload_n 0, 1) := by decide +kernel
theorem dX8_digest_202 : decode cX8_digest 202 = .ok (.getfield 58, 3) := by decide +kernel
theorem dX8_digest_205 : decode cX8_digest 205 = .ok (.getfield 163, 3) := by decide +kernel
theorem dX8_digest_208 : decode cX8_digest 208 = .ok (.iload_n 3, 1) := by decide +kernel
theorem dX8_digest_209 : decode cX8_digest 209 = .ok (.invokevirtual 181, 3) := by decide +kernel
theorem dX8_digest_212 : decode cX8_digest 212 = .ok (.i2l, 1) := by decide +kernel
theorem dX8_digest_213 : decode cX8_digest 213 = .ok (.ladd, 1) := by decide +kernel
theorem dX8_digest_214 : decode cX8_digest 214 = .ok (.lstore_n 1, 1) := by decide +kernel
theorem dX8_digest_215 : decode cX8_digest 215 = .ok (.iinc 3 1, 3) := by decide +kernel
theorem dX8_digest_218 : decode cX8_digest 218 = .ok (.goto (-55), 3) := by decide +kernel
theorem dX8_digest_221 : decode cX8_digest 221 = .ok (.lload_n 1, 1) := by decide +kernel
theorem dX8_digest_222 : decode cX8_digest 222 = .ok (.lreturn, 1) := by decide +kernel
theorem dX8_digestOfMirror_0 : decode cX8_digestOfMirror 0 = .ok (.lload_n 1, 1) := by decide +kernel
theorem dX8_digestOfMirror_1 : decode cX8_digestOfMirror 1 = .ok (.lstore 4, 2) := by decide +kernel
theorem dX8_digestOfMirror_3 : decode cX8_digestOfMirror 3 = .ok (.lload 4, 2) := by decide +kernel
theorem dX8_digestOfMirror_5 : decode cX8_digestOfMirror 5 = .ok (.ldc2_w 235, 3) := by decide +kernel
theorem dX8_digestOfMirror_8 : decode cX8_digestOfMirror 8 = .ok (.lmul, 1) := by decide +kernel
theorem dX8_digestOfMirror_9 : decode cX8_digestOfMirror 9 = .ok (.aload_n 0, 1) := by decide +kernel
theorem dX8_digestOfMirror_10 : decode cX8_digestOfMirror 10 = .ok (.getfield 58, 3) := by decide +kernel
theorem dX8_digestOfMirror_13 : decode cX8_digestOfMirror 13 = .ok (.getfield 112, 3) := by decide +kernel
theorem dX8_digestOfMirror_16 : decode cX8_digestOfMirror 16 = .ok (.sipush 129, 3) := by decide +kernel
theorem dX8_digestOfMirror_19 : decode cX8_digestOfMirror 19 = .ok (.iload_n 3, 1) := by decide +kernel
theorem dX8_digestOfMirror_20 : decode cX8_digestOfMirror 20 = .ok (.invokevirtual 145, 3) := by decide +kernel
theorem dX8_digestOfMirror_23 : decode cX8_digestOfMirror 23 = .ok (.i2l, 1) := by decide +kernel
theorem dX8_digestOfMirror_24 : decode cX8_digestOfMirror 24 = .ok (.ladd, 1) := by decide +kernel
theorem dX8_digestOfMirror_25 : decode cX8_digestOfMirror 25 = .ok (.lstore 4, 2) := by decide +kernel
theorem dX8_digestOfMirror_27 : decode cX8_digestOfMirror 27 = .ok (.lload 4, 2) := by decide +kernel
theorem dX8_digestOfMirror_29 : decode cX8_digestOfMirror 29 = .ok (.ldc2_w 235, 3) := by decide +kernel
theorem dX8_digestOfMirror_32 : decode cX8_digestOfMirror 32 = .ok (.lmul, 1) := by decide +kernel
theorem dX8_digestOfMirror_33 : decode cX8_digestOfMirror 33 = .ok (.aload_n 0, 1) := by decide +kernel
theorem dX8_digestOfMirror_34 : decode cX8_digestOfMirror 34 = .ok (.getfield 58, 3) := by decide +kernel
theorem dX8_digestOfMirror_37 : decode cX8_digestOfMirror 37 = .ok (.getfield 112, 3) := by decide +kernel
theorem dX8_digestOfMirror_40 : decode cX8_digestOfMirror 40 = .ok (.sipush 145, 3) := by decide +kernel
theorem dX8_digestOfMirror_43 : decode cX8_digestOfMirror 43 = .ok (.iload_n 3, 1) := by decide +kernel
theorem dX8_digestOfMirror_44 : decode cX8_digestOfMirror 44 = .ok (.invokevirtual 145, 3) := by decide +kernel
theorem dX8_digestOfMirror_47 : decode cX8_digestOfMirror 47 = .ok (.i2l, 1) := by decide +kernel
theorem dX8_digestOfMirror_48 : decode cX8_digestOfMirror 48 = .ok (.ladd, 1) := by decide +kernel
theorem dX8_digestOfMirror_49 : decode cX8_digestOfMirror 49 = .ok (.lstore 4, 2) := by decide +kernel
theorem dX8_digestOfMirror_51 : decode cX8_digestOfMirror 51 = .ok (.lload 4, 2) := by decide +kernel
theorem dX8_digestOfMirror_53 : decode cX8_digestOfMirror 53 = .ok (.ldc2_w 235, 3) := by decide +kernel
theorem dX8_digestOfMirror_56 : decode cX8_digestOfMirror 56 = .ok (.lmul, 1) := by decide +kernel
theorem dX8_digestOfMirror_57 : decode cX8_digestOfMirror 57 = .ok (.aload_n 0, 1) := by decide +kernel
theorem dX8_digestOfMirror_58 : decode cX8_digestOfMirror 58 = .ok (.getfield 58, 3) := by decide +kernel
theorem dX8_digestOfMirror_61 : decode cX8_digestOfMirror 61 = .ok (.getfield 112, 3) := by decide +kernel
theorem dX8_digestOfMirror_64 : decode cX8_digestOfMirror 64 = .ok (.sipush 130, 3) := by decide +kernel
theorem dX8_digestOfMirror_67 : decode cX8_digestOfMirror 67 = .ok (.iload_n 3, 1) := by decide +kernel
theorem dX8_digestOfMirror_68 : decode cX8_digestOfMirror 68 = .ok (.invokevirtual 145, 3) := by decide +kernel
theorem dX8_digestOfMirror_71 : decode cX8_digestOfMirror 71 = .ok (.i2l, 1) := by decide +kernel
theorem dX8_digestOfMirror_72 : decode cX8_digestOfMirror 72 = .ok (.ladd, 1) := by decide +kernel
theorem dX8_digestOfMirror_73 : decode cX8_digestOfMirror 73 = .ok (.lstore 4, 2) := by decide +kernel
theorem dX8_digestOfMirror_75 : decode cX8_digestOfMirror 75 = .ok (.lload 4, 2) := by decide +kernel
theorem dX8_digestOfMirror_77 : decode cX8_digestOfMirror 77 = .ok (.ldc2_w 235, 3) := by decide +kernel
theorem dX8_digestOfMirror_80 : decode cX8_digestOfMirror 80 = .ok (.lmul, 1) := by decide +kernel
theorem dX8_digestOfMirror_81 : decode cX8_digestOfMirror 81 = .ok (.aload_n 0, 1) := by decide +kernel
theorem dX8_digestOfMirror_82 : decode cX8_digestOfMirror 82 = .ok (.getfield 58, 3) := by decide +kernel
theorem dX8_digestOfMirror_85 : decode cX8_digestOfMirror 85 = .ok (.getfield 112, 3) := by decide +kernel
theorem dX8_digestOfMirror_88 : decode cX8_digestOfMirror 88 = .ok (.iload_n 3, 1) := by decide +kernel
theorem dX8_digestOfMirror_89 : decode cX8_digestOfMirror 89 = .ok (.invokevirtual 149, 3) := by decide +kernel
theorem dX8_digestOfMirror_92 : decode cX8_digestOfMirror 92 = .ok (.i2l, 1) := by decide +kernel
theorem dX8_digestOfMirror_93 : decode cX8_digestOfMirror 93 = .ok (.ladd, 1) := by decide +kernel
theorem dX8_digestOfMirror_94 : decode cX8_digestOfMirror 94 = .ok (.lstore 4, 2) := by decide +kernel
theorem dX8_digestOfMirror_96 : decode cX8_digestOfMirror 96 = .ok (.lload 4, 2) := by decide +kernel
theorem dX8_digestOfMirror_98 : decode cX8_digestOfMirror 98 = .ok (.ldc2_w 235, 3) := by decide +kernel
theorem dX8_digestOfMirror_101 : decode cX8_digestOfMirror 101 = .ok (.lmul, 1) := by decide +kernel
theorem dX8_digestOfMirror_102 : decode cX8_digestOfMirror 102 = .ok (.aload_n 0, 1) := by decide +kernel
theorem dX8_digestOfMirror_103 : decode cX8_digestOfMirror 103 = .ok (.getfield 58, 3) := by decide +kernel
theorem dX8_digestOfMirror_106 : decode cX8_digestOfMirror 106 = .ok (.getfield 112, 3) := by decide +kernel
theorem dX8_digestOfMirror_109 : decode cX8_digestOfMirror 109 = .ok (.sipush 141, 3) := by decide +kernel
theorem dX8_digestOfMirror_112 : decode cX8_digestOfMirror 112 = .ok (.iload_n 3, 1) := by decide +kernel
theorem dX8_digestOfMirror_113 : decode cX8_digestOfMirror 113 = .ok (.invokevirtual 145, 3) := by decide +kernel
theorem dX8_digestOfMirror_116 : decode cX8_digestOfMirror 116 = .ok (.i2l, 1) := by decide +kernel
theorem dX8_digestOfMirror_117 : decode cX8_digestOfMirror 117 = .ok (.ladd, 1) := by decide +kernel
theorem dX8_digestOfMirror_118 : decode cX8_digestOfMirror 118 = .ok (.lstore 4, 2) := by decide +kernel
theorem dX8_digestOfMirror_120 : decode cX8_digestOfMirror 120 = .ok (.lload 4, 2) := by decide +kernel
theorem dX8_digestOfMirror_122 : decode cX8_digestOfMirror 122 = .ok (.ldc2_w 235, 3) := by decide +kernel
theorem dX8_digestOfMirror_125 : decode cX8_digestOfMirror 125 = .ok (.lmul, 1) := by decide +kernel
theorem dX8_digestOfMirror_126 : decode cX8_digestOfMirror 126 = .ok (.aload_n 0, 1) := by decide +kernel
theorem dX8_digestOfMirror_127 : decode cX8_digestOfMirror 127 = .ok (.getfield 58, 3) := by decide +kernel
theorem dX8_digestOfMirror_130 : decode cX8_digestOfMirror 130 = .ok (.getfield 112, 3) := by decide +kernel
theorem dX8_digestOfMirror_133 : decode cX8_digestOfMirror 133 = .ok (.sipush 143, 3) := by decide +kernel
theorem dX8_digestOfMirror_136 : decode cX8_digestOfMirror 136 = .ok (.iload_n 3, 1) := by decide +kernel
theorem dX8_digestOfMirror_137 : decode cX8_digestOfMirror 137 = .ok (.invokevirtual 145, 3) := by decide +kernel
theorem dX8_digestOfMirror_140 : decode cX8_digestOfMirror 140 = .ok (.i2l, 1) := by decide +kernel
theorem dX8_digestOfMirror_141 : decode cX8_digestOfMirror 141 = .ok (.ladd, 1) := by decide +kernel
theorem dX8_digestOfMirror_142 : decode cX8_digestOfMirror 142 = .ok (.lstore 4, 2) := by decide +kernel
theorem dX8_digestOfMirror_144 : decode cX8_digestOfMirror 144 = .ok (.lload 4, 2) := by decide +kernel
theorem dX8_digestOfMirror_146 : decode cX8_digestOfMirror 146 = .ok (.ldc2_w 235, 3) := by decide +kernel
theorem dX8_digestOfMirror_149 : decode cX8_digestOfMirror 149 = .ok (.lmul, 1) := by decide +kernel
theorem dX8_digestOfMirror_150 : decode cX8_digestOfMirror 150 = .ok (.aload_n 0, 1) := by decide +kernel
theorem dX8_digestOfMirror_151 : decode cX8_digestOfMirror 151 = .ok (.getfield 58, 3) := by decide +kernel
theorem dX8_digestOfMirror_154 : decode cX8_digestOfMirror 154 = .ok (.getfield 112, 3) := by decide +kernel
theorem dX8_digestOfMirror_157 : decode cX8_digestOfMirror 157 = .ok (.sipush 144, 3) := by decide +kernel
theorem dX8_digestOfMirror_160 : decode cX8_digestOfMirror 160 = .ok (.iload_n 3, 1) := by decide +kernel
theorem dX8_digestOfMirror_161 : decode cX8_digestOfMirror 161 = .ok (.invokevirtual 145, 3) := by decide +kernel
theorem dX8_digestOfMirror_164 : decode cX8_digestOfMirror 164 = .ok (.i2l, 1) := by decide +kernel
theorem dX8_digestOfMirror_165 : decode cX8_digestOfMirror 165 = .ok (.ladd, 1) := by decide +kernel
theorem dX8_digestOfMirror_166 : decode cX8_digestOfMirror 166 = .ok (.lstore 4, 2) := by decide +kernel
theorem dX8_digestOfMirror_168 : decode cX8_digestOfMirror 168 = .ok (.lload 4, 2) := by decide +kernel
theorem dX8_digestOfMirror_170 : decode cX8_digestOfMirror 170 = .ok (.ldc2_w 235, 3) := by decide +kernel
theorem dX8_digestOfMirror_173 : decode cX8_digestOfMirror 173 = .ok (.lmul, 1) := by decide +kernel
theorem dX8_digestOfMirror_174 : decode cX8_digestOfMirror 174 = .ok (.aload_n 0, 1) := by decide +kernel
theorem dX8_digestOfMirror_175 : decode cX8_digestOfMirror 175 = .ok (.getfield 58, 3) := by decide +kernel
theorem dX8_digestOfMirror_178 : decode cX8_digestOfMirror 178 = .ok (.getfield 112, 3) := by decide +kernel
theorem dX8_digestOfMirror_181 : decode cX8_digestOfMirror 181 = .ok (.getfield 152, 3) := by decide +kernel
theorem dX8_digestOfMirror_184 : decode cX8_digestOfMirror 184 = .ok (.iload_n 3, 1) := by decide +kernel
theorem dX8_digestOfMirror_185 : decode cX8_digestOfMirror 185 = .ok (.if_icmp .ne 7, 3) := by decide +kernel
theorem dX8_digestOfMirror_188 : decode cX8_digestOfMirror 188 = .ok (.iconst 1, 1) := by decide +kernel
theorem dX8_digestOfMirror_189 : decode cX8_digestOfMirror 189 = .ok (.goto 4, 3) := by decide +kernel
theorem dX8_digestOfMirror_192 : decode cX8_digestOfMirror 192 = .ok (.iconst 0, 1) := by decide +kernel
theorem dX8_digestOfMirror_193 : decode cX8_digestOfMirror 193 = .ok (.i2l, 1) := by decide +kernel
theorem dX8_digestOfMirror_194 : decode cX8_digestOfMirror 194 = .ok (.ladd, 1) := by decide +kernel
theorem dX8_digestOfMirror_195 : decode cX8_digestOfMirror 195 = .ok (.lstore 4, 2) := by decide +kernel
theorem dX8_digestOfMirror_197 : decode cX8_digestOfMirror 197 = .ok (.lload 4, 2) := by decide +kernel
theorem dX8_digestOfMirror_199 : decode cX8_digestOfMirror 199 = .ok (.lreturn, 1) := by decide +kernel
theorem dX8_lightIfTurned_0 : decode cX8_lightIfTurned 0 = .ok (.aload_n 0, 1) := by decide +kernel
theorem dX8_lightIfTurned_1 : decode cX8_lightIfTurned 1 = .ok (.getfield 62, 3) := by decide +kernel
theorem dX8_lightIfTurned_4 : decode cX8_lightIfTurned 4 = .ok (.getfield 112, 3) := by decide +kernel
theorem dX8_lightIfTurned_7 : decode cX8_lightIfTurned 7 = .ok (.iload_n 1, 1) := by decide +kernel
theorem dX8_lightIfTurned_8 : decode cX8_lightIfTurned 8 = .ok (.iload_n 2, 1) := by decide +kernel
theorem dX8_lightIfTurned_9 : decode cX8_lightIfTurned 9 = .ok (.invokevirtual 202, 3) := by decide +kernel
theorem dX8_lightIfTurned_12 : decode cX8_lightIfTurned 12 = .ok (.aload_n 0, 1) := by decide +kernel
theorem dX8_lightIfTurned_13 : decode cX8_lightIfTurned 13 = .ok (.getfield 62, 3) := by decide +kernel
theorem dX8_lightIfTurned_16 : decode cX8_lightIfTurned 16 = .ok (.getfield 112, 3) := by decide +kernel
theorem dX8_lightIfTurned_19 : decode cX8_lightIfTurned 19 = .ok (.invokevirtual 127, 3) := by decide +kernel
theorem dX8_lightIfTurned_22 : decode cX8_lightIfTurned 22 = .ok (.ireturn, 1) := by decide +kernel
theorem dX8_checkMirror_0 : decode cX8_checkMirror 0 = .ok (.iload_n 1, 1) := by decide +kernel
theorem dX8_checkMirror_1 : decode cX8_checkMirror 1 = .ok (.ifCond .lt 17, 3) := by decide +kernel
theorem dX8_checkMirror_4 : decode cX8_checkMirror 4 = .ok (.iload_n 1, 1) := by decide +kernel
theorem dX8_checkMirror_5 : decode cX8_checkMirror 5 = .ok (.aload_n 0, 1) := by decide +kernel
theorem dX8_checkMirror_6 : decode cX8_checkMirror 6 = .ok (.getfield 58, 3) := by decide +kernel
theorem dX8_checkMirror_9 : decode cX8_checkMirror 9 = .ok (.getfield 112, 3) := by decide +kernel
theorem dX8_checkMirror_12 : decode cX8_checkMirror 12 = .ok (.getfield 116, 3) := by decide +kernel
theorem dX8_checkMirror_15 : decode cX8_checkMirror 15 = .ok (.if_icmp .lt 14, 3) := by decide +kernel
theorem dX8_checkMirror_18 : decode cX8_checkMirror 18 = .ok (.new 155, 3) := by decide +kernel
theorem dX8_checkMirror_21 : decode cX8_checkMirror 21 = .ok (.dup, 1) := by decide +kernel
theorem dX8_checkMirror_22 : decode cX8_checkMirror 22 = .ok (.ldc_w 270, 3) := by decide +kernel
theorem dX8_checkMirror_25 : decode cX8_checkMirror 25 = .ok (.invokespecial 159, 3) := by decide +kernel
theorem dX8_checkMirror_28 : decode cX8_checkMirror 28 = .ok (.athrow, 1) := by decide +kernel
theorem dX8_checkMirror_29 : decode cX8_checkMirror 29 = .ok (.return_, 1) := by decide +kernel
theorem dX8_checkJob_0 : decode cX8_checkJob 0 = .ok (.iload_n 1, 1) := by decide +kernel
theorem dX8_checkJob_1 : decode cX8_checkJob 1 = .ok (.ifCond .lt 17, 3) := by decide +kernel
theorem dX8_checkJob_4 : decode cX8_checkJob 4 = .ok (.iload_n 1, 1) := by decide +kernel
theorem dX8_checkJob_5 : decode cX8_checkJob 5 = .ok (.aload_n 0, 1) := by decide +kernel
theorem dX8_checkJob_6 : decode cX8_checkJob 6 = .ok (.getfield 58, 3) := by decide +kernel
theorem dX8_checkJob_9 : decode cX8_checkJob 9 = .ok (.getfield 163, 3) := by decide +kernel
theorem dX8_checkJob_12 : decode cX8_checkJob 12 = .ok (.getfield 167, 3) := by decide +kernel
theorem dX8_checkJob_15 : decode cX8_checkJob 15 = .ok (.if_icmp .lt 14, 3) := by decide +kernel
theorem dX8_checkJob_18 : decode cX8_checkJob 18 = .ok (.new 155, 3) := by decide +kernel
theorem dX8_checkJob_21 : decode cX8_checkJob 21 = .ok (.dup, 1) := by decide +kernel
theorem dX8_checkJob_22 : decode cX8_checkJob 22 = .ok (.ldc_w 272, 3) := by decide +kernel
theorem dX8_checkJob_25 : decode cX8_checkJob 25 = .ok (.invokespecial 159, 3) := by decide +kernel
theorem dX8_checkJob_28 : decode cX8_checkJob 28 = .ok (.athrow, 1) := by decide +kernel
theorem dX8_checkJob_29 : decode cX8_checkJob 29 = .ok (.return_, 1) := by decide +kernel
theorem dX8_checkMinutes_0 : decode cX8_checkMinutes 0 = .ok (.iload_n 0, 1) := by decide +kernel
theorem dX8_checkMinutes_1 : decode cX8_checkMinutes 1 = .ok (.iconst 1, 1) := by decide +kernel
theorem dX8_checkMinutes_2 : decode cX8_checkMinutes 2 = .ok (.if_icmp .lt 9, 3) := by decide +kernel
theorem dX8_checkMinutes_5 : decode cX8_checkMinutes 5 = .ok (.iload_n 0, 1) := by decide +kernel
theorem dX8_checkMinutes_6 : decode cX8_checkMinutes 6 = .ok (.bipush 100, 2) := by decide +kernel
theorem dX8_checkMinutes_8 : decode cX8_checkMinutes 8 = .ok (.if_icmp .le 14, 3) := by decide +kernel
theorem dX8_checkMinutes_11 : decode cX8_checkMinutes 11 = .ok (.new 83, 3) := by decide +kernel
theorem dX8_checkMinutes_14 : decode cX8_checkMinutes 14 = .ok (.dup, 1) := by decide +kernel
theorem dX8_checkMinutes_15 : decode cX8_checkMinutes 15 = .ok (.ldc_w 274, 3) := by decide +kernel
theorem dX8_checkMinutes_18 : decode cX8_checkMinutes 18 = .ok (.invokespecial 87, 3) := by decide +kernel
theorem dX8_checkMinutes_21 : decode cX8_checkMinutes 21 = .ok (.athrow, 1) := by decide +kernel
theorem dX8_checkMinutes_22 : decode cX8_checkMinutes 22 = .ok (.return_, 1) := by decide +kernel
theorem dX8_isOrder_0 : decode cX8_isOrder 0 = .ok (.iload_n 0, 1) := by decide +kernel
theorem dX8_isOrder_1 : decode cX8_isOrder 1 = .ok (.sipush 133, 3) := by decide +kernel
theorem dX8_isOrder_4 : decode cX8_isOrder 4 = .ok (.if_icmp .eq 31, 3) := by decide +kernel
theorem dX8_isOrder_7 : decode cX8_isOrder 7 = .ok (.iload_n 0, 1) := by decide +kernel
theorem dX8_isOrder_8 : decode cX8_isOrder 8 = .ok (.sipush 135, 3) := by decide +kernel
theorem dX8_isOrder_11 : decode cX8_isOrder 11 = .ok (.if_icmp .eq 24, 3) := by decide +kernel
theorem dX8_isOrder_14 : decode cX8_isOrder 14 = .ok (.iload_n 0, 1) := by decide +kernel
theorem dX8_isOrder_15 : decode cX8_isOrder 15 = .ok (.sipush 136, 3) := by decide +kernel
theorem dX8_isOrder_18 : decode cX8_isOrder 18 = .ok (.if_icmp .eq 17, 3) := by decide +kernel
theorem dX8_isOrder_21 : decode cX8_isOrder 21 = .ok (.iload_n 0, 1) := by decide +kernel
theorem dX8_isOrder_22 : decode cX8_isOrder 22 = .ok (.sipush 137, 3) := by decide +kernel
theorem dX8_isOrder_25 : decode cX8_isOrder 25 = .ok (.if_icmp .eq 10, 3) := by decide +kernel
theorem dX8_isOrder_28 : decode cX8_isOrder 28 = .ok (.iload_n 0, 1) := by decide +kernel
theorem dX8_isOrder_29 : decode cX8_isOrder 29 = .ok (.sipush 138, 3) := by decide +kernel
theorem dX8_isOrder_32 : decode cX8_isOrder 32 = .ok (.if_icmp .ne 7, 3) := by decide +kernel
theorem dX8_isOrder_35 : decode cX8_isOrder 35 = .ok (.iconst 1, 1) := by decide +kernel
theorem dX8_isOrder_36 : decode cX8_isOrder 36 = .ok (.goto 4, 3) := by decide +kernel
theorem dX8_isOrder_39 : decode cX8_isOrder 39 = .ok (.iconst 0, 1) := by decide +kernel
theorem dX8_isOrder_40 : decode cX8_isOrder 40 = .ok (.ireturn, 1) := by decide +kernel
theorem dX8_isOrderBySum_0 : decode cX8_isOrderBySum 0 = .ok (.iload_n 0, 1) := by decide +kernel
theorem dX8_isOrderBySum_1 : decode cX8_isOrderBySum 1 = .ok (.sipush 133, 3) := by decide +kernel
theorem dX8_isOrderBySum_4 : decode cX8_isOrderBySum 4 = .ok (.if_icmp .eq 10, 3) := by decide +kernel
theorem dX8_isOrderBySum_7 : decode cX8_isOrderBySum 7 = .ok (.iload_n 0, 1) := by decide +kernel
theorem dX8_isOrderBySum_8 : decode cX8_isOrderBySum 8 = .ok (.sipush 135, 3) := by decide +kernel
theorem dX8_isOrderBySum_11 : decode cX8_isOrderBySum 11 = .ok (.if_icmp .ne 7, 3) := by decide +kernel
theorem dX8_isOrderBySum_14 : decode cX8_isOrderBySum 14 = .ok (.iconst 1, 1) := by decide +kernel
theorem dX8_isOrderBySum_15 : decode cX8_isOrderBySum 15 = .ok (.goto 4, 3) := by decide +kernel
theorem dX8_isOrderBySum_18 : decode cX8_isOrderBySum 18 = .ok (.iconst 0, 1) := by decide +kernel
theorem dX8_isOrderBySum_19 : decode cX8_isOrderBySum 19 = .ok (.ireturn, 1) := by decide +kernel
theorem dX8_hold_0 : decode cX8_hold 0 = .ok (.iload_n 2, 1) := by decide +kernel
theorem dX8_hold_1 : decode cX8_hold 1 = .ok (.i2l, 1) := by decide +kernel
theorem dX8_hold_2 : decode cX8_hold 2 = .ok (.iload_n 3, 1) := by decide +kernel
theorem dX8_hold_3 : decode cX8_hold 3 = .ok (.i2l, 1) := by decide +kernel
theorem dX8_hold_4 : decode cX8_hold 4 = .ok (.lload_n 0, 1) := by decide +kernel
theorem dX8_hold_5 : decode cX8_hold 5 = .ok (.invokestatic 276, 3) := by decide +kernel
theorem dX8_hold_8 : decode cX8_hold 8 = .ok (.invokestatic 282, 3) := by decide +kernel
theorem dX8_hold_11 : decode cX8_hold 11 = .ok (.l2i, 1) := by decide +kernel
theorem dX8_hold_12 : decode cX8_hold 12 = .ok (.ireturn, 1) := by decide +kernel
