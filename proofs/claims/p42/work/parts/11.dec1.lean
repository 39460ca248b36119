theorem dJ0_init_81219_0 : decode cJ0_init_81219 0 = .ok (.aload_n 0, 1) := by decide +kernel
theorem dJ0_init_81219_1 : decode cJ0_init_81219 1 = .ok (.aload_n 1, 1) := by decide +kernel
theorem dJ0_init_81219_2 : decode cJ0_init_81219 2 = .ok (.aconst_null, 1) := by decide +kernel
theorem dJ0_init_81219_3 : decode cJ0_init_81219 3 = .ok (.invokespecial 489, 3) := by decide +kernel
theorem dJ0_init_81219_6 : decode cJ0_init_81219 6 = .ok (.return_, 1) := by decide +kernel
theorem dJ0_length_8abf5_0 : decode cJ0_length_8abf5 0 = .ok (.aload_n 0, 1) := by decide +kernel
theorem dJ0_length_8abf5_1 : decode cJ0_length_8abf5 1 = .ok (.getfield 9, 3) := by decide +kernel
theorem dJ0_length_8abf5_4 : decode cJ0_length_8abf5 4 = .ok (.arraylength, 1) := by decide +kernel
theorem dJ0_length_8abf5_5 : decode cJ0_length_8abf5 5 = .ok (.aload_n 0, 1) := by decide +kernel
theorem dJ0_length_8abf5_6 : decode cJ0_length_8abf5 6 = .ok (.invokevirtual 335, 3) := by decide +kernel
theorem dJ0_length_8abf5_9 : decode cJ0_length_8abf5 9 = .ok (.ishr, 1) := by decide +kernel
theorem dJ0_length_8abf5_10 : decode cJ0_length_8abf5 10 = .ok (.ireturn, 1) := by decide +kernel
theorem dJ0_charAt_5068e_0 : decode cJ0_charAt_5068e 0 = .ok (.aload_n 0, 1) := by decide +kernel
theorem dJ0_charAt_5068e_1 : decode cJ0_charAt_5068e 1 = .ok (.invokevirtual 492, 3) := by decide +kernel
theorem dJ0_charAt_5068e_4 : decode cJ0_charAt_5068e 4 = .ok (.ifCond .eq 12, 3) := by decide +kernel
theorem dJ0_charAt_5068e_7 : decode cJ0_charAt_5068e 7 = .ok (.aload_n 0, 1) := by decide +kernel
theorem dJ0_charAt_5068e_8 : decode cJ0_charAt_5068e 8 = .ok (.getfield 9, 3) := by decide +kernel
theorem dJ0_charAt_5068e_11 : decode cJ0_charAt_5068e 11 = .ok (.iload_n 1, 1) := by decide +kernel
theorem dJ0_charAt_5068e_12 : decode cJ0_charAt_5068e 12 = .ok (.invokestatic 495, 3) := by decide +kernel
theorem dJ0_charAt_5068e_15 : decode cJ0_charAt_5068e 15 = .ok (.ireturn, 1) := by decide +kernel
theorem dJ0_charAt_5068e_16 : decode cJ0_charAt_5068e 16 = .ok (.aload_n 0, 1) := by decide +kernel
theorem dJ0_charAt_5068e_17 : decode cJ0_charAt_5068e 17 = .ok (.getfield 9, 3) := by decide +kernel
theorem dJ0_charAt_5068e_20 : decode cJ0_charAt_5068e 20 = .ok (.iload_n 1, 1) := by decide +kernel
theorem dJ0_charAt_5068e_21 : decode cJ0_charAt_5068e 21 = .ok (.invokestatic 498, 3) := by decide +kernel
theorem dJ0_charAt_5068e_24 : decode cJ0_charAt_5068e 24 = .ok (.ireturn, 1) := by decide +kernel
theorem dJ0_indexOf_0f7a4_0 : decode cJ0_indexOf_0f7a4 0 = .ok (.aload_n 0, 1) := by decide +kernel
theorem dJ0_indexOf_0f7a4_1 : decode cJ0_indexOf_0f7a4 1 = .ok (.iload_n 1, 1) := by decide +kernel
theorem dJ0_indexOf_0f7a4_2 : decode cJ0_indexOf_0f7a4 2 = .ok (.iconst 0, 1) := by decide +kernel
theorem dJ0_indexOf_0f7a4_3 : decode cJ0_indexOf_0f7a4 3 = .ok (.invokevirtual 633, 3) := by decide +kernel
theorem dJ0_indexOf_0f7a4_6 : decode cJ0_indexOf_0f7a4 6 = .ok (.ireturn, 1) := by decide +kernel
theorem dJ0_indexOf_7cf53_0 : decode cJ0_indexOf_7cf53 0 = .ok (.aload_n 0, 1) := by decide +kernel
theorem dJ0_indexOf_7cf53_1 : decode cJ0_indexOf_7cf53 1 = .ok (.invokevirtual 492, 3) := by decide +kernel
theorem dJ0_indexOf_7cf53_4 : decode cJ0_indexOf_7cf53 4 = .ok (.ifCond .eq 19, 3) := by decide +kernel
theorem dJ0_indexOf_7cf53_7 : decode cJ0_indexOf_7cf53 7 = .ok (.aload_n 0, 1) := by decide +kernel
theorem dJ0_indexOf_7cf53_8 : decode cJ0_indexOf_7cf53 8 = .ok (.getfield 9, 3) := by decide +kernel
theorem dJ0_indexOf_7cf53_11 : decode cJ0_indexOf_7cf53 11 = .ok (.iload_n 1, 1) := by decide +kernel
theorem dJ0_indexOf_7cf53_12 : decode cJ0_indexOf_7cf53 12 = .ok (.iload_n 2, 1) := by decide +kernel
theorem dJ0_indexOf_7cf53_13 : decode cJ0_indexOf_7cf53 13 = .ok (.aload_n 0, 1) := by decide +kernel
theorem dJ0_indexOf_7cf53_14 : decode cJ0_indexOf_7cf53 14 = .ok (.invokevirtual 505, 3) := by decide +kernel
theorem dJ0_indexOf_7cf53_17 : decode cJ0_indexOf_7cf53 17 = .ok (.invokestatic 637, 3) := by decide +kernel
theorem dJ0_indexOf_7cf53_20 : decode cJ0_indexOf_7cf53 20 = .ok (.goto 16, 3) := by decide +kernel
theorem dJ0_indexOf_7cf53_23 : decode cJ0_indexOf_7cf53 23 = .ok (.aload_n 0, 1) := by decide +kernel
theorem dJ0_indexOf_7cf53_24 : decode cJ0_indexOf_7cf53 24 = .ok (.getfield 9, 3) := by decide +kernel
theorem dJ0_indexOf_7cf53_27 : decode cJ0_indexOf_7cf53 27 = .ok (.iload_n 1, 1) := by decide +kernel
theorem dJ0_indexOf_7cf53_28 : decode cJ0_indexOf_7cf53 28 = .ok (.iload_n 2, 1) := by decide +kernel
theorem dJ0_indexOf_7cf53_29 : decode cJ0_indexOf_7cf53 29 = .ok (.aload_n 0, 1) := by decide +kernel
theorem dJ0_indexOf_7cf53_30 : decode cJ0_indexOf_7cf53 30 = .ok (.invokevirtual 505, 3) := by decide +kernel
theorem dJ0_indexOf_7cf53_33 : decode cJ0_indexOf_7cf53 33 = .ok (.invokestatic 640, 3) := by decide +kernel
theorem dJ0_indexOf_7cf53_36 : decode cJ0_indexOf_7cf53 36 = .ok (.ireturn, 1) := by decide +kernel
theorem dJ0_getBytes_840e7_0 : decode cJ0_getBytes_840e7 0 = .ok (.aload_n 0, 1) := by decide +kernel
theorem dJ0_getBytes_840e7_1 : decode cJ0_getBytes_840e7 1 = .ok (.invokevirtual 335, 3) := by decide +kernel
theorem dJ0_getBytes_840e7_4 : decode cJ0_getBytes_840e7 4 = .ok (.iload_n 3, 1) := by decide +kernel
theorem dJ0_getBytes_840e7_5 : decode cJ0_getBytes_840e7 5 = .ok (.if_icmp .ne 23, 3) := by decide +kernel
theorem dJ0_getBytes_840e7_8 : decode cJ0_getBytes_840e7 8 = .ok (.aload_n 0, 1) := by decide +kernel
theorem dJ0_getBytes_840e7_9 : decode cJ0_getBytes_840e7 9 = .ok (.getfield 9, 3) := by decide +kernel
theorem dJ0_getBytes_840e7_12 : decode cJ0_getBytes_840e7 12 = .ok (.iconst 0, 1) := by decide +kernel
theorem dJ0_getBytes_840e7_13 : decode cJ0_getBytes_840e7 13 = .ok (.aload_n 1, 1) := by decide +kernel
theorem dJ0_getBytes_840e7_14 : decode cJ0_getBytes_840e7 14 = .ok (.iload_n 2, 1) := by decide +kernel
theorem dJ0_getBytes_840e7_15 : decode cJ0_getBytes_840e7 15 = .ok (.iload_n 3, 1) := by decide +kernel
theorem dJ0_getBytes_840e7_16 : decode cJ0_getBytes_840e7 16 = .ok (.ishl, 1) := by decide +kernel
theorem dJ0_getBytes_840e7_17 : decode cJ0_getBytes_840e7 17 = .ok (.aload_n 0, 1) := by decide +kernel
theorem dJ0_getBytes_840e7_18 : decode cJ0_getBytes_840e7 18 = .ok (.getfield 9, 3) := by decide +kernel
theorem dJ0_getBytes_840e7_21 : decode cJ0_getBytes_840e7 21 = .ok (.arraylength, 1) := by decide +kernel
theorem dJ0_getBytes_840e7_22 : decode cJ0_getBytes_840e7 22 = .ok (.invokestatic 212, 3) := by decide +kernel
theorem dJ0_getBytes_840e7_25 : decode cJ0_getBytes_840e7 25 = .ok (.goto 18, 3) := by decide +kernel
theorem dJ0_getBytes_840e7_28 : decode cJ0_getBytes_840e7 28 = .ok (.aload_n 0, 1) := by decide +kernel
theorem dJ0_getBytes_840e7_29 : decode cJ0_getBytes_840e7 29 = .ok (.getfield 9, 3) := by decide +kernel
theorem dJ0_getBytes_840e7_32 : decode cJ0_getBytes_840e7 32 = .ok (.iconst 0, 1) := by decide +kernel
theorem dJ0_getBytes_840e7_33 : decode cJ0_getBytes_840e7 33 = .ok (.aload_n 1, 1) := by decide +kernel
theorem dJ0_getBytes_840e7_34 : decode cJ0_getBytes_840e7 34 = .ok (.iload_n 2, 1) := by decide +kernel
theorem dJ0_getBytes_840e7_35 : decode cJ0_getBytes_840e7 35 = .ok (.aload_n 0, 1) := by decide +kernel
theorem dJ0_getBytes_840e7_36 : decode cJ0_getBytes_840e7 36 = .ok (.getfield 9, 3) := by decide +kernel
theorem dJ0_getBytes_840e7_39 : decode cJ0_getBytes_840e7 39 = .ok (.arraylength, 1) := by decide +kernel
theorem dJ0_getBytes_840e7_40 : decode cJ0_getBytes_840e7 40 = .ok (.invokestatic 106, 3) := by decide +kernel
theorem dJ0_getBytes_840e7_43 : decode cJ0_getBytes_840e7 43 = .ok (.return_, 1) := by decide +kernel
theorem dJ0_init_db425_0 : decode cJ0_init_db425 0 = .ok (.aload_n 0, 1) := by decide +kernel
theorem dJ0_init_db425_1 : decode cJ0_init_db425 1 = .ok (.invokespecial 1, 3) := by decide +kernel
theorem dJ0_init_db425_4 : decode cJ0_init_db425 4 = .ok (.aload_n 1, 1) := by decide +kernel
theorem dJ0_init_db425_5 : decode cJ0_init_db425 5 = .ok (.invokevirtual 552, 3) := by decide +kernel
theorem dJ0_init_db425_8 : decode cJ0_init_db425 8 = .ok (.astore_n 3, 1) := by decide +kernel
theorem dJ0_init_db425_9 : decode cJ0_init_db425 9 = .ok (.aload_n 1, 1) := by decide +kernel
theorem dJ0_init_db425_10 : decode cJ0_init_db425 10 = .ok (.invokevirtual 549, 3) := by decide +kernel
theorem dJ0_init_db425_13 : decode cJ0_init_db425 13 = .ok (.istore 4, 2) := by decide +kernel
theorem dJ0_init_db425_15 : decode cJ0_init_db425 15 = .ok (.aload_n 1, 1) := by decide +kernel
theorem dJ0_init_db425_16 : decode cJ0_init_db425 16 = .ok (.invokevirtual 1047, 3) := by decide +kernel
theorem dJ0_init_db425_19 : decode cJ0_init_db425 19 = .ok (.ifCond .eq 22, 3) := by decide +kernel
theorem dJ0_init_db425_22 : decode cJ0_init_db425 22 = .ok (.aload_n 0, 1) := by decide +kernel
theorem dJ0_init_db425_23 : decode cJ0_init_db425 23 = .ok (.iconst 0, 1) := by decide +kernel
theorem dJ0_init_db425_24 : decode cJ0_init_db425 24 = .ok (.putfield 15, 3) := by decide +kernel
theorem dJ0_init_db425_27 : decode cJ0_init_db425 27 = .ok (.aload_n 0, 1) := by decide +kernel
theorem dJ0_init_db425_28 : decode cJ0_init_db425 28 = .ok (.aload_n 3, 1) := by decide +kernel
theorem dJ0_init_db425_29 : decode cJ0_init_db425 29 = .ok (.iconst 0, 1) := by decide +kernel
theorem dJ0_init_db425_30 : decode cJ0_init_db425 30 = .ok (.iload 4, 2) := by decide +kernel
theorem dJ0_init_db425_32 : decode cJ0_init_db425 32 = .ok (.invokestatic 54, 3) := by decide +kernel
theorem dJ0_init_db425_35 : decode cJ0_init_db425 35 = .ok (.putfield 9, 3) := by decide +kernel
theorem dJ0_init_db425_38 : decode cJ0_init_db425 38 = .ok (.goto 59, 3) := by decide +kernel
theorem dJ0_init_db425_41 : decode cJ0_init_db425 41 = .ok (.getstatic 38, 3) := by decide +kernel
theorem dJ0_init_db425_44 : decode cJ0_init_db425 44 = .ok (.ifCond .eq 35, 3) := by decide +kernel
theorem dJ0_init_db425_47 : decode cJ0_init_db425 47 = .ok (.aload_n 1, 1) := by decide +kernel
theorem dJ0_init_db425_48 : decode cJ0_init_db425 48 = .ok (.getfield 1048, 3) := by decide +kernel
theorem dJ0_init_db425_51 : decode cJ0_init_db425 51 = .ok (.ifCond .eq 28, 3) := by decide +kernel
theorem dJ0_init_db425_54 : decode cJ0_init_db425 54 = .ok (.aload_n 0, 1) := by decide +kernel
theorem dJ0_init_db425_55 : decode cJ0_init_db425 55 = .ok (.aload_n 3, 1) := by decide +kernel
theorem dJ0_init_db425_56 : decode cJ0_init_db425 56 = .ok (.iconst 0, 1) := by decide +kernel
theorem dJ0_init_db425_57 : decode cJ0_init_db425 57 = .ok (.iload 4, 2) := by decide +kernel
theorem dJ0_init_db425_59 : decode cJ0_init_db425 59 = .ok (.invokestatic 1051, 3) := by decide +kernel
theorem dJ0_init_db425_62 : decode cJ0_init_db425 62 = .ok (.putfield 9, 3) := by decide +kernel
theorem dJ0_init_db425_65 : decode cJ0_init_db425 65 = .ok (.aload_n 0, 1) := by decide +kernel
theorem dJ0_init_db425_66 : decode cJ0_init_db425 66 = .ok (.aload_n 0, 1) := by decide +kernel
theorem dJ0_init_db425_67 : decode cJ0_init_db425 67 = .ok (.getfield 9, 3) := by decide +kernel
theorem dJ0_init_db425_70 : decode cJ0_init_db425 70 = .ok (.iload 4, 2) := by decide +kernel
theorem dJ0_init_db425_72 : decode cJ0_init_db425 72 = .ok (.invokestatic 47, 3) := by decide +kernel
theorem dJ0_init_db425_75 : decode cJ0_init_db425 75 = .ok (.putfield 15, 3) := by decide +kernel
theorem dJ0_init_db425_78 : decode cJ0_init_db425 78 = .ok (.return_, 1) := by decide +kernel
theorem dJ0_init_db425_79 : decode cJ0_init_db425 79 = .ok (.aload_n 0, 1) := by decide +kernel
theorem dJ0_init_db425_80 : decode cJ0_init_db425 80 = .ok (.iconst 1, 1) := by decide +kernel
theorem dJ0_init_db425_81 : decode cJ0_init_db425 81 = .ok (.putfield 15, 3) := by decide +kernel
theorem dJ0_init_db425_84 : decode cJ0_init_db425 84 = .ok (.aload_n 0, 1) := by decide +kernel
theorem dJ0_init_db425_85 : decode cJ0_init_db425 85 = .ok (.aload_n 3, 1) := by decide +kernel
theorem dJ0_init_db425_86 : decode cJ0_init_db425 86 = .ok (.iconst 0, 1) := by decide +kernel
theorem dJ0_init_db425_87 : decode cJ0_init_db425 87 = .ok (.iload 4, 2) := by decide +kernel
theorem dJ0_init_db425_89 : decode cJ0_init_db425 89 = .ok (.iconst 1, 1) := by decide +kernel
theorem dJ0_init_db425_90 : decode cJ0_init_db425 90 = .ok (.ishl, 1) := by decide +kernel
theorem dJ0_init_db425_91 : decode cJ0_init_db425 91 = .ok (.invokestatic 54, 3) := by decide +kernel
theorem dJ0_init_db425_94 : decode cJ0_init_db425 94 = .ok (.putfield 9, 3) := by decide +kernel
theorem dJ0_init_db425_97 : decode cJ0_init_db425 97 = .ok (.return_, 1) := by decide +kernel
theorem dJ0_coder_7d493_0 : decode cJ0_coder_7d493 0 = .ok (.getstatic 38, 3) := by decide +kernel
theorem dJ0_coder_7d493_3 : decode cJ0_coder_7d493 3 = .ok (.ifCond .eq 10, 3) := by decide +kernel
theorem dJ0_coder_7d493_6 : decode cJ0_coder_7d493 6 = .ok (.aload_n 0, 1) := by decide +kernel
theorem dJ0_coder_7d493_7 : decode cJ0_coder_7d493 7 = .ok (.getfield 15, 3) := by decide +kernel
theorem dJ0_coder_7d493_10 : decode cJ0_coder_7d493 10 = .ok (.goto 4, 3) := by decide +kernel
theorem dJ0_coder_7d493_13 : decode cJ0_coder_7d493 13 = .ok (.iconst 1, 1) := by decide +kernel
theorem dJ0_coder_7d493_14 : decode cJ0_coder_7d493 14 = .ok (.ireturn, 1) := by decide +kernel
theorem dJ0_isLatin1_aae02_0 : decode cJ0_isLatin1_aae02 0 = .ok (.getstatic 38, 3) := by decide +kernel
theorem dJ0_isLatin1_aae02_3 : decode cJ0_isLatin1_aae02 3 = .ok (.ifCond .eq 14, 3) := by decide +kernel
theorem dJ0_isLatin1_aae02_6 : decode cJ0_isLatin1_aae02 6 = .ok (.aload_n 0, 1) := by decide +kernel
theorem dJ0_isLatin1_aae02_7 : decode cJ0_isLatin1_aae02 7 = .ok (.getfield 15, 3) := by decide +kernel
theorem dJ0_isLatin1_aae02_10 : decode cJ0_isLatin1_aae02 10 = .ok (.ifCond .ne 7, 3) := by decide +kernel
theorem dJ0_isLatin1_aae02_13 : decode cJ0_isLatin1_aae02 13 = .ok (.iconst 1, 1) := by decide +kernel
theorem dJ0_isLatin1_aae02_14 : decode cJ0_isLatin1_aae02 14 = .ok (.goto 4, 3) := by decide +kernel
theorem dJ0_isLatin1_aae02_17 : decode cJ0_isLatin1_aae02 17 = .ok (.iconst 0, 1) := by decide +kernel
theorem dJ0_isLatin1_aae02_18 : decode cJ0_isLatin1_aae02 18 = .ok (.ireturn, 1) := by decide +kernel
theorem dJ0_checkIndex_df160_0 : decode cJ0_checkIndex_df160 0 = .ok (.iload_n 0, 1) := by decide +kernel
theorem dJ0_checkIndex_df160_1 : decode cJ0_checkIndex_df160 1 = .ok (.iload_n 1, 1) := by decide +kernel
theorem dJ0_checkIndex_df160_2 : decode cJ0_checkIndex_df160 2 = .ok (.getstatic 1053, 3) := by decide +kernel
theorem dJ0_checkIndex_df160_5 : decode cJ0_checkIndex_df160 5 = .ok (.invokestatic 1059, 3) := by decide +kernel
theorem dJ0_checkIndex_df160_8 : decode cJ0_checkIndex_df160 8 = .ok (.pop, 1) := by decide +kernel
theorem dJ0_checkIndex_df160_9 : decode cJ0_checkIndex_df160 9 = .ok (.return_, 1) := by decide +kernel
theorem dJ0_checkBoundsOffCount_cabcc_0 : decode cJ0_checkBoundsOffCount_cabcc 0 = .ok (.iload_n 0, 1) := by decide +kernel
theorem dJ0_checkBoundsOffCount_cabcc_1 : decode cJ0_checkBoundsOffCount_cabcc 1 = .ok (.iload_n 1, 1) := by decide +kernel
theorem dJ0_checkBoundsOffCount_cabcc_2 : decode cJ0_checkBoundsOffCount_cabcc 2 = .ok (.iload_n 2, 1) := by decide +kernel
theorem dJ0_checkBoundsOffCount_cabcc_3 : decode cJ0_checkBoundsOffCount_cabcc 3 = .ok (.getstatic 1053, 3) := by decide +kernel
theorem dJ0_checkBoundsOffCount_cabcc_6 : decode cJ0_checkBoundsOffCount_cabcc 6 = .ok (.invokestatic 1065, 3) := by decide +kernel
theorem dJ0_checkBoundsOffCount_cabcc_9 : decode cJ0_checkBoundsOffCount_cabcc 9 = .ok (.ireturn, 1) := by decide +kernel
theorem dJ0_checkBoundsBeginEnd_23922_0 : decode cJ0_checkBoundsBeginEnd_23922 0 = .ok (.iload_n 0, 1) := by decide +kernel
theorem dJ0_checkBoundsBeginEnd_23922_1 : decode cJ0_checkBoundsBeginEnd_23922 1 = .ok (.iload_n 1, 1) := by decide +kernel
theorem dJ0_checkBoundsBeginEnd_23922_2 : decode cJ0_checkBoundsBeginEnd_23922 2 = .ok (.iload_n 2, 1) := by decide +kernel
theorem dJ0_checkBoundsBeginEnd_23922_3 : decode cJ0_checkBoundsBeginEnd_23922 3 = .ok (.getstatic 1053, 3) := by decide +kernel
theorem dJ0_checkBoundsBeginEnd_23922_6 : decode cJ0_checkBoundsBeginEnd_23922 6 = .ok (.invokestatic 1062, 3) := by decide +kernel
theorem dJ0_checkBoundsBeginEnd_23922_9 : decode cJ0_checkBoundsBeginEnd_23922 9 = .ok (.pop, 1) := by decide +kernel
theorem dJ0_checkBoundsBeginEnd_23922_10 : decode cJ0_checkBoundsBeginEnd_23922 10 = .ok (.return_, 1) := by decide +kernel
theorem dJ1_charAt_3b067_0 : decode cJ1_charAt_3b067 0 = .ok (.iload_n 1, 1) := by decide +kernel
theorem dJ1_charAt_3b067_1 : decode cJ1_charAt_3b067 1 = .ok (.aload_n 0, 1) := by decide +kernel
theorem dJ1_charAt_3b067_2 : decode cJ1_charAt_3b067 2 = .ok (.arraylength, 1) := by decide +kernel
theorem dJ1_charAt_3b067_3 : decode cJ1_charAt_3b067 3 = .ok (.invokestatic 9, 3) := by decide +kernel
theorem dJ1_charAt_3b067_6 : decode cJ1_charAt_3b067 6 = .ok (.aload_n 0, 1) := by decide +kernel
theorem dJ1_charAt_3b067_7 : decode cJ1_charAt_3b067 7 = .ok (.iload_n 1, 1) := by decide +kernel
theorem dJ1_charAt_3b067_8 : decode cJ1_charAt_3b067 8 = .ok (.baload, 1) := by decide +kernel
theorem dJ1_charAt_3b067_9 : decode cJ1_charAt_3b067 9 = .ok (.sipush 255, 3) := by decide +kernel
theorem dJ1_charAt_3b067_12 : decode cJ1_charAt_3b067 12 = .ok (.iand, 1) := by decide +kernel
theorem dJ1_charAt_3b067_13 : decode cJ1_charAt_3b067 13 = .ok (.i2c, 1) := by decide +kernel
theorem dJ1_charAt_3b067_14 : decode cJ1_charAt_3b067 14 = .ok (.ireturn, 1) := by decide +kernel
theorem dJ1_canEncode_9a6ad_0 : decode cJ1_canEncode_9a6ad 0 = .ok (.iload_n 0, 1) := by decide +kernel
theorem dJ1_canEncode_9a6ad_1 : decode cJ1_canEncode_9a6ad 1 = .ok (.ifCond .lt 14, 3) := by decide +kernel
theorem dJ1_canEncode_9a6ad_4 : decode cJ1_canEncode_9a6ad 4 = .ok (.iload_n 0, 1) := by decide +kernel
theorem dJ1_canEncode_9a6ad_5 : decode cJ1_canEncode_9a6ad 5 = .ok (.sipush 255, 3) := by decide +kernel
theorem dJ1_canEncode_9a6ad_8 : decode cJ1_canEncode_9a6ad 8 = .ok (.if_icmp .gt 7, 3) := by decide +kernel
theorem dJ1_canEncode_9a6ad_11 : decode cJ1_canEncode_9a6ad 11 = .ok (.iconst 1, 1) := by decide +kernel
theorem dJ1_canEncode_9a6ad_12 : decode cJ1_canEncode_9a6ad 12 = .ok (.goto 4, 3) := by decide +kernel
theorem dJ1_canEncode_9a6ad_15 : decode cJ1_canEncode_9a6ad 15 = .ok (.iconst 0, 1) := by decide +kernel
theorem dJ1_canEncode_9a6ad_16 : decode cJ1_canEncode_9a6ad 16 = .ok (.ireturn, 1) := by decide +kernel
theorem dJ1_indexOf_4cfef_0 : decode cJ1_indexOf_4cfef 0 = .ok (.iload_n 1, 1) := by decide +kernel
theorem dJ1_indexOf_4cfef_1 : decode cJ1_indexOf_4cfef 1 = .ok (.invokestatic 88, 3) := by decide +kernel
theorem dJ1_indexOf_4cfef_4 : decode cJ1_indexOf_4cfef 4 = .ok (.ifCond .ne 5, 3) := by decide +kernel
theorem dJ1_indexOf_4cfef_7 : decode cJ1_indexOf_4cfef 7 = .ok (.iconst (-1), 1) := by decide +kernel
theorem dJ1_indexOf_4cfef_8 : decode cJ1_indexOf_4cfef 8 = .ok (.ireturn, 1) := by decide +kernel
theorem dJ1_indexOf_4cfef_9 : decode cJ1_indexOf_4cfef 9 = .ok (.iload_n 2, 1) := by decide +kernel
theorem dJ1_indexOf_4cfef_10 : decode cJ1_indexOf_4cfef 10 = .ok (.iconst 0, 1) := by decide +kernel
theorem dJ1_indexOf_4cfef_11 : decode cJ1_indexOf_4cfef 11 = .ok (.invokestatic 92, 3) := by decide +kernel
theorem dJ1_indexOf_4cfef_14 : decode cJ1_indexOf_4cfef 14 = .ok (.istore_n 2, 1) := by decide +kernel
theorem dJ1_indexOf_4cfef_15 : decode cJ1_indexOf_4cfef 15 = .ok (.iload_n 3, 1) := by decide +kernel
theorem dJ1_indexOf_4cfef_16 : decode cJ1_indexOf_4cfef 16 = .ok (.aload_n 0, 1) := by decide +kernel
theorem dJ1_indexOf_4cfef_17 : decode cJ1_indexOf_4cfef 17 = .ok (.arraylength, 1) := by decide +kernel
theorem dJ1_indexOf_4cfef_18 : decode cJ1_indexOf_4cfef 18 = .ok (.invokestatic 38, 3) := by decide +kernel
theorem dJ1_indexOf_4cfef_21 : decode cJ1_indexOf_4cfef 21 = .ok (.istore_n 3, 1) := by decide +kernel
theorem dJ1_indexOf_4cfef_22 : decode cJ1_indexOf_4cfef 22 = .ok (.iload_n 2, 1) := by decide +kernel
theorem dJ1_indexOf_4cfef_23 : decode cJ1_indexOf_4cfef 23 = .ok (.iload_n 3, 1) := by decide +kernel
theorem dJ1_indexOf_4cfef_24 : decode cJ1_indexOf_4cfef 24 = .ok (.if_icmp .lt 5, 3) := by decide +kernel
theorem dJ1_indexOf_4cfef_27 : decode cJ1_indexOf_4cfef 27 = .ok (.iconst (-1), 1) := by decide +kernel
theorem dJ1_indexOf_4cfef_28 : decode cJ1_indexOf_4cfef 28 = .ok (.ireturn, 1) := by decide +kernel
theorem dJ1_indexOf_4cfef_29 : decode cJ1_indexOf_4cfef 29 = .ok (.aload_n 0, 1) := by decide +kernel
theorem dJ1_indexOf_4cfef_30 : decode cJ1_indexOf_4cfef 30 = .ok (.iload_n 1, 1) := by decide +kernel
theorem dJ1_indexOf_4cfef_31 : decode cJ1_indexOf_4cfef 31 = .ok (.iload_n 2, 1) := by decide +kernel
theorem dJ1_indexOf_4cfef_32 : decode cJ1_indexOf_4cfef 32 = .ok (.iload_n 3, 1) := by decide +kernel
theorem dJ1_indexOf_4cfef_33 : decode cJ1_indexOf_4cfef 33 = .ok (.invokestatic 95, 3) := by decide +kernel
theorem dJ1_indexOf_4cfef_36 : decode cJ1_indexOf_4cfef 36 = .ok (.ireturn, 1) := by decide +kernel
theorem dJ1_indexOfChar_4cfef_0 : decode cJ1_indexOfChar_4cfef 0 = .ok (.iload_n 1, 1) := by decide +kernel
theorem dJ1_indexOfChar_4cfef_1 : decode cJ1_indexOfChar_4cfef 1 = .ok (.i2b, 1) := by decide +kernel
theorem dJ1_indexOfChar_4cfef_2 : decode cJ1_indexOfChar_4cfef 2 = .ok (.istore 4, 2) := by decide +kernel
theorem dJ1_indexOfChar_4cfef_4 : decode cJ1_indexOfChar_4cfef 4 = .ok (.iload_n 2, 1) := by decide +kernel
theorem dJ1_indexOfChar_4cfef_5 : decode cJ1_indexOfChar_4cfef 5 = .ok (.istore 5, 2) := by decide +kernel
theorem dJ1_indexOfChar_4cfef_7 : decode cJ1_indexOfChar_4cfef 7 = .ok (.iload 5, 2) := by decide +kernel
theorem dJ1_indexOfChar_4cfef_9 : decode cJ1_indexOfChar_4cfef 9 = .ok (.iload_n 3, 1) := by decide +kernel
theorem dJ1_indexOfChar_4cfef_10 : decode cJ1_indexOfChar_4cfef 10 = .ok (.if_icmp .ge 21, 3) := by decide +kernel
theorem dJ1_indexOfChar_4cfef_13 : decode cJ1_indexOfChar_4cfef 13 = .ok (.aload_n 0, 1) := by decide +kernel
theorem dJ1_indexOfChar_4cfef_14 : decode cJ1_indexOfChar_4cfef 14 = .ok (.iload 5, 2) := by decide +kernel
theorem dJ1_indexOfChar_4cfef_16 : decode cJ1_indexOfChar_4cfef 16 = .ok (.baload, 1) := by decide +kernel
theorem dJ1_indexOfChar_4cfef_17 : decode cJ1_indexOfChar_4cfef 17 = .ok (.iload 4, 2) := by decide +kernel
theorem dJ1_indexOfChar_4cfef_19 : decode cJ1_indexOfChar_4cfef 19 = .ok (.if_icmp .ne 6, 3) := by decide +kernel
theorem dJ1_indexOfChar_4cfef_22 : decode cJ1_indexOfChar_4cfef 22 = .ok (.iload 5, 2) := by decide +kernel
theorem dJ1_indexOfChar_4cfef_24 : decode cJ1_indexOfChar_4cfef 24 = .ok (.ireturn, 1) := by decide +kernel
theorem dJ1_indexOfChar_4cfef_25 : decode cJ1_indexOfChar_4cfef 25 = .ok (.iinc 5 1, 3) := by decide +kernel
theorem dJ1_indexOfChar_4cfef_28 : decode cJ1_indexOfChar_4cfef 28 = .ok (.goto (-21), 3) := by decide +kernel
theorem dJ1_indexOfChar_4cfef_31 : decode cJ1_indexOfChar_4cfef 31 = .ok (.iconst (-1), 1) := by decide +kernel
theorem dJ1_indexOfChar_4cfef_32 : decode cJ1_indexOfChar_4cfef 32 = .ok (.ireturn, 1) := by decide +kernel
theorem dJ1_inflate_0e8fd_0 : decode cJ1_inflate_0e8fd 0 = .ok (.aload_n 0, 1) := by decide +kernel
theorem dJ1_inflate_0e8fd_1 : decode cJ1_inflate_0e8fd 1 = .ok (.iload_n 1, 1) := by decide +kernel
theorem dJ1_inflate_0e8fd_2 : decode cJ1_inflate_0e8fd 2 = .ok (.aload_n 2, 1) := by decide +kernel
theorem dJ1_inflate_0e8fd_3 : decode cJ1_inflate_0e8fd 3 = .ok (.iload_n 3, 1) := by decide +kernel
theorem dJ1_inflate_0e8fd_4 : decode cJ1_inflate_0e8fd 4 = .ok (.iload 4, 2) := by decide +kernel
theorem dJ1_inflate_0e8fd_6 : decode cJ1_inflate_0e8fd 6 = .ok (.invokestatic 240, 3) := by decide +kernel
theorem dJ1_inflate_0e8fd_9 : decode cJ1_inflate_0e8fd 9 = .ok (.return_, 1) := by decide +kernel
theorem dJ3_checkIndex_8e157_0 : decode cJ3_checkIndex_8e157 0 = .ok (.iload_n 0, 1) := by decide +kernel
theorem dJ3_checkIndex_8e157_1 : decode cJ3_checkIndex_8e157 1 = .ok (.ifCond .lt 8, 3) := by decide +kernel
theorem dJ3_checkIndex_8e157_4 : decode cJ3_checkIndex_8e157 4 = .ok (.iload_n 0, 1) := by decide +kernel
theorem dJ3_checkIndex_8e157_5 : decode cJ3_checkIndex_8e157 5 = .ok (.iload_n 1, 1) := by decide +kernel
theorem dJ3_checkIndex_8e157_6 : decode cJ3_checkIndex_8e157 6 = .ok (.if_icmp .lt 10, 3) := by decide +kernel
theorem dJ3_checkIndex_8e157_9 : decode cJ3_checkIndex_8e157 9 = .ok (.aload_n 2, 1) := by decide +kernel
theorem dJ3_checkIndex_8e157_10 : decode cJ3_checkIndex_8e157 10 = .ok (.iload_n 0, 1) := by decide +kernel
theorem dJ3_checkIndex_8e157_11 : decode cJ3_checkIndex_8e157 11 = .ok (.iload_n 1, 1) := by decide +kernel
theorem dJ3_checkIndex_8e157_12 : decode cJ3_checkIndex_8e157 12 = .ok (.invokestatic 95, 3) := by decide +kernel
theorem dJ3_checkIndex_8e157_15 : decode cJ3_checkIndex_8e157 15 = .ok (.athrow, 1) := by decide +kernel
theorem dJ3_checkIndex_8e157_16 : decode cJ3_checkIndex_8e157 16 = .ok (.iload_n 0, 1) := by decide +kernel
theorem dJ3_checkIndex_8e157_17 : decode cJ3_checkIndex_8e157 17 = .ok (.ireturn, 1) := by decide +kernel
theorem dJ3_checkFromToIndex_8c36e_0 : decode cJ3_checkFromToIndex_8c36e 0 = .ok (.iload_n 0, 1) := by decide +kernel
theorem dJ3_checkFromToIndex_8c36e_1 : decode cJ3_checkFromToIndex_8c36e 1 = .ok (.ifCond .lt 13, 3) := by decide +kernel
theorem dJ3_checkFromToIndex_8c36e_4 : decode cJ3_checkFromToIndex_8c36e 4 = .ok (.iload_n 0, 1) := by decide +kernel
theorem dJ3_checkFromToIndex_8c36e_5 : decode cJ3_checkFromToIndex_8c36e 5 = .ok (.iload_n 1, 1) := by decide +kernel
theorem dJ3_checkFromToIndex_8c36e_6 : decode cJ3_checkFromToIndex_8c36e 6 = .ok (.if_icmp .gt 8, 3) := by decide +kernel
theorem dJ3_checkFromToIndex_8c36e_9 : decode cJ3_checkFromToIndex_8c36e 9 = .ok (.iload_n 1, 1) := by decide +kernel
theorem dJ3_checkFromToIndex_8c36e_10 : decode cJ3_checkFromToIndex_8c36e 10 = .ok (.iload_n 2, 1) := by decide +kernel
theorem dJ3_checkFromToIndex_8c36e_11 : decode cJ3_checkFromToIndex_8c36e 11 = .ok (.if_icmp .le 11, 3) := by decide +kernel
theorem dJ3_checkFromToIndex_8c36e_14 : decode cJ3_checkFromToIndex_8c36e 14 = .ok (.aload_n 3, 1) := by decide +kernel
theorem dJ3_checkFromToIndex_8c36e_15 : decode cJ3_checkFromToIndex_8c36e 15 = .ok (.iload_n 0, 1) := by decide +kernel
theorem dJ3_checkFromToIndex_8c36e_16 : decode cJ3_checkFromToIndex_8c36e 16 = .ok (.iload_n 1, 1) := by decide +kernel
theorem dJ3_checkFromToIndex_8c36e_17 : decode cJ3_checkFromToIndex_8c36e 17 = .ok (.iload_n 2, 1) := by decide +kernel
theorem dJ3_checkFromToIndex_8c36e_18 : decode cJ3_checkFromToIndex_8c36e 18 = .ok (.invokestatic 99, 3) := by decide +kernel
theorem dJ3_checkFromToIndex_8c36e_21 : decode cJ3_checkFromToIndex_8c36e 21 = .ok (.athrow, 1) := by decide +kernel
theorem dJ3_checkFromToIndex_8c36e_22 : decode cJ3_checkFromToIndex_8c36e 22 = .ok (.iload_n 0, 1) := by decide +kernel
theorem dJ3_checkFromToIndex_8c36e_23 : decode cJ3_checkFromToIndex_8c36e 23 = .ok (.ireturn, 1) := by decide +kernel
theorem dJ3_checkFromIndexSize_8c36e_0 : decode cJ3_checkFromIndexSize_8c36e 0 = .ok (.iload_n 2, 1) := by decide +kernel
theorem dJ3_checkFromIndexSize_8c36e_1 : decode cJ3_checkFromIndexSize_8c36e 1 = .ok (.iload_n 0, 1) := by decide +kernel
theorem dJ3_checkFromIndexSize_8c36e_2 : decode cJ3_checkFromIndexSize_8c36e 2 = .ok (.ior, 1) := by decide +kernel
theorem dJ3_checkFromIndexSize_8c36e_3 : decode cJ3_checkFromIndexSize_8c36e 3 = .ok (.iload_n 1, 1) := by decide +kernel
theorem dJ3_checkFromIndexSize_8c36e_4 : decode cJ3_checkFromIndexSize_8c36e 4 = .ok (.ior, 1) := by decide +kernel
theorem dJ3_checkFromIndexSize_8c36e_5 : decode cJ3_checkFromIndexSize_8c36e 5 = .ok (.ifCond .lt 10, 3) := by decide +kernel
theorem dJ3_checkFromIndexSize_8c36e_8 : decode cJ3_checkFromIndexSize_8c36e 8 = .ok (.iload_n 1, 1) := by decide +kernel
theorem dJ3_checkFromIndexSize_8c36e_9 : decode cJ3_checkFromIndexSize_8c36e 9 = .ok (.iload_n 2, 1) := by decide +kernel
theorem dJ3_checkFromIndexSize_8c36e_10 : decode cJ3_checkFromIndexSize_8c36e 10 = .ok (.iload_n 0, 1) := by decide +kernel
theorem dJ3_checkFromIndexSize_8c36e_11 : decode cJ3_checkFromIndexSize_8c36e 11 = .ok (.isub, 1) := by decide +kernel
theorem dJ3_checkFromIndexSize_8c36e_12 : decode cJ3_checkFromIndexSize_8c36e 12 = .ok (.if_icmp .le 11, 3) := by decide +kernel
theorem dJ3_checkFromIndexSize_8c36e_15 : decode cJ3_checkFromIndexSize_8c36e 15 = .ok (.aload_n 3, 1) := by decide +kernel
theorem dJ3_checkFromIndexSize_8c36e_16 : decode cJ3_checkFromIndexSize_8c36e 16 = .ok (.iload_n 0, 1) := by decide +kernel
theorem dJ3_checkFromIndexSize_8c36e_17 : decode cJ3_checkFromIndexSize_8c36e 17 = .ok (.iload_n 1, 1) := by decide +kernel
theorem dJ3_checkFromIndexSize_8c36e_18 : decode cJ3_checkFromIndexSize_8c36e 18 = .ok (.iload_n 2, 1) := by decide +kernel
theorem dJ3_checkFromIndexSize_8c36e_19 : decode cJ3_checkFromIndexSize_8c36e 19 = .ok (.invokestatic 103, 3) := by decide +kernel
theorem dJ3_checkFromIndexSize_8c36e_22 : decode cJ3_checkFromIndexSize_8c36e 22 = .ok (.athrow, 1) := by decide +kernel
theorem dJ3_checkFromIndexSize_8c36e_23 : decode cJ3_checkFromIndexSize_8c36e 23 = .ok (.iload_n 0, 1) := by decide +kernel
theorem dJ3_checkFromIndexSize_8c36e_24 : decode cJ3_checkFromIndexSize_8c36e 24 = .ok (.ireturn, 1) := by decide +kernel
theorem dX0_init_0 : decode cX0_init 0 = .ok (.aload_n 0, 1) := by decide +kernel
theorem dX0_init_1 : decode cX0_init 1 = .ok (.invokespecial 3, 3) := by decide +kernel
theorem dX0_init_4 : decode cX0_init 4 = .ok (.aload_n 0, 1) := by decide +kernel
theorem dX0_init_5 : decode cX0_init 5 = .ok (.aload_n 1, 1) := by decide +kernel
theorem dX0_init_6 : decode cX0_init 6 = .ok (.putfield 9, 3) := by decide +kernel
theorem dX0_init_9 : decode cX0_init 9 = .ok (.aload_n 0, 1) := by decide +kernel
theorem dX0_init_10 : decode cX0_init 10 = .ok (.aload_n 2, 1) := by decide +kernel
theorem dX0_init_11 : decode cX0_init 11 = .ok (.putfield 15, 3) := by decide +kernel
theorem dX0_init_14 : decode cX0_init 14 = .ok (.return_, 1) := by decide +kernel
theorem dX0_firstMisfit_0 : decode cX0_firstMisfit 0 = .ok (.aload_n 0, 1) := by decide +kernel
theorem dX0_firstMisfit_1 : decode cX0_firstMisfit 1 = .ok (.getfield 15, 3) := by decide +kernel
theorem dX0_firstMisfit_4 : decode cX0_firstMisfit 4 = .ok (.invokevirtual 19, 3) := by decide +kernel
theorem dX0_firstMisfit_7 : decode cX0_firstMisfit 7 = .ok (.aload_n 0, 1) := by decide +kernel
theorem dX0_firstMisfit_8 : decode cX0_firstMisfit 8 = .ok (.iconst 0, 1) := by decide +kernel
theorem dX0_firstMisfit_9 : decode cX0_firstMisfit 9 = .ok (.putfield 24, 3) := by decide +kernel
theorem dX0_firstMisfit_12 : decode cX0_firstMisfit 12 = .ok (.iconst 0, 1) := by decide +kernel
theorem dX0_firstMisfit_13 : decode cX0_firstMisfit 13 = .ok (.istore_n 1, 1) := by decide +kernel
theorem dX0_firstMisfit_14 : decode cX0_firstMisfit 14 = .ok (.iload_n 1, 1) := by decide +kernel
theorem dX0_firstMisfit_15 : decode cX0_firstMisfit 15 = .ok (.sipush 400, 3) := by decide +kernel
theorem dX0_firstMisfit_18 : decode cX0_firstMisfit 18 = .ok (.if_icmp .ge 38, 3) := by decide +kernel
theorem dX0_firstMisfit_21 : decode cX0_firstMisfit 21 = .ok (.aload_n 0, 1) := by decide +kernel
theorem dX0_firstMisfit_22 : decode cX0_firstMisfit 22 = .ok (.iconst 0, 1) := by decide +kernel
theorem dX0_firstMisfit_23 : decode cX0_firstMisfit 23 = .ok (.invokevirtual 28, 3) := by decide +kernel
theorem dX0_firstMisfit_26 : decode cX0_firstMisfit 26 = .ok (.ifCond .ne 30, 3) := by decide +kernel
theorem dX0_firstMisfit_29 : decode cX0_firstMisfit 29 = .ok (.aload_n 0, 1) := by decide +kernel
theorem dX0_firstMisfit_30 : decode cX0_firstMisfit 30 = .ok (.invokevirtual 32, 3) := by decide +kernel
theorem dX0_firstMisfit_33 : decode cX0_firstMisfit 33 = .ok (.ifCond .eq 12, 3) := by decide +kernel
theorem dX0_firstMisfit_36 : decode cX0_firstMisfit 36 = .ok (.aload_n 0, 1) := by decide +kernel
theorem dX0_firstMisfit_37 : decode cX0_firstMisfit 37 = .ok (.bipush 59, 2) := by decide +kernel
theorem dX0_firstMisfit_39 : decode cX0_firstMisfit 39 = .ok (.invokevirtual 36, 3) := by decide +kernel
theorem dX0_firstMisfit_42 : decode cX0_firstMisfit 42 = .ok (.ifCond .ne 8, 3) := by decide +kernel
theorem dX0_firstMisfit_45 : decode cX0_firstMisfit 45 = .ok (.aload_n 0, 1) := by decide +kernel
theorem dX0_firstMisfit_46 : decode cX0_firstMisfit 46 = .ok (.getfield 24, 3) := by decide +kernel
theorem dX0_firstMisfit_49 : decode cX0_firstMisfit 49 = .ok (.ireturn, 1) := by decide +kernel
theorem dX0_firstMisfit_50 : decode cX0_firstMisfit 50 = .ok (.iinc 1 1, 3) := by decide +kernel
theorem dX0_firstMisfit_53 : decode cX0_firstMisfit 53 = .ok (.goto (-39), 3) := by decide +kernel
theorem dX0_firstMisfit_56 : decode cX0_firstMisfit 56 = .ok (.aload_n 0, 1) := by decide +kernel
theorem dX0_firstMisfit_57 : decode cX0_firstMisfit 57 = .ok (.iconst 0, 1) := by decide +kernel
theorem dX0_firstMisfit_58 : decode cX0_firstMisfit 58 = .ok (.invokevirtual 28, 3) := by decide +kernel
theorem dX0_firstMisfit_61 : decode cX0_firstMisfit 61 = .ok (.ifCond .eq 7, 3) := by decide +kernel
theorem dX0_firstMisfit_64 : decode cX0_firstMisfit 64 = .ok (.iconst (-1), 1) := by decide +kernel
theorem dX0_firstMisfit_65 : decode cX0_firstMisfit 65 = .ok (.goto 7, 3) := by decide +kernel
theorem dX0_firstMisfit_68 : decode cX0_firstMisfit 68 = .ok (.aload_n 0, 1) := by decide +kernel
theorem dX0_firstMisfit_69 : decode cX0_firstMisfit 69 = .ok (.getfield 24, 3) := by decide +kernel
theorem dX0_firstMisfit_72 : decode cX0_firstMisfit 72 = .ok (.ireturn, 1) := by decide +kernel
theorem dX0_isNext_0 : decode cX0_isNext 0 = .ok (.aload_n 0, 1) := by decide +kernel
theorem dX0_isNext_1 : decode cX0_isNext 1 = .ok (.getfield 9, 3) := by decide +kernel
theorem dX0_isNext_4 : decode cX0_isNext 4 = .ok (.aload_n 0, 1) := by decide +kernel
theorem dX0_isNext_5 : decode cX0_isNext 5 = .ok (.getfield 24, 3) := by decide +kernel
theorem dX0_isNext_8 : decode cX0_isNext 8 = .ok (.invokevirtual 39, 3) := by decide +kernel
theorem dX0_isNext_11 : decode cX0_isNext 11 = .ok (.iload_n 1, 1) := by decide +kernel
theorem dX0_isNext_12 : decode cX0_isNext 12 = .ok (.if_icmp .ne 7, 3) := by decide +kernel
theorem dX0_isNext_15 : decode cX0_isNext 15 = .ok (.iconst 1, 1) := by decide +kernel
theorem dX0_isNext_16 : decode cX0_isNext 16 = .ok (.goto 4, 3) := by decide +kernel
theorem dX0_isNext_19 : decode cX0_isNext 19 = .ok (.iconst 0, 1) := by decide +kernel
theorem dX0_isNext_20 : decode cX0_isNext 20 = .ok (.ireturn, 1) := by decide +kernel
theorem dX0_take_0 : decode cX0_take 0 = .ok (.aload_n 0, 1) := by decide +kernel
theorem dX0_take_1 : decode cX0_take 1 = .ok (.getfield 9, 3) := by decide +kernel
theorem dX0_take_4 : decode cX0_take 4 = .ok (.aload_n 0, 1) := by decide +kernel
theorem dX0_take_5 : decode cX0_take 5 = .ok (.getfield 24, 3) := by decide +kernel
theorem dX0_take_8 : decode cX0_take 8 = .ok (.invokevirtual 39, 3) := by decide +kernel
theorem dX0_take_11 : decode cX0_take 11 = .ok (.iload_n 1, 1) := by decide +kernel
theorem dX0_take_12 : decode cX0_take 12 = .ok (.if_icmp .eq 5, 3) := by decide +kernel
theorem dX0_take_15 : decode cX0_take 15 = .ok (.iconst 0, 1) := by decide +kernel
theorem dX0_take_16 : decode cX0_take 16 = .ok (.ireturn, 1) := by decide +kernel
theorem dX0_take_17 : decode cX0_take 17 = .ok (.aload_n 0, 1) := by decide +kernel
theorem dX0_take_18 : decode cX0_take 18 = .ok (.dup, 1) := by decide +kernel
theorem dX0_take_19 : decode cX0_take 19 = .ok (.getfield 24, 3) := by decide +kernel
theorem dX0_take_22 : decode cX0_take 22 = .ok (.iconst 1, 1) := by decide +kernel
theorem dX0_take_23 : decode cX0_take 23 = .ok (.iadd, 1) := by decide +kernel
theorem dX0_take_24 : decode cX0_take 24 = .ok (.putfield 24, 3) := by decide +kernel
theorem dX0_take_27 : decode cX0_take 27 = .ok (.iconst 1, 1) := by decide +kernel
theorem dX0_take_28 : decode cX0_take 28 = .ok (.ireturn, 1) := by decide +kernel
theorem dX0_line_0 : decode cX0_line 0 = .ok (.aload_n 0, 1) := by decide +kernel
theorem dX0_line_1 : decode cX0_line 1 = .ok (.sipush 128, 3) := by decide +kernel
theorem dX0_line_4 : decode cX0_line 4 = .ok (.invokevirtual 36, 3) := by decide +kernel
theorem dX0_line_7 : decode cX0_line 7 = .ok (.ifCond .eq 8, 3) := by decide +kernel
theorem dX0_line_10 : decode cX0_line 10 = .ok (.aload_n 0, 1) := by decide +kernel
theorem dX0_line_11 : decode cX0_line 11 = .ok (.invokevirtual 45, 3) := by decide +kernel
theorem dX0_line_14 : decode cX0_line 14 = .ok (.ireturn, 1) := by decide +kernel
theorem dX0_line_15 : decode cX0_line 15 = .ok (.aload_n 0, 1) := by decide +kernel
theorem dX0_line_16 : decode cX0_line 16 = .ok (.sipush 131, 3) := by decide +kernel
theorem dX0_line_19 : decode cX0_line 19 = .ok (.invokevirtual 36, 3) := by decide +kernel
theorem dX0_line_22 : decode cX0_line 22 = .ok (.ifCond .ne 13, 3) := by decide +kernel
theorem dX0_line_25 : decode cX0_line 25 = .ok (.aload_n 0, 1) := by decide +kernel
theorem dX0_line_26 : decode cX0_line 26 = .ok (.sipush 132, 3) := by decide +kernel
theorem dX0_line_29 : decode cX0_line 29 = .ok (.invokevirtual 36, 3) := by decide +kernel
theorem dX0_line_32 : decode cX0_line 32 = .ok (.ifCond .eq 9, 3) := by decide +kernel
theorem dX0_line_35 : decode cX0_line 35 = .ok (.aload_n 0, 1) := by decide +kernel
theorem dX0_line_36 : decode cX0_line 36 = .ok (.iconst 3, 1) := by decide +kernel
theorem dX0_line_37 : decode cX0_line 37 = .ok (.invokevirtual 36, 3) := by decide +kernel
theorem dX0_line_40 : decode cX0_line 40 = .ok (.ireturn, 1) := by decide +kernel
theorem dX0_line_41 : decode cX0_line 41 = .ok (.aload_n 0, 1) := by decide +kernel
theorem dX0_line_42 : decode cX0_line 42 = .ok (.getfield 9, 3) := by decide +kernel
theorem dX0_line_45 : decode cX0_line 45 = .ok (.aload_n 0, 1) := by decide +kernel
theorem dX0_line_46 : decode cX0_line 46 = .ok (.getfield 24, 3) := by decide +kernel
theorem dX0_line_49 : decode cX0_line 49 = .ok (.invokevirtual 39, 3) := by decide +kernel
theorem dX0_line_52 : decode cX0_line 52 = .ok (.istore_n 1, 1) := by decide +kernel
theorem dX0_line_53 : decode cX0_line 53 = .ok (.aload_n 0, 1) := by decide +kernel
theorem dX0_line_54 : decode cX0_line 54 = .ok (.getfield 24, 3) := by decide +kernel
theorem dX0_line_57 : decode cX0_line 57 = .ok (.iconst 1, 1) := by decide +kernel
theorem dX0_line_58 : decode cX0_line 58 = .ok (.iadd, 1) := by decide +kernel
theorem dX0_line_59 : decode cX0_line 59 = .ok (.istore_n 2, 1) := by decide +kernel
theorem dX0_line_60 : decode cX0_line 60 = .ok (.aload_n 0, 1) := by decide +kernel
theorem dX0_line_61 : decode cX0_line 61 = .ok (.iload_n 1, 1) := by decide +kernel
theorem dX0_line_62 : decode cX0_line 62 = .ok (.invokevirtual 48, 3) := by decide +kernel
theorem dX0_line_65 : decode cX0_line 65 = .ok (.ifCond .ne 5, 3) := by decide +kernel
theorem dX0_line_68 : decode cX0_line 68 = .ok (.iconst 0, 1) := by decide +kernel
theorem dX0_line_69 : decode cX0_line 69 = .ok (.ireturn, 1) := by decide +kernel
theorem dX0_line_70 : decode cX0_line 70 = .ok (.aload_n 0, 1) := by decide +kernel
theorem dX0_line_71 : decode cX0_line 71 = .ok (.sipush 139, 3) := by decide +kernel
theorem dX0_line_74 : decode cX0_line 74 = .ok (.invokevirtual 36, 3) := by decide +kernel
theorem dX0_line_77 : decode cX0_line 77 = .ok (.ifCond .ne 16, 3) := by decide +kernel
theorem dX0_line_80 : decode cX0_line 80 = .ok (.aload_n 0, 1) := by decide +kernel
theorem dX0_line_81 : decode cX0_line 81 = .ok (.getfield 15, 3) := by decide +kernel
theorem dX0_line_84 : decode cX0_line 84 = .ok (.bipush 7, 2) := by decide +kernel
theorem dX0_line_86 : decode cX0_line 86 = .ok (.iload_n 2, 1) := by decide +kernel
theorem dX0_line_87 : decode cX0_line 87 = .ok (.invokevirtual 51, 3) := by decide +kernel
theorem dX0_line_90 : decode cX0_line 90 = .ok (.goto 13, 3) := by decide +kernel
theorem dX0_line_93 : decode cX0_line 93 = .ok (.aload_n 0, 1) := by decide +kernel
theorem dX0_line_94 : decode cX0_line 94 = .ok (.iconst 0, 1) := by decide +kernel
theorem dX0_line_95 : decode cX0_line 95 = .ok (.invokevirtual 55, 3) := by decide +kernel
theorem dX0_line_98 : decode cX0_line 98 = .ok (.ifCond .ne 5, 3) := by decide +kernel
theorem dX0_line_101 : decode cX0_line 101 = .ok (.iconst 0, 1) := by decide +kernel
theorem dX0_line_102 : decode cX0_line 102 = .ok (.ireturn, 1) := by decide +kernel
theorem dX0_line_103 : decode cX0_line 103 = .ok (.aload_n 0, 1) := by decide +kernel
theorem dX0_line_104 : decode cX0_line 104 = .ok (.getfield 15, 3) := by decide +kernel
theorem dX0_line_107 : decode cX0_line 107 = .ok (.iload_n 1, 1) := by decide +kernel
theorem dX0_line_108 : decode cX0_line 108 = .ok (.iload_n 2, 1) := by decide +kernel
theorem dX0_line_109 : decode cX0_line 109 = .ok (.invokevirtual 51, 3) := by decide +kernel
theorem dX0_line_112 : decode cX0_line 112 = .ok (.iconst 1, 1) := by decide +kernel
theorem dX0_line_113 : decode cX0_line 113 = .ok (.ireturn, 1) := by decide +kernel
theorem dX0_mirror_0 : decode cX0_mirror 0 = .ok (.aload_n 0, 1) := by decide +kernel
theorem dX0_mirror_1 : decode cX0_mirror 1 = .ok (.iconst 2, 1) := by decide +kernel
theorem dX0_mirror_2 : decode cX0_mirror 2 = .ok (.invokevirtual 36, 3) := by decide +kernel
theorem dX0_mirror_5 : decode cX0_mirror 5 = .ok (.ifCond .eq 31, 3) := by decide +kernel
theorem dX0_mirror_8 : decode cX0_mirror 8 = .ok (.aload_n 0, 1) := by decide +kernel
theorem dX0_mirror_9 : decode cX0_mirror 9 = .ok (.sipush 129, 3) := by decide +kernel
theorem dX0_mirror_12 : decode cX0_mirror 12 = .ok (.invokevirtual 36, 3) := by decide +kernel
theorem dX0_mirror_15 : decode cX0_mirror 15 = .ok (.ifCond .eq 21, 3) := by decide +kernel
theorem dX0_mirror_18 : decode cX0_mirror 18 = .ok (.aload_n 0, 1) := by decide +kernel
theorem dX0_mirror_19 : decode cX0_mirror 19 = .ok (.iconst 3, 1) := by decide +kernel
theorem dX0_mirror_20 : decode cX0_mirror 20 = .ok (.invokevirtual 36, 3) := by decide +kernel
theorem dX0_mirror_23 : decode cX0_mirror 23 = .ok (.ifCond .eq 13, 3) := by decide +kernel
theorem dX0_mirror_26 : decode cX0_mirror 26 = .ok (.aload_n 0, 1) := by decide +kernel
theorem dX0_mirror_27 : decode cX0_mirror 27 = .ok (.sipush 130, 3) := by decide +kernel
theorem dX0_mirror_30 : decode cX0_mirror 30 = .ok (.invokevirtual 36, 3) := by decide +kernel
theorem dX0_mirror_33 : decode cX0_mirror 33 = .ok (.ifCond .ne 5, 3) := by decide +kernel
theorem dX0_mirror_36 : decode cX0_mirror 36 = .ok (.iconst 0, 1) := by decide +kernel
theorem dX0_mirror_37 : decode cX0_mirror 37 = .ok (.ireturn, 1) := by decide +kernel
theorem dX0_mirror_38 : decode cX0_mirror 38 = .ok (.aload_n 0, 1) := by decide +kernel
theorem dX0_mirror_39 : decode cX0_mirror 39 = .ok (.bipush 45, 2) := by decide +kernel
theorem dX0_mirror_41 : decode cX0_mirror 41 = .ok (.invokevirtual 36, 3) := by decide +kernel
theorem dX0_mirror_44 : decode cX0_mirror 44 = .ok (.pop, 1) := by decide +kernel
theorem dX0_mirror_45 : decode cX0_mirror 45 = .ok (.aload_n 0, 1) := by decide +kernel
theorem dX0_mirror_46 : decode cX0_mirror 46 = .ok (.iconst 3, 1) := by decide +kernel
theorem dX0_mirror_47 : decode cX0_mirror 47 = .ok (.invokevirtual 36, 3) := by decide +kernel
theorem dX0_mirror_50 : decode cX0_mirror 50 = .ok (.ireturn, 1) := by decide +kernel
theorem dX0_order_0 : decode cX0_order 0 = .ok (.iload_n 1, 1) := by decide +kernel
theorem dX0_order_1 : decode cX0_order 1 = .ok (.invokestatic 58, 3) := by decide +kernel
theorem dX0_order_4 : decode cX0_order 4 = .ok (.ifCond .eq 19, 3) := by decide +kernel
theorem dX0_order_7 : decode cX0_order 7 = .ok (.aload_n 0, 1) := by decide +kernel
theorem dX0_order_8 : decode cX0_order 8 = .ok (.iload_n 1, 1) := by decide +kernel
theorem dX0_order_9 : decode cX0_order 9 = .ok (.invokevirtual 36, 3) := by decide +kernel
theorem dX0_order_12 : decode cX0_order 12 = .ok (.ifCond .eq 11, 3) := by decide +kernel
theorem dX0_order_15 : decode cX0_order 15 = .ok (.aload_n 0, 1) := by decide +kernel
theorem dX0_order_16 : decode cX0_order 16 = .ok (.iconst 2, 1) := by decide +kernel
theorem dX0_order_17 : decode cX0_order 17 = .ok (.invokevirtual 36, 3) := by decide +kernel
theorem dX0_order_20 : decode cX0_order 20 = .ok (.ifCond .ne 5, 3) := by decide +kernel
theorem dX0_order_23 : decode cX0_order 23 = .ok (.iconst 0, 1) := by decide +kernel
theorem dX0_order_24 : decode cX0_order 24 = .ok (.ireturn, 1) := by decide +kernel
theorem dX0_order_25 : decode cX0_order 25 = .ok (.iload_n 1, 1) := by decide +kernel
theorem dX0_order_26 : decode cX0_order 26 = .ok (.invokestatic 61, 3) := by decide +kernel
theorem dX0_order_29 : decode cX0_order 29 = .ok (.ifCond .eq 21, 3) := by decide +kernel
theorem dX0_order_32 : decode cX0_order 32 = .ok (.aload_n 0, 1) := by decide +kernel
theorem dX0_order_33 : decode cX0_order 33 = .ok (.sipush 134, 3) := by decide +kernel
theorem dX0_order_36 : decode cX0_order 36 = .ok (.invokevirtual 36, 3) := by decide +kernel
theorem dX0_order_39 : decode cX0_order 39 = .ok (.ifCond .eq 15, 3) := by decide +kernel
theorem dX0_order_42 : decode cX0_order 42 = .ok (.aload_n 0, 1) := by decide +kernel
theorem dX0_order_43 : decode cX0_order 43 = .ok (.iconst 0, 1) := by decide +kernel
theorem dX0_order_44 : decode cX0_order 44 = .ok (.invokevirtual 64, 3) := by decide +kernel
theorem dX0_order_47 : decode cX0_order 47 = .ok (.ifCond .eq 7, 3) := by decide +kernel
theorem dX0_order_50 : decode cX0_order 50 = .ok (.iconst 1, 1) := by decide +kernel
theorem dX0_order_51 : decode cX0_order 51 = .ok (.goto 4, 3) := by decide +kernel
theorem dX0_order_54 : decode cX0_order 54 = .ok (.iconst 0, 1) := by decide +kernel
theorem dX0_order_55 : decode cX0_order 55 = .ok (.ireturn, 1) := by decide +kernel
theorem dX0_test_0 : decode cX0_test 0 = .ok (.aload_n 0, 1) := by decide +kernel
theorem dX0_test_1 : decode cX0_test 1 = .ok (.iload_n 1, 1) := by decide +kernel
theorem dX0_test_2 : decode cX0_test 2 = .ok (.invokevirtual 67, 3) := by decide +kernel
theorem dX0_test_5 : decode cX0_test 5 = .ok (.ifCond .ne 5, 3) := by decide +kernel
theorem dX0_test_8 : decode cX0_test 8 = .ok (.iconst 0, 1) := by decide +kernel
theorem dX0_test_9 : decode cX0_test 9 = .ok (.ireturn, 1) := by decide +kernel
theorem dX0_test_10 : decode cX0_test 10 = .ok (.iconst 0, 1) := by decide +kernel
theorem dX0_test_11 : decode cX0_test 11 = .ok (.istore_n 2, 1) := by decide +kernel
theorem dX0_test_12 : decode cX0_test 12 = .ok (.iload_n 2, 1) := by decide +kernel
theorem dX0_test_13 : decode cX0_test 13 = .ok (.sipush 400, 3) := by decide +kernel
theorem dX0_test_16 : decode cX0_test 16 = .ok (.if_icmp .ge 43, 3) := by decide +kernel
theorem dX0_test_19 : decode cX0_test 19 = .ok (.aload_n 0, 1) := by decide +kernel
theorem dX0_test_20 : decode cX0_test 20 = .ok (.sipush 151, 3) := by decide +kernel
theorem dX0_test_23 : decode cX0_test 23 = .ok (.invokevirtual 36, 3) := by decide +kernel
theorem dX0_test_26 : decode cX0_test 26 = .ok (.ifCond .eq 33, 3) := by decide +kernel
theorem dX0_test_29 : decode cX0_test 29 = .ok (.aload_n 0, 1) := by decide +kernel
theorem dX0_test_30 : decode cX0_test 30 = .ok (.iload_n 1, 1) := by decide +kernel
theorem dX0_test_31 : decode cX0_test 31 = .ok (.invokevirtual 67, 3) := by decide +kernel
theorem dX0_test_34 : decode cX0_test 34 = .ok (.ifCond .ne 5, 3) := by decide +kernel
theorem dX0_test_37 : decode cX0_test 37 = .ok (.iconst 0, 1) := by decide +kernel
theorem dX0_test_38 : decode cX0_test 38 = .ok (.ireturn, 1) := by decide +kernel
theorem dX0_test_39 : decode cX0_test 39 = .ok (.aload_n 0, 1) := by decide +kernel
theorem dX0_test_40 : decode cX0_test 40 = .ok (.getfield 15, 3) := by decide +kernel
theorem dX0_test_43 : decode cX0_test 43 = .ok (.sipush 151, 3) := by decide +kernel
theorem dX0_test_46 : decode cX0_test 46 = .ok (.aload_n 0, 1) := by decide +kernel
theorem dX0_test_47 : decode cX0_test 47 = .ok (.getfield 24, 3) := by decide +kernel
theorem dX0_test_50 : decode cX0_test 50 = .ok (.invokevirtual 51, 3) := by decide +kernel
theorem dX0_test_53 : decode cX0_test 53 = .ok (.iinc 2 1, 3) := by decide +kernel
theorem dX0_test_56 : decode cX0_test 56 = .ok (.goto (-44), 3) := by decide +kernel
theorem dX0_test_59 : decode cX0_test 59 = .ok (.iconst 1, 1) := by decide +kernel
theorem dX0_test_60 : decode cX0_test 60 = .ok (.ireturn, 1) := by decide +kernel
theorem dX0_both_0 : decode cX0_both 0 = .ok (.aload_n 0, 1) := by decide +kernel
theorem dX0_both_1 : decode cX0_both 1 = .ok (.iload_n 1, 1) := by decide +kernel
theorem dX0_both_2 : decode cX0_both 2 = .ok (.invokevirtual 70, 3) := by decide +kernel
theorem dX0_both_5 : decode cX0_both 5 = .ok (.ifCond .ne 5, 3) := by decide +kernel
theorem dX0_both_8 : decode cX0_both 8 = .ok (.iconst 0, 1) := by decide +kernel
theorem dX0_both_9 : decode cX0_both 9 = .ok (.ireturn, 1) := by decide +kernel
theorem dX0_both_10 : decode cX0_both 10 = .ok (.iconst 0, 1) := by decide +kernel
theorem dX0_both_11 : decode cX0_both 11 = .ok (.istore_n 2, 1) := by decide +kernel
theorem dX0_both_12 : decode cX0_both 12 = .ok (.iload_n 2, 1) := by decide +kernel
theorem dX0_both_13 : decode cX0_both 13 = .ok (.sipush 400, 3) := by decide +kernel
theorem dX0_both_16 : decode cX0_both 16 = .ok (.if_icmp .ge 43, 3) := by decide +kernel
theorem dX0_both_19 : decode cX0_both 19 = .ok (.aload_n 0, 1) := by decide +kernel
theorem dX0_both_20 : decode cX0_both 20 = .ok (.sipush 150, 3) := by decide +kernel
theorem dX0_both_23 : decode cX0_both 23 = .ok (.invokevirtual 36, 3) := by decide +kernel
theorem dX0_both_26 : decode cX0_both 26 = .ok (.ifCond .eq 33, 3) := by decide +kernel
theorem dX0_both_29 : decode cX0_both 29 = .ok (.aload_n 0, 1) := by decide +kernel
theorem dX0_both_30 : decode cX0_both 30 = .ok (.iload_n 1, 1) := by decide +kernel
theorem dX0_both_31 : decode cX0_both 31 = .ok (.invokevirtual 70, 3) := by decide +kernel
theorem dX0_both_34 : decode cX0_both 34 = .ok (.ifCond .ne 5, 3) := by decide +kernel
theorem dX0_both_37 : decode cX0_both 37 = .ok (.iconst 0, 1) := by decide +kernel
theorem dX0_both_38 : decode cX0_both 38 = .ok (.ireturn, 1) := by decide +kernel
theorem dX0_both_39 : decode cX0_both 39 = .ok (.aload_n 0, 1) := by decide +kernel
theorem dX0_both_40 : decode cX0_both 40 = .ok (.getfield 15, 3) := by decide +kernel
theorem dX0_both_43 : decode cX0_both 43 = .ok (.sipush 150, 3) := by decide +kernel
theorem dX0_both_46 : decode cX0_both 46 = .ok (.aload_n 0, 1) := by decide +kernel
theorem dX0_both_47 : decode cX0_both 47 = .ok (.getfield 24, 3) := by decide +kernel
theorem dX0_both_50 : decode cX0_both 50 = .ok (.invokevirtual 51, 3) := by decide +kernel
theorem dX0_both_53 : decode cX0_both 53 = .ok (.iinc 2 1, 3) := by decide +kernel
theorem dX0_both_56 : decode cX0_both 56 = .ok (.goto (-44), 3) := by decide +kernel
theorem dX0_both_59 : decode cX0_both 59 = .ok (.iconst 1, 1) := by decide +kernel
theorem dX0_both_60 : decode cX0_both 60 = .ok (.ireturn, 1) := by decide +kernel
theorem dX0_single_0 : decode cX0_single 0 = .ok (.aload_n 0, 1) := by decide +kernel
theorem dX0_single_1 : decode cX0_single 1 = .ok (.getfield 9, 3) := by decide +kernel
theorem dX0_single_4 : decode cX0_single 4 = .ok (.aload_n 0, 1) := by decide +kernel
theorem dX0_single_5 : decode cX0_single 5 = .ok (.getfield 24, 3) := by decide +kernel
theorem dX0_single_8 : decode cX0_single 8 = .ok (.invokevirtual 39, 3) := by decide +kernel
theorem dX0_single_11 : decode cX0_single 11 = .ok (.istore_n 2, 1) := by decide +kernel
theorem dX0_single_12 : decode cX0_single 12 = .ok (.iload_n 2, 1) := by decide +kernel
theorem dX0_single_13 : decode cX0_single 13 = .ok (.lookupswitch 189 #[(91, 87), (147, 127), (148, 149), (149, 43)], 43) := by decide +kernel
theorem dX0_single_56 : decode cX0_single 56 = .ok (.iload_n 1, 1) := by decide +kernel
theorem dX0_single_57 : decode cX0_single 57 = .ok (.bipush 8, 2) := by decide +kernel
theorem dX0_single_59 : decode cX0_single 59 = .ok (.if_icmp .ge 23, 3) := by decide +kernel
theorem dX0_single_62 : decode cX0_single 62 = .ok (.aload_n 0, 1) := by decide +kernel
theorem dX0_single_63 : decode cX0_single 63 = .ok (.sipush 149, 3) := by decide +kernel
theorem dX0_single_66 : decode cX0_single 66 = .ok (.invokevirtual 36, 3) := by decide +kernel
theorem dX0_single_69 : decode cX0_single 69 = .ok (.ifCond .eq 13, 3) := by decide +kernel
theorem dX0_single_72 : decode cX0_single 72 = .ok (.aload_n 0, 1) := by decide +kernel
theorem dX0_single_73 : decode cX0_single 73 = .ok (.iload_n 1, 1) := by decide +kernel
theorem dX0_single_74 : decode cX0_single 74 = .ok (.iconst 1, 1) := by decide +kernel
theorem dX0_single_75 : decode cX0_single 75 = .ok (.iadd, 1) := by decide +kernel
theorem dX0_single_76 : decode cX0_single 76 = .ok (.invokevirtual 70, 3) := by decide +kernel
theorem dX0_single_79 : decode cX0_single 79 = .ok (.ifCond .ne 5, 3) := by decide +kernel
theorem dX0_single_82 : decode cX0_single 82 = .ok (.iconst 0, 1) := by decide +kernel
theorem dX0_single_83 : decode cX0_single 83 = .ok (.ireturn, 1) := by decide +kernel
theorem dX0_single_84 : decode cX0_single 84 = .ok (.aload_n 0, 1) := by decide +kernel
theorem dX0_single_85 : decode cX0_single 85 = .ok (.getfield 15, 3) := by decide +kernel
theorem dX0_single_88 : decode cX0_single 88 = .ok (.sipush 149, 3) := by decide +kernel
theorem dX0_single_91 : decode cX0_single 91 = .ok (.aload_n 0, 1) := by decide +kernel
theorem dX0_single_92 : decode cX0_single 92 = .ok (.getfield 24, 3) := by decide +kernel
theorem dX0_single_95 : decode cX0_single 95 = .ok (.invokevirtual 51, 3) := by decide +kernel
theorem dX0_single_98 : decode cX0_single 98 = .ok (.iconst 1, 1) := by decide +kernel
theorem dX0_single_99 : decode cX0_single 99 = .ok (.ireturn, 1) := by decide +kernel
theorem dX0_single_100 : decode cX0_single 100 = .ok (.iload_n 1, 1) := by decide +kernel
theorem dX0_single_101 : decode cX0_single 101 = .ok (.bipush 8, 2) := by decide +kernel
theorem dX0_single_103 : decode cX0_single 103 = .ok (.if_icmp .ge 35, 3) := by decide +kernel
theorem dX0_single_106 : decode cX0_single 106 = .ok (.aload_n 0, 1) := by decide +kernel
theorem dX0_single_107 : decode cX0_single 107 = .ok (.bipush 91, 2) := by decide +kernel
theorem dX0_single_109 : decode cX0_single 109 = .ok (.invokevirtual 36, 3) := by decide +kernel
theorem dX0_single_112 : decode cX0_single 112 = .ok (.ifCond .eq 26, 3) := by decide +kernel
theorem dX0_single_115 : decode cX0_single 115 = .ok (.aload_n 0, 1) := by decide +kernel
theorem dX0_single_116 : decode cX0_single 116 = .ok (.iload_n 1, 1) := by decide +kernel
theorem dX0_single_117 : decode cX0_single 117 = .ok (.iconst 1, 1) := by decide +kernel
theorem dX0_single_118 : decode cX0_single 118 = .ok (.iadd, 1) := by decide +kernel
theorem dX0_single_119 : decode cX0_single 119 = .ok (.invokevirtual 55, 3) := by decide +kernel
theorem dX0_single_122 : decode cX0_single 122 = .ok (.ifCond .eq 16, 3) := by decide +kernel
theorem dX0_single_125 : decode cX0_single 125 = .ok (.aload_n 0, 1) := by decide +kernel
theorem dX0_single_126 : decode cX0_single 126 = .ok (.bipush 93, 2) := by decide +kernel
theorem dX0_single_128 : decode cX0_single 128 = .ok (.invokevirtual 36, 3) := by decide +kernel
theorem dX0_single_131 : decode cX0_single 131 = .ok (.ifCond .eq 7, 3) := by decide +kernel
theorem dX0_single_134 : decode cX0_single 134 = .ok (.iconst 1, 1) := by decide +kernel
theorem dX0_single_135 : decode cX0_single 135 = .ok (.goto 4, 3) := by decide +kernel
theorem dX0_single_138 : decode cX0_single 138 = .ok (.iconst 0, 1) := by decide +kernel
theorem dX0_single_139 : decode cX0_single 139 = .ok (.ireturn, 1) := by decide +kernel
theorem dX0_single_140 : decode cX0_single 140 = .ok (.aload_n 0, 1) := by decide +kernel
theorem dX0_single_141 : decode cX0_single 141 = .ok (.getfield 15, 3) := by decide +kernel
theorem dX0_single_144 : decode cX0_single 144 = .ok (.sipush 147, 3) := by decide +kernel
theorem dX0_single_147 : decode cX0_single 147 = .ok (.aload_n 0, 1) := by decide +kernel
theorem dX0_single_148 : decode cX0_single 148 = .ok (.getfield 24, 3) := by decide +kernel
theorem dX0_single_151 : decode cX0_single 151 = .ok (.invokevirtual 51, 3) := by decide +kernel
theorem dX0_single_154 : decode cX0_single 154 = .ok (.aload_n 0, 1) := by decide +kernel
theorem dX0_single_155 : decode cX0_single 155 = .ok (.sipush 147, 3) := by decide +kernel
theorem dX0_single_158 : decode cX0_single 158 = .ok (.invokevirtual 36, 3) := by decide +kernel
theorem dX0_single_161 : decode cX0_single 161 = .ok (.ireturn, 1) := by decide +kernel
theorem dX0_single_162 : decode cX0_single 162 = .ok (.aload_n 0, 1) := by decide +kernel
theorem dX0_single_163 : decode cX0_single 163 = .ok (.getfield 15, 3) := by decide +kernel
theorem dX0_single_166 : decode cX0_single 166 = .ok (.sipush 148, 3) := by decide +kernel
theorem dX0_single_169 : decode cX0_single 169 = .ok (.aload_n 0, 1) := by decide +kernel
theorem dX0_single_170 : decode cX0_single 170 = .ok (.getfield 24, 3) := by decide +kernel
theorem dX0_single_173 : decode cX0_single 173 = .ok (.iconst 1, 1) := by decide +kernel
theorem dX0_single_174 : decode cX0_single 174 = .ok (.iadd, 1) := by decide +kernel
theorem dX0_single_175 : decode cX0_single 175 = .ok (.invokevirtual 51, 3) := by decide +kernel
theorem dX0_single_178 : decode cX0_single 178 = .ok (.aload_n 0, 1) := by decide +kernel
theorem dX0_single_179 : decode cX0_single 179 = .ok (.sipush 148, 3) := by decide +kernel
theorem dX0_single_182 : decode cX0_single 182 = .ok (.invokevirtual 36, 3) := by decide +kernel
theorem dX0_single_185 : decode cX0_single 185 = .ok (.ifCond .eq 15, 3) := by decide +kernel
theorem dX0_single_188 : decode cX0_single 188 = .ok (.aload_n 0, 1) := by decide +kernel
theorem dX0_single_189 : decode cX0_single 189 = .ok (.iconst 2, 1) := by decide +kernel
theorem dX0_single_190 : decode cX0_single 190 = .ok (.invokevirtual 36, 3) := by decide +kernel
theorem dX0_single_193 : decode cX0_single 193 = .ok (.ifCond .eq 7, 3) := by decide +kernel
theorem dX0_single_196 : decode cX0_single 196 = .ok (.iconst 1, 1) := by decide +kernel
theorem dX0_single_197 : decode cX0_single 197 = .ok (.goto 4, 3) := by decide +kernel
theorem dX0_single_200 : decode cX0_single 200 = .ok (.iconst 0, 1) := by decide +kernel
theorem dX0_single_201 : decode cX0_single 201 = .ok (.ireturn, 1) := by decide +kernel
theorem dX0_single_202 : decode cX0_single 202 = .ok (.aload_n 0, 1) := by decide +kernel
theorem dX0_single_203 : decode cX0_single 203 = .ok (.iload_n 1, 1) := by decide +kernel
theorem dX0_single_204 : decode cX0_single 204 = .ok (.invokevirtual 64, 3) := by decide +kernel
theorem dX0_single_207 : decode cX0_single 207 = .ok (.ifCond .ne 5, 3) := by decide +kernel
theorem dX0_single_210 : decode cX0_single 210 = .ok (.iconst 0, 1) := by decide +kernel
theorem dX0_single_211 : decode cX0_single 211 = .ok (.ireturn, 1) := by decide +kernel
theorem dX0_single_212 : decode cX0_single 212 = .ok (.aload_n 0, 1) := by decide +kernel
theorem dX0_single_213 : decode cX0_single 213 = .ok (.getfield 9, 3) := by decide +kernel
theorem dX0_single_216 : decode cX0_single 216 = .ok (.aload_n 0, 1) := by decide +kernel
theorem dX0_single_217 : decode cX0_single 217 = .ok (.getfield 24, 3) := by decide +kernel
theorem dX0_single_220 : decode cX0_single 220 = .ok (.invokevirtual 39, 3) := by decide +kernel
theorem dX0_single_223 : decode cX0_single 223 = .ok (.istore_n 3, 1) := by decide +kernel
theorem dX0_single_224 : decode cX0_single 224 = .ok (.aload_n 0, 1) := by decide +kernel
theorem dX0_single_225 : decode cX0_single 225 = .ok (.bipush 60, 2) := by decide +kernel
theorem dX0_single_227 : decode cX0_single 227 = .ok (.invokevirtual 36, 3) := by decide +kernel
theorem dX0_single_230 : decode cX0_single 230 = .ok (.ifCond .ne 37, 3) := by decide +kernel
theorem dX0_single_233 : decode cX0_single 233 = .ok (.aload_n 0, 1) := by decide +kernel
theorem dX0_single_234 : decode cX0_single 234 = .ok (.bipush 62, 2) := by decide +kernel
theorem dX0_single_236 : decode cX0_single 236 = .ok (.invokevirtual 36, 3) := by decide +kernel
theorem dX0_single_239 : decode cX0_single 239 = .ok (.ifCond .ne 28, 3) := by decide +kernel
theorem dX0_single_242 : decode cX0_single 242 = .ok (.aload_n 0, 1) := by decide +kernel
theorem dX0_single_243 : decode cX0_single 243 = .ok (.bipush 61, 2) := by decide +kernel
theorem dX0_single_245 : decode cX0_single 245 = .ok (.invokevirtual 36, 3) := by decide +kernel
theorem dX0_single_248 : decode cX0_single 248 = .ok (.ifCond .ne 19, 3) := by decide +kernel
theorem dX0_single_251 : decode cX0_single 251 = .ok (.aload_n 0, 1) := by decide +kernel
theorem dX0_single_252 : decode cX0_single 252 = .ok (.iconst 4, 1) := by decide +kernel
theorem dX0_single_253 : decode cX0_single 253 = .ok (.invokevirtual 36, 3) := by decide +kernel
theorem dX0_single_256 : decode cX0_single 256 = .ok (.ifCond .ne 11, 3) := by decide +kernel
theorem dX0_single_259 : decode cX0_single 259 = .ok (.aload_n 0, 1) := by decide +kernel
theorem dX0_single_260 : decode cX0_single 260 = .ok (.iconst 5, 1) := by decide +kernel
theorem dX0_single_261 : decode cX0_single 261 = .ok (.invokevirtual 36, 3) := by decide +kernel
theorem dX0_single_264 : decode cX0_single 264 = .ok (.ifCond .eq 7, 3) := by decide +kernel
theorem dX0_single_267 : decode cX0_single 267 = .ok (.iconst 1, 1) := by decide +kernel
theorem dX0_single_268 : decode cX0_single 268 = .ok (.goto 4, 3) := by decide +kernel
theorem dX0_single_271 : decode cX0_single 271 = .ok (.iconst 0, 1) := by decide +kernel
theorem dX0_single_272 : decode cX0_single 272 = .ok (.istore 4, 2) := by decide +kernel
theorem dX0_single_274 : decode cX0_single 274 = .ok (.iload 4, 2) := by decide +kernel
theorem dX0_single_276 : decode cX0_single 276 = .ok (.ifCond .eq 11, 3) := by decide +kernel
theorem dX0_single_279 : decode cX0_single 279 = .ok (.aload_n 0, 1) := by decide +kernel
theorem dX0_single_280 : decode cX0_single 280 = .ok (.iload_n 1, 1) := by decide +kernel
theorem dX0_single_281 : decode cX0_single 281 = .ok (.invokevirtual 64, 3) := by decide +kernel
theorem dX0_single_284 : decode cX0_single 284 = .ok (.ifCond .ne 5, 3) := by decide +kernel
theorem dX0_single_287 : decode cX0_single 287 = .ok (.iconst 0, 1) := by decide +kernel
theorem dX0_single_288 : decode cX0_single 288 = .ok (.ireturn, 1) := by decide +kernel
theorem dX0_single_289 : decode cX0_single 289 = .ok (.aload_n 0, 1) := by decide +kernel
theorem dX0_single_290 : decode cX0_single 290 = .ok (.getfield 15, 3) := by decide +kernel
theorem dX0_single_293 : decode cX0_single 293 = .ok (.iload_n 3, 1) := by decide +kernel
theorem dX0_single_294 : decode cX0_single 294 = .ok (.aload_n 0, 1) := by decide +kernel
theorem dX0_single_295 : decode cX0_single 295 = .ok (.getfield 24, 3) := by decide +kernel
theorem dX0_single_298 : decode cX0_single 298 = .ok (.invokevirtual 51, 3) := by decide +kernel
theorem dX0_single_301 : decode cX0_single 301 = .ok (.iconst 1, 1) := by decide +kernel
theorem dX0_single_302 : decode cX0_single 302 = .ok (.ireturn, 1) := by decide +kernel
theorem dX0_sum_0 : decode cX0_sum 0 = .ok (.aload_n 0, 1) := by decide +kernel
theorem dX0_sum_1 : decode cX0_sum 1 = .ok (.iload_n 1, 1) := by decide +kernel
theorem dX0_sum_2 : decode cX0_sum 2 = .ok (.invokevirtual 73, 3) := by decide +kernel
theorem dX0_sum_5 : decode cX0_sum 5 = .ok (.ifCond .ne 5, 3) := by decide +kernel
theorem dX0_sum_8 : decode cX0_sum 8 = .ok (.iconst 0, 1) := by decide +kernel
theorem dX0_sum_9 : decode cX0_sum 9 = .ok (.ireturn, 1) := by decide +kernel
theorem dX0_sum_10 : decode cX0_sum 10 = .ok (.iconst 0, 1) := by decide +kernel
theorem dX0_sum_11 : decode cX0_sum 11 = .ok (.istore_n 2, 1) := by decide +kernel
theorem dX0_sum_12 : decode cX0_sum 12 = .ok (.iload_n 2, 1) := by decide +kernel
theorem dX0_sum_13 : decode cX0_sum 13 = .ok (.sipush 400, 3) := by decide +kernel
theorem dX0_sum_16 : decode cX0_sum 16 = .ok (.if_icmp .ge 71, 3) := by decide +kernel
theorem dX0_sum_19 : decode cX0_sum 19 = .ok (.aload_n 0, 1) := by decide +kernel
theorem dX0_sum_20 : decode cX0_sum 20 = .ok (.bipush 43, 2) := by decide +kernel
theorem dX0_sum_22 : decode cX0_sum 22 = .ok (.invokevirtual 28, 3) := by decide +kernel
theorem dX0_sum_25 : decode cX0_sum 25 = .ok (.ifCond .ne 12, 3) := by decide +kernel
theorem dX0_sum_28 : decode cX0_sum 28 = .ok (.aload_n 0, 1) := by decide +kernel
theorem dX0_sum_29 : decode cX0_sum 29 = .ok (.bipush 45, 2) := by decide +kernel
theorem dX0_sum_31 : decode cX0_sum 31 = .ok (.invokevirtual 28, 3) := by decide +kernel
theorem dX0_sum_34 : decode cX0_sum 34 = .ok (.ifCond .eq 53, 3) := by decide +kernel
theorem dX0_sum_37 : decode cX0_sum 37 = .ok (.aload_n 0, 1) := by decide +kernel
theorem dX0_sum_38 : decode cX0_sum 38 = .ok (.getfield 9, 3) := by decide +kernel
theorem dX0_sum_41 : decode cX0_sum 41 = .ok (.aload_n 0, 1) := by decide +kernel
theorem dX0_sum_42 : decode cX0_sum 42 = .ok (.getfield 24, 3) := by decide +kernel
theorem dX0_sum_45 : decode cX0_sum 45 = .ok (.invokevirtual 39, 3) := by decide +kernel
theorem dX0_sum_48 : decode cX0_sum 48 = .ok (.istore_n 3, 1) := by decide +kernel
theorem dX0_sum_49 : decode cX0_sum 49 = .ok (.aload_n 0, 1) := by decide +kernel
theorem dX0_sum_50 : decode cX0_sum 50 = .ok (.dup, 1) := by decide +kernel
theorem dX0_sum_51 : decode cX0_sum 51 = .ok (.getfield 24, 3) := by decide +kernel
theorem dX0_sum_54 : decode cX0_sum 54 = .ok (.iconst 1, 1) := by decide +kernel
theorem dX0_sum_55 : decode cX0_sum 55 = .ok (.iadd, 1) := by decide +kernel
theorem dX0_sum_56 : decode cX0_sum 56 = .ok (.putfield 24, 3) := by decide +kernel
theorem dX0_sum_59 : decode cX0_sum 59 = .ok (.aload_n 0, 1) := by decide +kernel
theorem dX0_sum_60 : decode cX0_sum 60 = .ok (.iload_n 1, 1) := by decide +kernel
theorem dX0_sum_61 : decode cX0_sum 61 = .ok (.invokevirtual 73, 3) := by decide +kernel
theorem dX0_sum_64 : decode cX0_sum 64 = .ok (.ifCond .ne 5, 3) := by decide +kernel
theorem dX0_sum_67 : decode cX0_sum 67 = .ok (.iconst 0, 1) := by decide +kernel
theorem dX0_sum_68 : decode cX0_sum 68 = .ok (.ireturn, 1) := by decide +kernel
theorem dX0_sum_69 : decode cX0_sum 69 = .ok (.aload_n 0, 1) := by decide +kernel
theorem dX0_sum_70 : decode cX0_sum 70 = .ok (.getfield 15, 3) := by decide +kernel
theorem dX0_sum_73 : decode cX0_sum 73 = .ok (.iload_n 3, 1) := by decide +kernel
theorem dX0_sum_74 : decode cX0_sum 74 = .ok (.aload_n 0, 1) := by decide +kernel
theorem dX0_sum_75 : decode cX0_sum 75 = .ok (.getfield 24, 3) := by decide +kernel
theorem dX0_sum_78 : decode cX0_sum 78 = .ok (.invokevirtual 51, 3) := by decide +kernel
theorem dX0_sum_81 : decode cX0_sum 81 = .ok (.iinc 2 1, 3) := by decide +kernel
theorem dX0_sum_84 : decode cX0_sum 84 = .ok (.goto (-72), 3) := by decide +kernel
theorem dX0_sum_87 : decode cX0_sum 87 = .ok (.iconst 1, 1) := by decide +kernel
theorem dX0_sum_88 : decode cX0_sum 88 = .ok (.ireturn, 1) := by decide +kernel
theorem dX0_product_0 : decode cX0_product 0 = .ok (.aload_n 0, 1) := by decide +kernel
theorem dX0_product_1 : decode cX0_product 1 = .ok (.iload_n 1, 1) := by decide +kernel
theorem dX0_product_2 : decode cX0_product 2 = .ok (.invokevirtual 76, 3) := by decide +kernel
theorem dX0_product_5 : decode cX0_product 5 = .ok (.ifCond .ne 5, 3) := by decide +kernel
theorem dX0_product_8 : decode cX0_product 8 = .ok (.iconst 0, 1) := by decide +kernel
theorem dX0_product_9 : decode cX0_product 9 = .ok (.ireturn, 1) := by decide +kernel
theorem dX0_product_10 : decode cX0_product 10 = .ok (.iconst 0, 1) := by decide +kernel
theorem dX0_product_11 : decode cX0_product 11 = .ok (.istore_n 2, 1) := by decide +kernel
theorem dX0_product_12 : decode cX0_product 12 = .ok (.iload_n 2, 1) := by decide +kernel
theorem dX0_product_13 : decode cX0_product 13 = .ok (.sipush 400, 3) := by decide +kernel
theorem dX0_product_16 : decode cX0_product 16 = .ok (.if_icmp .ge 71, 3) := by decide +kernel
theorem dX0_product_19 : decode cX0_product 19 = .ok (.aload_n 0, 1) := by decide +kernel
theorem dX0_product_20 : decode cX0_product 20 = .ok (.bipush 42, 2) := by decide +kernel
theorem dX0_product_22 : decode cX0_product 22 = .ok (.invokevirtual 28, 3) := by decide +kernel
theorem dX0_product_25 : decode cX0_product 25 = .ok (.ifCond .ne 12, 3) := by decide +kernel
theorem dX0_product_28 : decode cX0_product 28 = .ok (.aload_n 0, 1) := by decide +kernel
theorem dX0_product_29 : decode cX0_product 29 = .ok (.bipush 47, 2) := by decide +kernel
theorem dX0_product_31 : decode cX0_product 31 = .ok (.invokevirtual 28, 3) := by decide +kernel
theorem dX0_product_34 : decode cX0_product 34 = .ok (.ifCond .eq 53, 3) := by decide +kernel
theorem dX0_product_37 : decode cX0_product 37 = .ok (.aload_n 0, 1) := by decide +kernel
theorem dX0_product_38 : decode cX0_product 38 = .ok (.getfield 9, 3) := by decide +kernel
theorem dX0_product_41 : decode cX0_product 41 = .ok (.aload_n 0, 1) := by decide +kernel
theorem dX0_product_42 : decode cX0_product 42 = .ok (.getfield 24, 3) := by decide +kernel
theorem dX0_product_45 : decode cX0_product 45 = .ok (.invokevirtual 39, 3) := by decide +kernel
theorem dX0_product_48 : decode cX0_product 48 = .ok (.istore_n 3, 1) := by decide +kernel
theorem dX0_product_49 : decode cX0_product 49 = .ok (.aload_n 0, 1) := by decide +kernel
theorem dX0_product_50 : decode cX0_product 50 = .ok (.dup, 1) := by decide +kernel
theorem dX0_product_51 : decode cX0_product 51 = .ok (.getfield 24, 3) := by decide +kernel
theorem dX0_product_54 : decode cX0_product 54 = .ok (.iconst 1, 1) := by decide +kernel
theorem dX0_product_55 : decode cX0_product 55 = .ok (.iadd, 1) := by decide +kernel
theorem dX0_product_56 : decode cX0_product 56 = .ok (.putfield 24, 3) := by decide +kernel
theorem dX0_product_59 : decode cX0_product 59 = .ok (.aload_n 0, 1) := by decide +kernel
theorem dX0_product_60 : decode cX0_product 60 = .ok (.iload_n 1, 1) := by decide +kernel
theorem dX0_product_61 : decode cX0_product 61 = .ok (.invokevirtual 76, 3) := by decide +kernel
theorem dX0_product_64 : decode cX0_product 64 = .ok (.ifCond .ne 5, 3) := by decide +kernel
theorem dX0_product_67 : decode cX0_product 67 = .ok (.iconst 0, 1) := by decide +kernel
theorem dX0_product_68 : decode cX0_product 68 = .ok (.ireturn, 1) := by decide +kernel
theorem dX0_product_69 : decode cX0_product 69 = .ok (.aload_n 0, 1) := by decide +kernel
theorem dX0_product_70 : decode cX0_product 70 = .ok (.getfield 15, 3) := by decide +kernel
theorem dX0_product_73 : decode cX0_product 73 = .ok (.iload_n 3, 1) := by decide +kernel
theorem dX0_product_74 : decode cX0_product 74 = .ok (.aload_n 0, 1) := by decide +kernel
theorem dX0_product_75 : decode cX0_product 75 = .ok (.getfield 24, 3) := by decide +kernel
theorem dX0_product_78 : decode cX0_product 78 = .ok (.invokevirtual 51, 3) := by decide +kernel
theorem dX0_product_81 : decode cX0_product 81 = .ok (.iinc 2 1, 3) := by decide +kernel
theorem dX0_product_84 : decode cX0_product 84 = .ok (.goto (-72), 3) := by decide +kernel
theorem dX0_product_87 : decode cX0_product 87 = .ok (.iconst 1, 1) := by decide +kernel
theorem dX0_product_88 : decode cX0_product 88 = .ok (.ireturn, 1) := by decide +kernel
theorem dX0_value_0 : decode cX0_value 0 = .ok (.aload_n 0, 1) := by decide +kernel
theorem dX0_value_1 : decode cX0_value 1 = .ok (.getfield 9, 3) := by decide +kernel
theorem dX0_value_4 : decode cX0_value 4 = .ok (.aload_n 0, 1) := by decide +kernel
theorem dX0_value_5 : decode cX0_value 5 = .ok (.getfield 24, 3) := by decide +kernel
theorem dX0_value_8 : decode cX0_value 8 = .ok (.invokevirtual 39, 3) := by decide +kernel
theorem dX0_value_11 : decode cX0_value 11 = .ok (.istore_n 2, 1) := by decide +kernel
theorem dX0_value_12 : decode cX0_value 12 = .ok (.iload_n 2, 1) := by decide +kernel
theorem dX0_value_13 : decode cX0_value 13 = .ok (.lookupswitch 284 #[(3, 115), (40, 221), (45, 179), (129, 133), (130, 133), (140, 115), (141, 115), (142, 115), (143, 133), (144, 133), (145, 133), (152, 261), (153, 261)], 115) := by decide +kernel
theorem dX0_value_128 : decode cX0_value 128 = .ok (.aload_n 0, 1) := by decide +kernel
theorem dX0_value_129 : decode cX0_value 129 = .ok (.getfield 15, 3) := by decide +kernel
theorem dX0_value_132 : decode cX0_value 132 = .ok (.iload_n 2, 1) := by decide +kernel
theorem dX0_value_133 : decode cX0_value 133 = .ok (.aload_n 0, 1) := by decide +kernel
theorem dX0_value_134 : decode cX0_value 134 = .ok (.getfield 24, 3) := by decide +kernel
theorem dX0_value_137 : decode cX0_value 137 = .ok (.invokevirtual 51, 3) := by decide +kernel
theorem dX0_value_140 : decode cX0_value 140 = .ok (.aload_n 0, 1) := by decide +kernel
theorem dX0_value_141 : decode cX0_value 141 = .ok (.iload_n 2, 1) := by decide +kernel
theorem dX0_value_142 : decode cX0_value 142 = .ok (.invokevirtual 36, 3) := by decide +kernel
theorem dX0_value_145 : decode cX0_value 145 = .ok (.ireturn, 1) := by decide +kernel
theorem dX0_value_146 : decode cX0_value 146 = .ok (.aload_n 0, 1) := by decide +kernel
theorem dX0_value_147 : decode cX0_value 147 = .ok (.getfield 15, 3) := by decide +kernel
theorem dX0_value_150 : decode cX0_value 150 = .ok (.iload_n 2, 1) := by decide +kernel
theorem dX0_value_151 : decode cX0_value 151 = .ok (.aload_n 0, 1) := by decide +kernel
theorem dX0_value_152 : decode cX0_value 152 = .ok (.getfield 24, 3) := by decide +kernel
theorem dX0_value_155 : decode cX0_value 155 = .ok (.iconst 2, 1) := by decide +kernel
theorem dX0_value_156 : decode cX0_value 156 = .ok (.iadd, 1) := by decide +kernel
theorem dX0_value_157 : decode cX0_value 157 = .ok (.invokevirtual 51, 3) := by decide +kernel
theorem dX0_value_160 : decode cX0_value 160 = .ok (.aload_n 0, 1) := by decide +kernel
theorem dX0_value_161 : decode cX0_value 161 = .ok (.iload_n 2, 1) := by decide +kernel
theorem dX0_value_162 : decode cX0_value 162 = .ok (.invokevirtual 36, 3) := by decide +kernel
theorem dX0_value_165 : decode cX0_value 165 = .ok (.ifCond .eq 25, 3) := by decide +kernel
theorem dX0_value_168 : decode cX0_value 168 = .ok (.aload_n 0, 1) := by decide +kernel
theorem dX0_value_169 : decode cX0_value 169 = .ok (.sipush 146, 3) := by decide +kernel
theorem dX0_value_172 : decode cX0_value 172 = .ok (.invokevirtual 36, 3) := by decide +kernel
theorem dX0_value_175 : decode cX0_value 175 = .ok (.ifCond .eq 15, 3) := by decide +kernel
theorem dX0_value_178 : decode cX0_value 178 = .ok (.aload_n 0, 1) := by decide +kernel
theorem dX0_value_179 : decode cX0_value 179 = .ok (.iconst 2, 1) := by decide +kernel
theorem dX0_value_180 : decode cX0_value 180 = .ok (.invokevirtual 36, 3) := by decide +kernel
theorem dX0_value_183 : decode cX0_value 183 = .ok (.ifCond .eq 7, 3) := by decide +kernel
theorem dX0_value_186 : decode cX0_value 186 = .ok (.iconst 1, 1) := by decide +kernel
theorem dX0_value_187 : decode cX0_value 187 = .ok (.goto 4, 3) := by decide +kernel
theorem dX0_value_190 : decode cX0_value 190 = .ok (.iconst 0, 1) := by decide +kernel
theorem dX0_value_191 : decode cX0_value 191 = .ok (.ireturn, 1) := by decide +kernel
theorem dX0_value_192 : decode cX0_value 192 = .ok (.iload_n 1, 1) := by decide +kernel
theorem dX0_value_193 : decode cX0_value 193 = .ok (.bipush 8, 2) := by decide +kernel
theorem dX0_value_195 : decode cX0_value 195 = .ok (.if_icmp .ge 22, 3) := by decide +kernel
theorem dX0_value_198 : decode cX0_value 198 = .ok (.aload_n 0, 1) := by decide +kernel
theorem dX0_value_199 : decode cX0_value 199 = .ok (.bipush 45, 2) := by decide +kernel
theorem dX0_value_201 : decode cX0_value 201 = .ok (.invokevirtual 36, 3) := by decide +kernel
theorem dX0_value_204 : decode cX0_value 204 = .ok (.ifCond .eq 13, 3) := by decide +kernel
theorem dX0_value_207 : decode cX0_value 207 = .ok (.aload_n 0, 1) := by decide +kernel
theorem dX0_value_208 : decode cX0_value 208 = .ok (.iload_n 1, 1) := by decide +kernel
theorem dX0_value_209 : decode cX0_value 209 = .ok (.iconst 1, 1) := by decide +kernel
theorem dX0_value_210 : decode cX0_value 210 = .ok (.iadd, 1) := by decide +kernel
theorem dX0_value_211 : decode cX0_value 211 = .ok (.invokevirtual 76, 3) := by decide +kernel
theorem dX0_value_214 : decode cX0_value 214 = .ok (.ifCond .ne 5, 3) := by decide +kernel
theorem dX0_value_217 : decode cX0_value 217 = .ok (.iconst 0, 1) := by decide +kernel
theorem dX0_value_218 : decode cX0_value 218 = .ok (.ireturn, 1) := by decide +kernel
theorem dX0_value_219 : decode cX0_value 219 = .ok (.aload_n 0, 1) := by decide +kernel
theorem dX0_value_220 : decode cX0_value 220 = .ok (.getfield 15, 3) := by decide +kernel
theorem dX0_value_223 : decode cX0_value 223 = .ok (.bipush 6, 2) := by decide +kernel
theorem dX0_value_225 : decode cX0_value 225 = .ok (.aload_n 0, 1) := by decide +kernel
theorem dX0_value_226 : decode cX0_value 226 = .ok (.getfield 24, 3) := by decide +kernel
theorem dX0_value_229 : decode cX0_value 229 = .ok (.invokevirtual 51, 3) := by decide +kernel
theorem dX0_value_232 : decode cX0_value 232 = .ok (.iconst 1, 1) := by decide +kernel
theorem dX0_value_233 : decode cX0_value 233 = .ok (.ireturn, 1) := by decide +kernel
theorem dX0_value_234 : decode cX0_value 234 = .ok (.iload_n 1, 1) := by decide +kernel
theorem dX0_value_235 : decode cX0_value 235 = .ok (.bipush 8, 2) := by decide +kernel
theorem dX0_value_237 : decode cX0_value 237 = .ok (.if_icmp .ge 35, 3) := by decide +kernel
theorem dX0_value_240 : decode cX0_value 240 = .ok (.aload_n 0, 1) := by decide +kernel
theorem dX0_value_241 : decode cX0_value 241 = .ok (.bipush 40, 2) := by decide +kernel
theorem dX0_value_243 : decode cX0_value 243 = .ok (.invokevirtual 36, 3) := by decide +kernel
theorem dX0_value_246 : decode cX0_value 246 = .ok (.ifCond .eq 26, 3) := by decide +kernel
theorem dX0_value_249 : decode cX0_value 249 = .ok (.aload_n 0, 1) := by decide +kernel
theorem dX0_value_250 : decode cX0_value 250 = .ok (.iload_n 1, 1) := by decide +kernel
theorem dX0_value_251 : decode cX0_value 251 = .ok (.iconst 1, 1) := by decide +kernel
theorem dX0_value_252 : decode cX0_value 252 = .ok (.iadd, 1) := by decide +kernel
theorem dX0_value_253 : decode cX0_value 253 = .ok (.invokevirtual 64, 3) := by decide +kernel
theorem dX0_value_256 : decode cX0_value 256 = .ok (.ifCond .eq 16, 3) := by decide +kernel
theorem dX0_value_259 : decode cX0_value 259 = .ok (.aload_n 0, 1) := by decide +kernel
theorem dX0_value_260 : decode cX0_value 260 = .ok (.bipush 41, 2) := by decide +kernel
theorem dX0_value_262 : decode cX0_value 262 = .ok (.invokevirtual 36, 3) := by decide +kernel
theorem dX0_value_265 : decode cX0_value 265 = .ok (.ifCond .eq 7, 3) := by decide +kernel
theorem dX0_value_268 : decode cX0_value 268 = .ok (.iconst 1, 1) := by decide +kernel
theorem dX0_value_269 : decode cX0_value 269 = .ok (.goto 4, 3) := by decide +kernel
theorem dX0_value_272 : decode cX0_value 272 = .ok (.iconst 0, 1) := by decide +kernel
theorem dX0_value_273 : decode cX0_value 273 = .ok (.ireturn, 1) := by decide +kernel
theorem dX0_value_274 : decode cX0_value 274 = .ok (.aload_n 0, 1) := by decide +kernel
theorem dX0_value_275 : decode cX0_value 275 = .ok (.iload_n 2, 1) := by decide +kernel
theorem dX0_value_276 : decode cX0_value 276 = .ok (.invokevirtual 36, 3) := by decide +kernel
theorem dX0_value_279 : decode cX0_value 279 = .ok (.ifCond .eq 16, 3) := by decide +kernel
theorem dX0_value_282 : decode cX0_value 282 = .ok (.aload_n 0, 1) := by decide +kernel
theorem dX0_value_283 : decode cX0_value 283 = .ok (.iload_n 2, 1) := by decide +kernel
theorem dX0_value_284 : decode cX0_value 284 = .ok (.iload_n 1, 1) := by decide +kernel
theorem dX0_value_285 : decode cX0_value 285 = .ok (.invokevirtual 79, 3) := by decide +kernel
theorem dX0_value_288 : decode cX0_value 288 = .ok (.ifCond .eq 7, 3) := by decide +kernel
theorem dX0_value_291 : decode cX0_value 291 = .ok (.iconst 1, 1) := by decide +kernel
theorem dX0_value_292 : decode cX0_value 292 = .ok (.goto 4, 3) := by decide +kernel
theorem dX0_value_295 : decode cX0_value 295 = .ok (.iconst 0, 1) := by decide +kernel
theorem dX0_value_296 : decode cX0_value 296 = .ok (.ireturn, 1) := by decide +kernel
theorem dX0_value_297 : decode cX0_value 297 = .ok (.iconst 0, 1) := by decide +kernel
theorem dX0_value_298 : decode cX0_value 298 = .ok (.ireturn, 1) := by decide +kernel
theorem dX0_pair_0 : decode cX0_pair 0 = .ok (.iload_n 2, 1) := by decide +kernel
theorem dX0_pair_1 : decode cX0_pair 1 = .ok (.bipush 8, 2) := by decide +kernel
theorem dX0_pair_3 : decode cX0_pair 3 = .ok (.if_icmp .ge 22, 3) := by decide +kernel
theorem dX0_pair_6 : decode cX0_pair 6 = .ok (.aload_n 0, 1) := by decide +kernel
theorem dX0_pair_7 : decode cX0_pair 7 = .ok (.bipush 40, 2) := by decide +kernel
theorem dX0_pair_9 : decode cX0_pair 9 = .ok (.invokevirtual 36, 3) := by decide +kernel
theorem dX0_pair_12 : decode cX0_pair 12 = .ok (.ifCond .eq 13, 3) := by decide +kernel
theorem dX0_pair_15 : decode cX0_pair 15 = .ok (.aload_n 0, 1) := by decide +kernel
theorem dX0_pair_16 : decode cX0_pair 16 = .ok (.iload_n 2, 1) := by decide +kernel
theorem dX0_pair_17 : decode cX0_pair 17 = .ok (.iconst 1, 1) := by decide +kernel
theorem dX0_pair_18 : decode cX0_pair 18 = .ok (.iadd, 1) := by decide +kernel
theorem dX0_pair_19 : decode cX0_pair 19 = .ok (.invokevirtual 64, 3) := by decide +kernel
theorem dX0_pair_22 : decode cX0_pair 22 = .ok (.ifCond .ne 5, 3) := by decide +kernel
theorem dX0_pair_25 : decode cX0_pair 25 = .ok (.iconst 0, 1) := by decide +kernel
theorem dX0_pair_26 : decode cX0_pair 26 = .ok (.ireturn, 1) := by decide +kernel
theorem dX0_pair_27 : decode cX0_pair 27 = .ok (.aload_n 0, 1) := by decide +kernel
theorem dX0_pair_28 : decode cX0_pair 28 = .ok (.bipush 44, 2) := by decide +kernel
theorem dX0_pair_30 : decode cX0_pair 30 = .ok (.invokevirtual 36, 3) := by decide +kernel
theorem dX0_pair_33 : decode cX0_pair 33 = .ok (.ifCond .eq 22, 3) := by decide +kernel
theorem dX0_pair_36 : decode cX0_pair 36 = .ok (.aload_n 0, 1) := by decide +kernel
theorem dX0_pair_37 : decode cX0_pair 37 = .ok (.iload_n 2, 1) := by decide +kernel
theorem dX0_pair_38 : decode cX0_pair 38 = .ok (.iconst 1, 1) := by decide +kernel
theorem dX0_pair_39 : decode cX0_pair 39 = .ok (.iadd, 1) := by decide +kernel
theorem dX0_pair_40 : decode cX0_pair 40 = .ok (.invokevirtual 64, 3) := by decide +kernel
theorem dX0_pair_43 : decode cX0_pair 43 = .ok (.ifCond .eq 12, 3) := by decide +kernel
theorem dX0_pair_46 : decode cX0_pair 46 = .ok (.aload_n 0, 1) := by decide +kernel
theorem dX0_pair_47 : decode cX0_pair 47 = .ok (.bipush 41, 2) := by decide +kernel
theorem dX0_pair_49 : decode cX0_pair 49 = .ok (.invokevirtual 36, 3) := by decide +kernel
theorem dX0_pair_52 : decode cX0_pair 52 = .ok (.ifCond .ne 5, 3) := by decide +kernel
theorem dX0_pair_55 : decode cX0_pair 55 = .ok (.iconst 0, 1) := by decide +kernel
theorem dX0_pair_56 : decode cX0_pair 56 = .ok (.ireturn, 1) := by decide +kernel
theorem dX0_pair_57 : decode cX0_pair 57 = .ok (.aload_n 0, 1) := by decide +kernel
theorem dX0_pair_58 : decode cX0_pair 58 = .ok (.getfield 15, 3) := by decide +kernel
theorem dX0_pair_61 : decode cX0_pair 61 = .ok (.iload_n 1, 1) := by decide +kernel
theorem dX0_pair_62 : decode cX0_pair 62 = .ok (.aload_n 0, 1) := by decide +kernel
theorem dX0_pair_63 : decode cX0_pair 63 = .ok (.getfield 24, 3) := by decide +kernel
theorem dX0_pair_66 : decode cX0_pair 66 = .ok (.invokevirtual 51, 3) := by decide +kernel
theorem dX0_pair_69 : decode cX0_pair 69 = .ok (.iconst 1, 1) := by decide +kernel
theorem dX0_pair_70 : decode cX0_pair 70 = .ok (.ireturn, 1) := by decide +kernel
theorem dX1_init_0 : decode cX1_init 0 = .ok (.aload_n 0, 1) := by decide +kernel
theorem dX1_init_1 : decode cX1_init 1 = .ok (.invokespecial 3, 3) := by decide +kernel
theorem dX1_init_4 : decode cX1_init 4 = .ok (.aload_n 0, 1) := by decide +kernel
theorem dX1_init_5 : decode cX1_init 5 = .ok (.bipush 10, 2) := by decide +kernel
theorem dX1_init_7 : decode cX1_init 7 = .ok (.newarray .int, 2) := by decide +kernel
theorem dX1_init_9 : decode cX1_init 9 = .ok (.putfield 9, 3) := by decide +kernel
theorem dX1_init_12 : decode cX1_init 12 = .ok (.aload_n 0, 1) := by decide +kernel
theorem dX1_init_13 : decode cX1_init 13 = .ok (.aload_n 1, 1) := by decide +kernel
theorem dX1_init_14 : decode cX1_init 14 = .ok (.putfield 15, 3) := by decide +kernel
theorem dX1_init_17 : decode cX1_init 17 = .ok (.aload_n 0, 1) := by decide +kernel
theorem dX1_init_18 : decode cX1_init 18 = .ok (.aload_n 2, 1) := by decide +kernel
theorem dX1_init_19 : decode cX1_init 19 = .ok (.putfield 19, 3) := by decide +kernel
theorem dX1_init_22 : decode cX1_init 22 = .ok (.aload_n 0, 1) := by decide +kernel
theorem dX1_init_23 : decode cX1_init 23 = .ok (.aload_n 3, 1) := by decide +kernel
theorem dX1_init_24 : decode cX1_init 24 = .ok (.putfield 23, 3) := by decide +kernel
theorem dX1_init_27 : decode cX1_init 27 = .ok (.return_, 1) := by decide +kernel
theorem dX1_firstMistake_0 : decode cX1_firstMistake 0 = .ok (.iconst 0, 1) := by decide +kernel
theorem dX1_firstMistake_1 : decode cX1_firstMistake 1 = .ok (.istore_n 1, 1) := by decide +kernel
theorem dX1_firstMistake_2 : decode cX1_firstMistake 2 = .ok (.iload_n 1, 1) := by decide +kernel
theorem dX1_firstMistake_3 : decode cX1_firstMistake 3 = .ok (.aload_n 0, 1) := by decide +kernel
theorem dX1_firstMistake_4 : decode cX1_firstMistake 4 = .ok (.getfield 19, 3) := by decide +kernel
theorem dX1_firstMistake_7 : decode cX1_firstMistake 7 = .ok (.getfield 27, 3) := by decide +kernel
theorem dX1_firstMistake_10 : decode cX1_firstMistake 10 = .ok (.if_icmp .ge 27, 3) := by decide +kernel
theorem dX1_firstMistake_13 : decode cX1_firstMistake 13 = .ok (.aload_n 0, 1) := by decide +kernel
theorem dX1_firstMistake_14 : decode cX1_firstMistake 14 = .ok (.aload_n 0, 1) := by decide +kernel
theorem dX1_firstMistake_15 : decode cX1_firstMistake 15 = .ok (.iload_n 1, 1) := by decide +kernel
theorem dX1_firstMistake_16 : decode cX1_firstMistake 16 = .ok (.invokevirtual 33, 3) := by decide +kernel
theorem dX1_firstMistake_19 : decode cX1_firstMistake 19 = .ok (.putfield 37, 3) := by decide +kernel
theorem dX1_firstMistake_22 : decode cX1_firstMistake 22 = .ok (.aload_n 0, 1) := by decide +kernel
theorem dX1_firstMistake_23 : decode cX1_firstMistake 23 = .ok (.getfield 37, 3) := by decide +kernel
theorem dX1_firstMistake_26 : decode cX1_firstMistake 26 = .ok (.ifCond .eq 5, 3) := by decide +kernel
theorem dX1_firstMistake_29 : decode cX1_firstMistake 29 = .ok (.iload_n 1, 1) := by decide +kernel
theorem dX1_firstMistake_30 : decode cX1_firstMistake 30 = .ok (.ireturn, 1) := by decide +kernel
theorem dX1_firstMistake_31 : decode cX1_firstMistake 31 = .ok (.iinc 1 1, 3) := by decide +kernel
theorem dX1_firstMistake_34 : decode cX1_firstMistake 34 = .ok (.goto (-32), 3) := by decide +kernel
theorem dX1_firstMistake_37 : decode cX1_firstMistake 37 = .ok (.iconst (-1), 1) := by decide +kernel
theorem dX1_firstMistake_38 : decode cX1_firstMistake 38 = .ok (.ireturn, 1) := by decide +kernel
theorem dX1_errorOf_0 : decode cX1_errorOf 0 = .ok (.aload_n 0, 1) := by decide +kernel
theorem dX1_errorOf_1 : decode cX1_errorOf 1 = .ok (.getfield 19, 3) := by decide +kernel
theorem dX1_errorOf_4 : decode cX1_errorOf 4 = .ok (.iload_n 1, 1) := by decide +kernel
theorem dX1_errorOf_5 : decode cX1_errorOf 5 = .ok (.invokevirtual 40, 3) := by decide +kernel
theorem dX1_errorOf_8 : decode cX1_errorOf 8 = .ok (.istore_n 2, 1) := by decide +kernel
theorem dX1_errorOf_9 : decode cX1_errorOf 9 = .ok (.iload_n 2, 1) := by decide +kernel
theorem dX1_errorOf_10 : decode cX1_errorOf 10 = .ok (.iconst 2, 1) := by decide +kernel
theorem dX1_errorOf_11 : decode cX1_errorOf 11 = .ok (.if_icmp .ne 43, 3) := by decide +kernel
theorem dX1_errorOf_14 : decode cX1_errorOf 14 = .ok (.aload_n 0, 1) := by decide +kernel
theorem dX1_errorOf_15 : decode cX1_errorOf 15 = .ok (.getfield 19, 3) := by decide +kernel
theorem dX1_errorOf_18 : decode cX1_errorOf 18 = .ok (.iload_n 1, 1) := by decide +kernel
theorem dX1_errorOf_19 : decode cX1_errorOf 19 = .ok (.iconst 1, 1) := by decide +kernel
theorem dX1_errorOf_20 : decode cX1_errorOf 20 = .ok (.isub, 1) := by decide +kernel
theorem dX1_errorOf_21 : decode cX1_errorOf 21 = .ok (.invokevirtual 40, 3) := by decide +kernel
theorem dX1_errorOf_24 : decode cX1_errorOf 24 = .ok (.sipush 128, 3) := by decide +kernel
theorem dX1_errorOf_27 : decode cX1_errorOf 27 = .ok (.if_icmp .ne 7, 3) := by decide +kernel
theorem dX1_errorOf_30 : decode cX1_errorOf 30 = .ok (.iconst 1, 1) := by decide +kernel
theorem dX1_errorOf_31 : decode cX1_errorOf 31 = .ok (.goto 4, 3) := by decide +kernel
theorem dX1_errorOf_34 : decode cX1_errorOf 34 = .ok (.iconst 0, 1) := by decide +kernel
theorem dX1_errorOf_35 : decode cX1_errorOf 35 = .ok (.istore_n 3, 1) := by decide +kernel
theorem dX1_errorOf_36 : decode cX1_errorOf 36 = .ok (.iload_n 3, 1) := by decide +kernel
theorem dX1_errorOf_37 : decode cX1_errorOf 37 = .ok (.ifCond .eq 11, 3) := by decide +kernel
theorem dX1_errorOf_40 : decode cX1_errorOf 40 = .ok (.aload_n 0, 1) := by decide +kernel
theorem dX1_errorOf_41 : decode cX1_errorOf 41 = .ok (.iload_n 1, 1) := by decide +kernel
theorem dX1_errorOf_42 : decode cX1_errorOf 42 = .ok (.invokevirtual 43, 3) := by decide +kernel
theorem dX1_errorOf_45 : decode cX1_errorOf 45 = .ok (.goto 8, 3) := by decide +kernel
theorem dX1_errorOf_48 : decode cX1_errorOf 48 = .ok (.aload_n 0, 1) := by decide +kernel
theorem dX1_errorOf_49 : decode cX1_errorOf 49 = .ok (.iload_n 1, 1) := by decide +kernel
theorem dX1_errorOf_50 : decode cX1_errorOf 50 = .ok (.invokevirtual 46, 3) := by decide +kernel
theorem dX1_errorOf_53 : decode cX1_errorOf 53 = .ok (.ireturn, 1) := by decide +kernel
theorem dX1_errorOf_54 : decode cX1_errorOf 54 = .ok (.iload_n 2, 1) := by decide +kernel
theorem dX1_errorOf_55 : decode cX1_errorOf 55 = .ok (.iconst 3, 1) := by decide +kernel
theorem dX1_errorOf_56 : decode cX1_errorOf 56 = .ok (.if_icmp .ne 9, 3) := by decide +kernel
theorem dX1_errorOf_59 : decode cX1_errorOf 59 = .ok (.aload_n 0, 1) := by decide +kernel
theorem dX1_errorOf_60 : decode cX1_errorOf 60 = .ok (.iload_n 1, 1) := by decide +kernel
theorem dX1_errorOf_61 : decode cX1_errorOf 61 = .ok (.invokevirtual 49, 3) := by decide +kernel
theorem dX1_errorOf_64 : decode cX1_errorOf 64 = .ok (.ireturn, 1) := by decide +kernel
theorem dX1_errorOf_65 : decode cX1_errorOf 65 = .ok (.iload_n 2, 1) := by decide +kernel
theorem dX1_errorOf_66 : decode cX1_errorOf 66 = .ok (.invokestatic 52, 3) := by decide +kernel
theorem dX1_errorOf_69 : decode cX1_errorOf 69 = .ok (.ifCond .eq 10, 3) := by decide +kernel
theorem dX1_errorOf_72 : decode cX1_errorOf 72 = .ok (.aload_n 0, 1) := by decide +kernel
theorem dX1_errorOf_73 : decode cX1_errorOf 73 = .ok (.invokevirtual 56, 3) := by decide +kernel
theorem dX1_errorOf_76 : decode cX1_errorOf 76 = .ok (.goto 4, 3) := by decide +kernel
theorem dX1_errorOf_79 : decode cX1_errorOf 79 = .ok (.iconst 0, 1) := by decide +kernel
theorem dX1_errorOf_80 : decode cX1_errorOf 80 = .ok (.ireturn, 1) := by decide +kernel
theorem dX1_errorOfNewName_0 : decode cX1_errorOfNewName 0 = .ok (.aload_n 0, 1) := by decide +kernel
theorem dX1_errorOfNewName_1 : decode cX1_errorOfNewName 1 = .ok (.iload_n 1, 1) := by decide +kernel
theorem dX1_errorOfNewName_2 : decode cX1_errorOfNewName 2 = .ok (.invokevirtual 60, 3) := by decide +kernel
theorem dX1_errorOfNewName_5 : decode cX1_errorOfNewName 5 = .ok (.iconst (-1), 1) := by decide +kernel
theorem dX1_errorOfNewName_6 : decode cX1_errorOfNewName 6 = .ok (.if_icmp .eq 5, 3) := by decide +kernel
theorem dX1_errorOfNewName_9 : decode cX1_errorOfNewName 9 = .ok (.iconst 2, 1) := by decide +kernel
theorem dX1_errorOfNewName_10 : decode cX1_errorOfNewName 10 = .ok (.ireturn, 1) := by decide +kernel
theorem dX1_errorOfNewName_11 : decode cX1_errorOfNewName 11 = .ok (.aload_n 0, 1) := by decide +kernel
theorem dX1_errorOfNewName_12 : decode cX1_errorOfNewName 12 = .ok (.getfield 23, 3) := by decide +kernel
theorem dX1_errorOfNewName_15 : decode cX1_errorOfNewName 15 = .ok (.getfield 63, 3) := by decide +kernel
theorem dX1_errorOfNewName_18 : decode cX1_errorOfNewName 18 = .ok (.bipush 10, 2) := by decide +kernel
theorem dX1_errorOfNewName_20 : decode cX1_errorOfNewName 20 = .ok (.if_icmp .lt 5, 3) := by decide +kernel
theorem dX1_errorOfNewName_23 : decode cX1_errorOfNewName 23 = .ok (.iconst 4, 1) := by decide +kernel
theorem dX1_errorOfNewName_24 : decode cX1_errorOfNewName 24 = .ok (.ireturn, 1) := by decide +kernel
theorem dX1_errorOfNewName_25 : decode cX1_errorOfNewName 25 = .ok (.aload_n 0, 1) := by decide +kernel
theorem dX1_errorOfNewName_26 : decode cX1_errorOfNewName 26 = .ok (.getfield 9, 3) := by decide +kernel
theorem dX1_errorOfNewName_29 : decode cX1_errorOfNewName 29 = .ok (.aload_n 0, 1) := by decide +kernel
theorem dX1_errorOfNewName_30 : decode cX1_errorOfNewName 30 = .ok (.getfield 23, 3) := by decide +kernel
theorem dX1_errorOfNewName_33 : decode cX1_errorOfNewName 33 = .ok (.getfield 63, 3) := by decide +kernel
theorem dX1_errorOfNewName_36 : decode cX1_errorOfNewName 36 = .ok (.iload_n 1, 1) := by decide +kernel
theorem dX1_errorOfNewName_37 : decode cX1_errorOfNewName 37 = .ok (.iastore, 1) := by decide +kernel
theorem dX1_errorOfNewName_38 : decode cX1_errorOfNewName 38 = .ok (.aload_n 0, 1) := by decide +kernel
theorem dX1_errorOfNewName_39 : decode cX1_errorOfNewName 39 = .ok (.getfield 23, 3) := by decide +kernel
theorem dX1_errorOfNewName_42 : decode cX1_errorOfNewName 42 = .ok (.dup, 1) := by decide +kernel
theorem dX1_errorOfNewName_43 : decode cX1_errorOfNewName 43 = .ok (.getfield 63, 3) := by decide +kernel
theorem dX1_errorOfNewName_46 : decode cX1_errorOfNewName 46 = .ok (.iconst 1, 1) := by decide +kernel
theorem dX1_errorOfNewName_47 : decode cX1_errorOfNewName 47 = .ok (.iadd, 1) := by decide +kernel
theorem dX1_errorOfNewName_48 : decode cX1_errorOfNewName 48 = .ok (.putfield 63, 3) := by decide +kernel
theorem dX1_errorOfNewName_51 : decode cX1_errorOfNewName 51 = .ok (.iconst 0, 1) := by decide +kernel
theorem dX1_errorOfNewName_52 : decode cX1_errorOfNewName 52 = .ok (.ireturn, 1) := by decide +kernel
theorem dX1_errorOfName_0 : decode cX1_errorOfName 0 = .ok (.aload_n 0, 1) := by decide +kernel
theorem dX1_errorOfName_1 : decode cX1_errorOfName 1 = .ok (.iload_n 1, 1) := by decide +kernel
theorem dX1_errorOfName_2 : decode cX1_errorOfName 2 = .ok (.invokevirtual 60, 3) := by decide +kernel
theorem dX1_errorOfName_5 : decode cX1_errorOfName 5 = .ok (.istore_n 2, 1) := by decide +kernel
theorem dX1_errorOfName_6 : decode cX1_errorOfName 6 = .ok (.aload_n 0, 1) := by decide +kernel
theorem dX1_errorOfName_7 : decode cX1_errorOfName 7 = .ok (.getfield 19, 3) := by decide +kernel
theorem dX1_errorOfName_10 : decode cX1_errorOfName 10 = .ok (.iload_n 1, 1) := by decide +kernel
theorem dX1_errorOfName_11 : decode cX1_errorOfName 11 = .ok (.iload_n 2, 1) := by decide +kernel
theorem dX1_errorOfName_12 : decode cX1_errorOfName 12 = .ok (.invokevirtual 68, 3) := by decide +kernel
theorem dX1_errorOfName_15 : decode cX1_errorOfName 15 = .ok (.iload_n 2, 1) := by decide +kernel
theorem dX1_errorOfName_16 : decode cX1_errorOfName 16 = .ok (.iconst (-1), 1) := by decide +kernel
theorem dX1_errorOfName_17 : decode cX1_errorOfName 17 = .ok (.if_icmp .ne 7, 3) := by decide +kernel
theorem dX1_errorOfName_20 : decode cX1_errorOfName 20 = .ok (.iconst 3, 1) := by decide +kernel
theorem dX1_errorOfName_21 : decode cX1_errorOfName 21 = .ok (.goto 4, 3) := by decide +kernel
theorem dX1_errorOfName_24 : decode cX1_errorOfName 24 = .ok (.iconst 0, 1) := by decide +kernel
theorem dX1_errorOfName_25 : decode cX1_errorOfName 25 = .ok (.ireturn, 1) := by decide +kernel
theorem dX1_mirrorNamed_0 : decode cX1_mirrorNamed 0 = .ok (.iconst 0, 1) := by decide +kernel
theorem dX1_mirrorNamed_1 : decode cX1_mirrorNamed 1 = .ok (.istore_n 2, 1) := by decide +kernel
theorem dX1_mirrorNamed_2 : decode cX1_mirrorNamed 2 = .ok (.iload_n 2, 1) := by decide +kernel
theorem dX1_mirrorNamed_3 : decode cX1_mirrorNamed 3 = .ok (.aload_n 0, 1) := by decide +kernel
theorem dX1_mirrorNamed_4 : decode cX1_mirrorNamed 4 = .ok (.getfield 23, 3) := by decide +kernel
theorem dX1_mirrorNamed_7 : decode cX1_mirrorNamed 7 = .ok (.getfield 63, 3) := by decide +kernel
theorem dX1_mirrorNamed_10 : decode cX1_mirrorNamed 10 = .ok (.if_icmp .ge 34, 3) := by decide +kernel
theorem dX1_mirrorNamed_13 : decode cX1_mirrorNamed 13 = .ok (.iload_n 2, 1) := by decide +kernel
theorem dX1_mirrorNamed_14 : decode cX1_mirrorNamed 14 = .ok (.bipush 10, 2) := by decide +kernel
theorem dX1_mirrorNamed_16 : decode cX1_mirrorNamed 16 = .ok (.if_icmp .ge 28, 3) := by decide +kernel
theorem dX1_mirrorNamed_19 : decode cX1_mirrorNamed 19 = .ok (.aload_n 0, 1) := by decide +kernel
theorem dX1_mirrorNamed_20 : decode cX1_mirrorNamed 20 = .ok (.getfield 19, 3) := by decide +kernel
theorem dX1_mirrorNamed_23 : decode cX1_mirrorNamed 23 = .ok (.aload_n 0, 1) := by decide +kernel
theorem dX1_mirrorNamed_24 : decode cX1_mirrorNamed 24 = .ok (.getfield 9, 3) := by decide +kernel
theorem dX1_mirrorNamed_27 : decode cX1_mirrorNamed 27 = .ok (.iload_n 2, 1) := by decide +kernel
theorem dX1_mirrorNamed_28 : decode cX1_mirrorNamed 28 = .ok (.iaload, 1) := by decide +kernel
theorem dX1_mirrorNamed_29 : decode cX1_mirrorNamed 29 = .ok (.iload_n 1, 1) := by decide +kernel
theorem dX1_mirrorNamed_30 : decode cX1_mirrorNamed 30 = .ok (.invokevirtual 72, 3) := by decide +kernel
theorem dX1_mirrorNamed_33 : decode cX1_mirrorNamed 33 = .ok (.ifCond .eq 5, 3) := by decide +kernel
theorem dX1_mirrorNamed_36 : decode cX1_mirrorNamed 36 = .ok (.iload_n 2, 1) := by decide +kernel
theorem dX1_mirrorNamed_37 : decode cX1_mirrorNamed 37 = .ok (.ireturn, 1) := by decide +kernel
theorem dX1_mirrorNamed_38 : decode cX1_mirrorNamed 38 = .ok (.iinc 2 1, 3) := by decide +kernel
theorem dX1_mirrorNamed_41 : decode cX1_mirrorNamed 41 = .ok (.goto (-39), 3) := by decide +kernel
theorem dX1_mirrorNamed_44 : decode cX1_mirrorNamed 44 = .ok (.iconst (-1), 1) := by decide +kernel
theorem dX1_mirrorNamed_45 : decode cX1_mirrorNamed 45 = .ok (.ireturn, 1) := by decide +kernel
theorem dX1_errorOfOrder_0 : decode cX1_errorOfOrder 0 = .ok (.aload_n 0, 1) := by decide +kernel
theorem dX1_errorOfOrder_1 : decode cX1_errorOfOrder 1 = .ok (.getfield 23, 3) := by decide +kernel
theorem dX1_errorOfOrder_4 : decode cX1_errorOfOrder 4 = .ok (.dup, 1) := by decide +kernel
theorem dX1_errorOfOrder_5 : decode cX1_errorOfOrder 5 = .ok (.getfield 76, 3) := by decide +kernel
theorem dX1_errorOfOrder_8 : decode cX1_errorOfOrder 8 = .ok (.iconst 1, 1) := by decide +kernel
theorem dX1_errorOfOrder_9 : decode cX1_errorOfOrder 9 = .ok (.iadd, 1) := by decide +kernel
theorem dX1_errorOfOrder_10 : decode cX1_errorOfOrder 10 = .ok (.putfield 76, 3) := by decide +kernel
theorem dX1_errorOfOrder_13 : decode cX1_errorOfOrder 13 = .ok (.aload_n 0, 1) := by decide +kernel
theorem dX1_errorOfOrder_14 : decode cX1_errorOfOrder 14 = .ok (.getfield 23, 3) := by decide +kernel
theorem dX1_errorOfOrder_17 : decode cX1_errorOfOrder 17 = .ok (.getfield 76, 3) := by decide +kernel
theorem dX1_errorOfOrder_20 : decode cX1_errorOfOrder 20 = .ok (.bipush 16, 2) := by decide +kernel
theorem dX1_errorOfOrder_22 : decode cX1_errorOfOrder 22 = .ok (.if_icmp .le 7, 3) := by decide +kernel
theorem dX1_errorOfOrder_25 : decode cX1_errorOfOrder 25 = .ok (.iconst 4, 1) := by decide +kernel
theorem dX1_errorOfOrder_26 : decode cX1_errorOfOrder 26 = .ok (.goto 4, 3) := by decide +kernel
theorem dX1_errorOfOrder_29 : decode cX1_errorOfOrder 29 = .ok (.iconst 0, 1) := by decide +kernel
theorem dX1_errorOfOrder_30 : decode cX1_errorOfOrder 30 = .ok (.ireturn, 1) := by decide +kernel
theorem dX1_errorOfNumber_0 : decode cX1_errorOfNumber 0 = .ok (.aload_n 0, 1) := by decide +kernel
theorem dX1_errorOfNumber_1 : decode cX1_errorOfNumber 1 = .ok (.getfield 19, 3) := by decide +kernel
theorem dX1_errorOfNumber_4 : decode cX1_errorOfNumber 4 = .ok (.iload_n 1, 1) := by decide +kernel
theorem dX1_errorOfNumber_5 : decode cX1_errorOfNumber 5 = .ok (.invokevirtual 79, 3) := by decide +kernel
theorem dX1_errorOfNumber_8 : decode cX1_errorOfNumber 8 = .ok (.istore_n 2, 1) := by decide +kernel
theorem dX1_errorOfNumber_9 : decode cX1_errorOfNumber 9 = .ok (.aload_n 0, 1) := by decide +kernel
theorem dX1_errorOfNumber_10 : decode cX1_errorOfNumber 10 = .ok (.getfield 19, 3) := by decide +kernel
theorem dX1_errorOfNumber_13 : decode cX1_errorOfNumber 13 = .ok (.iload_n 1, 1) := by decide +kernel
theorem dX1_errorOfNumber_14 : decode cX1_errorOfNumber 14 = .ok (.iconst 1, 1) := by decide +kernel
theorem dX1_errorOfNumber_15 : decode cX1_errorOfNumber 15 = .ok (.isub, 1) := by decide +kernel
theorem dX1_errorOfNumber_16 : decode cX1_errorOfNumber 16 = .ok (.invokevirtual 40, 3) := by decide +kernel
theorem dX1_errorOfNumber_19 : decode cX1_errorOfNumber 19 = .ok (.istore_n 3, 1) := by decide +kernel
theorem dX1_errorOfNumber_20 : decode cX1_errorOfNumber 20 = .ok (.iload_n 3, 1) := by decide +kernel
theorem dX1_errorOfNumber_21 : decode cX1_errorOfNumber 21 = .ok (.bipush 45, 2) := by decide +kernel
theorem dX1_errorOfNumber_23 : decode cX1_errorOfNumber 23 = .ok (.if_icmp .ne 23, 3) := by decide +kernel
theorem dX1_errorOfNumber_26 : decode cX1_errorOfNumber 26 = .ok (.aload_n 0, 1) := by decide +kernel
theorem dX1_errorOfNumber_27 : decode cX1_errorOfNumber 27 = .ok (.getfield 19, 3) := by decide +kernel
theorem dX1_errorOfNumber_30 : decode cX1_errorOfNumber 30 = .ok (.iload_n 1, 1) := by decide +kernel
theorem dX1_errorOfNumber_31 : decode cX1_errorOfNumber 31 = .ok (.iconst 2, 1) := by decide +kernel
theorem dX1_errorOfNumber_32 : decode cX1_errorOfNumber 32 = .ok (.isub, 1) := by decide +kernel
theorem dX1_errorOfNumber_33 : decode cX1_errorOfNumber 33 = .ok (.invokevirtual 40, 3) := by decide +kernel
theorem dX1_errorOfNumber_36 : decode cX1_errorOfNumber 36 = .ok (.sipush 130, 3) := by decide +kernel
theorem dX1_errorOfNumber_39 : decode cX1_errorOfNumber 39 = .ok (.if_icmp .ne 7, 3) := by decide +kernel
theorem dX1_errorOfNumber_42 : decode cX1_errorOfNumber 42 = .ok (.iconst 1, 1) := by decide +kernel
theorem dX1_errorOfNumber_43 : decode cX1_errorOfNumber 43 = .ok (.goto 4, 3) := by decide +kernel
theorem dX1_errorOfNumber_46 : decode cX1_errorOfNumber 46 = .ok (.iconst 0, 1) := by decide +kernel
theorem dX1_errorOfNumber_47 : decode cX1_errorOfNumber 47 = .ok (.istore 4, 2) := by decide +kernel
theorem dX1_errorOfNumber_49 : decode cX1_errorOfNumber 49 = .ok (.iload 4, 2) := by decide +kernel
theorem dX1_errorOfNumber_51 : decode cX1_errorOfNumber 51 = .ok (.ifCond .eq 9, 3) := by decide +kernel
theorem dX1_errorOfNumber_54 : decode cX1_errorOfNumber 54 = .ok (.sipush 130, 3) := by decide +kernel
theorem dX1_errorOfNumber_57 : decode cX1_errorOfNumber 57 = .ok (.goto 4, 3) := by decide +kernel
theorem dX1_errorOfNumber_60 : decode cX1_errorOfNumber 60 = .ok (.iload_n 3, 1) := by decide +kernel
theorem dX1_errorOfNumber_61 : decode cX1_errorOfNumber 61 = .ok (.tableswitch 123 129 132 #[31, 51, 81, 102], 31) := by decide +kernel
theorem dX1_errorOfNumber_92 : decode cX1_errorOfNumber 92 = .ok (.aload_n 0, 1) := by decide +kernel
theorem dX1_errorOfNumber_93 : decode cX1_errorOfNumber 93 = .ok (.getfield 23, 3) := by decide +kernel
theorem dX1_errorOfNumber_96 : decode cX1_errorOfNumber 96 = .ok (.iload_n 2, 1) := by decide +kernel
theorem dX1_errorOfNumber_97 : decode cX1_errorOfNumber 97 = .ok (.invokevirtual 82, 3) := by decide +kernel
theorem dX1_errorOfNumber_100 : decode cX1_errorOfNumber 100 = .ok (.iload_n 2, 1) := by decide +kernel
theorem dX1_errorOfNumber_101 : decode cX1_errorOfNumber 101 = .ok (.bipush 100, 2) := by decide +kernel
theorem dX1_errorOfNumber_103 : decode cX1_errorOfNumber 103 = .ok (.if_icmp .le 7, 3) := by decide +kernel
theorem dX1_errorOfNumber_106 : decode cX1_errorOfNumber 106 = .ok (.iconst 5, 1) := by decide +kernel
theorem dX1_errorOfNumber_107 : decode cX1_errorOfNumber 107 = .ok (.goto 4, 3) := by decide +kernel
theorem dX1_errorOfNumber_110 : decode cX1_errorOfNumber 110 = .ok (.iconst 0, 1) := by decide +kernel
theorem dX1_errorOfNumber_111 : decode cX1_errorOfNumber 111 = .ok (.ireturn, 1) := by decide +kernel
theorem dX1_errorOfNumber_112 : decode cX1_errorOfNumber 112 = .ok (.aload_n 0, 1) := by decide +kernel
theorem dX1_errorOfNumber_113 : decode cX1_errorOfNumber 113 = .ok (.getfield 23, 3) := by decide +kernel
theorem dX1_errorOfNumber_116 : decode cX1_errorOfNumber 116 = .ok (.iload 4, 2) := by decide +kernel
theorem dX1_errorOfNumber_118 : decode cX1_errorOfNumber 118 = .ok (.ifCond .eq 8, 3) := by decide +kernel
theorem dX1_errorOfNumber_121 : decode cX1_errorOfNumber 121 = .ok (.iload_n 2, 1) := by decide +kernel
theorem dX1_errorOfNumber_122 : decode cX1_errorOfNumber 122 = .ok (.ineg, 1) := by decide +kernel
theorem dX1_errorOfNumber_123 : decode cX1_errorOfNumber 123 = .ok (.goto 4, 3) := by decide +kernel
theorem dX1_errorOfNumber_126 : decode cX1_errorOfNumber 126 = .ok (.iload_n 2, 1) := by decide +kernel
theorem dX1_errorOfNumber_127 : decode cX1_errorOfNumber 127 = .ok (.invokevirtual 86, 3) := by decide +kernel
theorem dX1_errorOfNumber_130 : decode cX1_errorOfNumber 130 = .ok (.iload_n 2, 1) := by decide +kernel
theorem dX1_errorOfNumber_131 : decode cX1_errorOfNumber 131 = .ok (.bipush 90, 2) := by decide +kernel
theorem dX1_errorOfNumber_133 : decode cX1_errorOfNumber 133 = .ok (.if_icmp .le 7, 3) := by decide +kernel
theorem dX1_errorOfNumber_136 : decode cX1_errorOfNumber 136 = .ok (.iconst 5, 1) := by decide +kernel
theorem dX1_errorOfNumber_137 : decode cX1_errorOfNumber 137 = .ok (.goto 4, 3) := by decide +kernel
theorem dX1_errorOfNumber_140 : decode cX1_errorOfNumber 140 = .ok (.iconst 0, 1) := by decide +kernel
theorem dX1_errorOfNumber_141 : decode cX1_errorOfNumber 141 = .ok (.ireturn, 1) := by decide +kernel
theorem dX1_errorOfNumber_142 : decode cX1_errorOfNumber 142 = .ok (.aload_n 0, 1) := by decide +kernel
theorem dX1_errorOfNumber_143 : decode cX1_errorOfNumber 143 = .ok (.getfield 23, 3) := by decide +kernel
theorem dX1_errorOfNumber_146 : decode cX1_errorOfNumber 146 = .ok (.iload_n 2, 1) := by decide +kernel
theorem dX1_errorOfNumber_147 : decode cX1_errorOfNumber 147 = .ok (.putfield 89, 3) := by decide +kernel
theorem dX1_errorOfNumber_150 : decode cX1_errorOfNumber 150 = .ok (.iload_n 2, 1) := by decide +kernel
theorem dX1_errorOfNumber_151 : decode cX1_errorOfNumber 151 = .ok (.sipush 180, 3) := by decide +kernel
theorem dX1_errorOfNumber_154 : decode cX1_errorOfNumber 154 = .ok (.if_icmp .le 7, 3) := by decide +kernel
theorem dX1_errorOfNumber_157 : decode cX1_errorOfNumber 157 = .ok (.iconst 5, 1) := by decide +kernel
theorem dX1_errorOfNumber_158 : decode cX1_errorOfNumber 158 = .ok (.goto 4, 3) := by decide +kernel
theorem dX1_errorOfNumber_161 : decode cX1_errorOfNumber 161 = .ok (.iconst 0, 1) := by decide +kernel
theorem dX1_errorOfNumber_162 : decode cX1_errorOfNumber 162 = .ok (.ireturn, 1) := by decide +kernel
theorem dX1_errorOfNumber_163 : decode cX1_errorOfNumber 163 = .ok (.aload_n 0, 1) := by decide +kernel
theorem dX1_errorOfNumber_164 : decode cX1_errorOfNumber 164 = .ok (.getfield 23, 3) := by decide +kernel
theorem dX1_errorOfNumber_167 : decode cX1_errorOfNumber 167 = .ok (.iload_n 2, 1) := by decide +kernel
theorem dX1_errorOfNumber_168 : decode cX1_errorOfNumber 168 = .ok (.putfield 92, 3) := by decide +kernel
theorem dX1_errorOfNumber_171 : decode cX1_errorOfNumber 171 = .ok (.iload_n 2, 1) := by decide +kernel
theorem dX1_errorOfNumber_172 : decode cX1_errorOfNumber 172 = .ok (.sipush 10000, 3) := by decide +kernel
theorem dX1_errorOfNumber_175 : decode cX1_errorOfNumber 175 = .ok (.if_icmp .le 7, 3) := by decide +kernel
theorem dX1_errorOfNumber_178 : decode cX1_errorOfNumber 178 = .ok (.iconst 5, 1) := by decide +kernel
theorem dX1_errorOfNumber_179 : decode cX1_errorOfNumber 179 = .ok (.goto 4, 3) := by decide +kernel
theorem dX1_errorOfNumber_182 : decode cX1_errorOfNumber 182 = .ok (.iconst 0, 1) := by decide +kernel
theorem dX1_errorOfNumber_183 : decode cX1_errorOfNumber 183 = .ok (.ireturn, 1) := by decide +kernel
theorem dX1_errorOfNumber_184 : decode cX1_errorOfNumber 184 = .ok (.iconst 0, 1) := by decide +kernel
theorem dX1_errorOfNumber_185 : decode cX1_errorOfNumber 185 = .ok (.ireturn, 1) := by decide +kernel
theorem dX2_init_0 : decode cX2_init 0 = .ok (.aload_n 0, 1) := by decide +kernel
theorem dX2_init_1 : decode cX2_init 1 = .ok (.invokespecial 3, 3) := by decide +kernel
theorem dX2_init_4 : decode cX2_init 4 = .ok (.aload_n 0, 1) := by decide +kernel
theorem dX2_init_5 : decode cX2_init 5 = .ok (.bipush 10, 2) := by decide +kernel
theorem dX2_init_7 : decode cX2_init 7 = .ok (.newarray .int, 2) := by decide +kernel
theorem dX2_init_9 : decode cX2_init 9 = .ok (.putfield 9, 3) := by decide +kernel
theorem dX2_init_12 : decode cX2_init 12 = .ok (.aload_n 0, 1) := by decide +kernel
theorem dX2_init_13 : decode cX2_init 13 = .ok (.bipush 10, 2) := by decide +kernel
theorem dX2_init_15 : decode cX2_init 15 = .ok (.newarray .int, 2) := by decide +kernel
theorem dX2_init_17 : decode cX2_init 17 = .ok (.putfield 15, 3) := by decide +kernel
theorem dX2_init_20 : decode cX2_init 20 = .ok (.aload_n 0, 1) := by decide +kernel
theorem dX2_init_21 : decode cX2_init 21 = .ok (.sipush 400, 3) := by decide +kernel
theorem dX2_init_24 : decode cX2_init 24 = .ok (.newarray .int, 2) := by decide +kernel
theorem dX2_init_26 : decode cX2_init 26 = .ok (.putfield 18, 3) := by decide +kernel
theorem dX2_init_29 : decode cX2_init 29 = .ok (.aload_n 0, 1) := by decide +kernel
theorem dX2_init_30 : decode cX2_init 30 = .ok (.sipush 400, 3) := by decide +kernel
theorem dX2_init_33 : decode cX2_init 33 = .ok (.newarray .int, 2) := by decide +kernel
theorem dX2_init_35 : decode cX2_init 35 = .ok (.putfield 21, 3) := by decide +kernel
theorem dX2_init_38 : decode cX2_init 38 = .ok (.aload_n 0, 1) := by decide +kernel
theorem dX2_init_39 : decode cX2_init 39 = .ok (.bipush 60, 2) := by decide +kernel
theorem dX2_init_41 : decode cX2_init 41 = .ok (.putfield 24, 3) := by decide +kernel
theorem dX2_init_44 : decode cX2_init 44 = .ok (.aload_n 0, 1) := by decide +kernel
theorem dX2_init_45 : decode cX2_init 45 = .ok (.sipush 1000, 3) := by decide +kernel
theorem dX2_init_48 : decode cX2_init 48 = .ok (.putfield 28, 3) := by decide +kernel
theorem dX2_init_51 : decode cX2_init 51 = .ok (.return_, 1) := by decide +kernel
theorem dX2_clear_0 : decode cX2_clear 0 = .ok (.aload_n 0, 1) := by decide +kernel
theorem dX2_clear_1 : decode cX2_clear 1 = .ok (.iconst 0, 1) := by decide +kernel
theorem dX2_clear_2 : decode cX2_clear 2 = .ok (.putfield 31, 3) := by decide +kernel
theorem dX2_clear_5 : decode cX2_clear 5 = .ok (.aload_n 0, 1) := by decide +kernel
theorem dX2_clear_6 : decode cX2_clear 6 = .ok (.iconst 0, 1) := by decide +kernel
theorem dX2_clear_7 : decode cX2_clear 7 = .ok (.putfield 34, 3) := by decide +kernel
theorem dX2_clear_10 : decode cX2_clear 10 = .ok (.aload_n 0, 1) := by decide +kernel
theorem dX2_clear_11 : decode cX2_clear 11 = .ok (.bipush 60, 2) := by decide +kernel
theorem dX2_clear_13 : decode cX2_clear 13 = .ok (.putfield 24, 3) := by decide +kernel
theorem dX2_clear_16 : decode cX2_clear 16 = .ok (.aload_n 0, 1) := by decide +kernel
theorem dX2_clear_17 : decode cX2_clear 17 = .ok (.sipush 1000, 3) := by decide +kernel
theorem dX2_clear_20 : decode cX2_clear 20 = .ok (.putfield 28, 3) := by decide +kernel
theorem dX2_clear_23 : decode cX2_clear 23 = .ok (.aload_n 0, 1) := by decide +kernel
theorem dX2_clear_24 : decode cX2_clear 24 = .ok (.iconst 0, 1) := by decide +kernel
theorem dX2_clear_25 : decode cX2_clear 25 = .ok (.putfield 37, 3) := by decide +kernel
theorem dX2_clear_28 : decode cX2_clear 28 = .ok (.return_, 1) := by decide +kernel
theorem dX2_write_0 : decode cX2_write 0 = .ok (.aload_n 0, 1) := by decide +kernel
theorem dX2_write_1 : decode cX2_write 1 = .ok (.getfield 37, 3) := by decide +kernel
theorem dX2_write_4 : decode cX2_write 4 = .ok (.sipush 400, 3) := by decide +kernel
theorem dX2_write_7 : decode cX2_write 7 = .ok (.if_icmp .ge 33, 3) := by decide +kernel
theorem dX2_write_10 : decode cX2_write 10 = .ok (.aload_n 0, 1) := by decide +kernel
theorem dX2_write_11 : decode cX2_write 11 = .ok (.getfield 18, 3) := by decide +kernel
theorem dX2_write_14 : decode cX2_write 14 = .ok (.aload_n 0, 1) := by decide +kernel
theorem dX2_write_15 : decode cX2_write 15 = .ok (.getfield 37, 3) := by decide +kernel
theorem dX2_write_18 : decode cX2_write 18 = .ok (.iload_n 1, 1) := by decide +kernel
theorem dX2_write_19 : decode cX2_write 19 = .ok (.iastore, 1) := by decide +kernel
theorem dX2_write_20 : decode cX2_write 20 = .ok (.aload_n 0, 1) := by decide +kernel
theorem dX2_write_21 : decode cX2_write 21 = .ok (.getfield 21, 3) := by decide +kernel
theorem dX2_write_24 : decode cX2_write 24 = .ok (.aload_n 0, 1) := by decide +kernel
theorem dX2_write_25 : decode cX2_write 25 = .ok (.getfield 37, 3) := by decide +kernel
theorem dX2_write_28 : decode cX2_write 28 = .ok (.iload_n 2, 1) := by decide +kernel
theorem dX2_write_29 : decode cX2_write 29 = .ok (.iastore, 1) := by decide +kernel
theorem dX2_write_30 : decode cX2_write 30 = .ok (.aload_n 0, 1) := by decide +kernel
theorem dX2_write_31 : decode cX2_write 31 = .ok (.dup, 1) := by decide +kernel
theorem dX2_write_32 : decode cX2_write 32 = .ok (.getfield 37, 3) := by decide +kernel
theorem dX2_write_35 : decode cX2_write 35 = .ok (.iconst 1, 1) := by decide +kernel
theorem dX2_write_36 : decode cX2_write 36 = .ok (.iadd, 1) := by decide +kernel
theorem dX2_write_37 : decode cX2_write 37 = .ok (.putfield 37, 3) := by decide +kernel
theorem dX2_write_40 : decode cX2_write 40 = .ok (.return_, 1) := by decide +kernel
theorem dX2_tellClarity_0 : decode cX2_tellClarity 0 = .ok (.aload_n 0, 1) := by decide +kernel
theorem dX2_tellClarity_1 : decode cX2_tellClarity 1 = .ok (.getfield 31, 3) := by decide +kernel
theorem dX2_tellClarity_4 : decode cX2_tellClarity 4 = .ok (.ifCond .le 24, 3) := by decide +kernel
theorem dX2_tellClarity_7 : decode cX2_tellClarity 7 = .ok (.aload_n 0, 1) := by decide +kernel
theorem dX2_tellClarity_8 : decode cX2_tellClarity 8 = .ok (.getfield 31, 3) := by decide +kernel
theorem dX2_tellClarity_11 : decode cX2_tellClarity 11 = .ok (.bipush 10, 2) := by decide +kernel
theorem dX2_tellClarity_13 : decode cX2_tellClarity 13 = .ok (.if_icmp .gt 15, 3) := by decide +kernel
theorem dX2_tellClarity_16 : decode cX2_tellClarity 16 = .ok (.aload_n 0, 1) := by decide +kernel
theorem dX2_tellClarity_17 : decode cX2_tellClarity 17 = .ok (.getfield 9, 3) := by decide +kernel
theorem dX2_tellClarity_20 : decode cX2_tellClarity 20 = .ok (.aload_n 0, 1) := by decide +kernel
theorem dX2_tellClarity_21 : decode cX2_tellClarity 21 = .ok (.getfield 31, 3) := by decide +kernel
theorem dX2_tellClarity_24 : decode cX2_tellClarity 24 = .ok (.iconst 1, 1) := by decide +kernel
theorem dX2_tellClarity_25 : decode cX2_tellClarity 25 = .ok (.isub, 1) := by decide +kernel
theorem dX2_tellClarity_26 : decode cX2_tellClarity 26 = .ok (.iload_n 1, 1) := by decide +kernel
theorem dX2_tellClarity_27 : decode cX2_tellClarity 27 = .ok (.iastore, 1) := by decide +kernel
theorem dX2_tellClarity_28 : decode cX2_tellClarity 28 = .ok (.return_, 1) := by decide +kernel
theorem dX2_tellOffset_0 : decode cX2_tellOffset 0 = .ok (.aload_n 0, 1) := by decide +kernel
theorem dX2_tellOffset_1 : decode cX2_tellOffset 1 = .ok (.getfield 31, 3) := by decide +kernel
theorem dX2_tellOffset_4 : decode cX2_tellOffset 4 = .ok (.ifCond .le 24, 3) := by decide +kernel
theorem dX2_tellOffset_7 : decode cX2_tellOffset 7 = .ok (.aload_n 0, 1) := by decide +kernel
theorem dX2_tellOffset_8 : decode cX2_tellOffset 8 = .ok (.getfield 31, 3) := by decide +kernel
theorem dX2_tellOffset_11 : decode cX2_tellOffset 11 = .ok (.bipush 10, 2) := by decide +kernel
theorem dX2_tellOffset_13 : decode cX2_tellOffset 13 = .ok (.if_icmp .gt 15, 3) := by decide +kernel
theorem dX2_tellOffset_16 : decode cX2_tellOffset 16 = .ok (.aload_n 0, 1) := by decide +kernel
theorem dX2_tellOffset_17 : decode cX2_tellOffset 17 = .ok (.getfield 15, 3) := by decide +kernel
theorem dX2_tellOffset_20 : decode cX2_tellOffset 20 = .ok (.aload_n 0, 1) := by decide +kernel
theorem dX2_tellOffset_21 : decode cX2_tellOffset 21 = .ok (.getfield 31, 3) := by decide +kernel
theorem dX2_tellOffset_24 : decode cX2_tellOffset 24 = .ok (.iconst 1, 1) := by decide +kernel
theorem dX2_tellOffset_25 : decode cX2_tellOffset 25 = .ok (.isub, 1) := by decide +kernel
theorem dX2_tellOffset_26 : decode cX2_tellOffset 26 = .ok (.iload_n 1, 1) := by decide +kernel
theorem dX2_tellOffset_27 : decode cX2_tellOffset 27 = .ok (.iastore, 1) := by decide +kernel
theorem dX2_tellOffset_28 : decode cX2_tellOffset 28 = .ok (.return_, 1) := by decide +kernel
theorem dX2_takeOver_0 : decode cX2_takeOver 0 = .ok (.aload_n 1, 1) := by decide +kernel
theorem dX2_takeOver_1 : decode cX2_takeOver 1 = .ok (.getfield 9, 3) := by decide +kernel
theorem dX2_takeOver_4 : decode cX2_takeOver 4 = .ok (.iconst 0, 1) := by decide +kernel
theorem dX2_takeOver_5 : decode cX2_takeOver 5 = .ok (.aload_n 0, 1) := by decide +kernel
theorem dX2_takeOver_6 : decode cX2_takeOver 6 = .ok (.getfield 9, 3) := by decide +kernel
theorem dX2_takeOver_9 : decode cX2_takeOver 9 = .ok (.iconst 0, 1) := by decide +kernel
theorem dX2_takeOver_10 : decode cX2_takeOver 10 = .ok (.bipush 10, 2) := by decide +kernel
theorem dX2_takeOver_12 : decode cX2_takeOver 12 = .ok (.invokestatic 40, 3) := by decide +kernel
theorem dX2_takeOver_15 : decode cX2_takeOver 15 = .ok (.aload_n 1, 1) := by decide +kernel
theorem dX2_takeOver_16 : decode cX2_takeOver 16 = .ok (.getfield 15, 3) := by decide +kernel
theorem dX2_takeOver_19 : decode cX2_takeOver 19 = .ok (.iconst 0, 1) := by decide +kernel
theorem dX2_takeOver_20 : decode cX2_takeOver 20 = .ok (.aload_n 0, 1) := by decide +kernel
theorem dX2_takeOver_21 : decode cX2_takeOver 21 = .ok (.getfield 15, 3) := by decide +kernel
theorem dX2_takeOver_24 : decode cX2_takeOver 24 = .ok (.iconst 0, 1) := by decide +kernel
theorem dX2_takeOver_25 : decode cX2_takeOver 25 = .ok (.bipush 10, 2) := by decide +kernel
theorem dX2_takeOver_27 : decode cX2_takeOver 27 = .ok (.invokestatic 40, 3) := by decide +kernel
theorem dX2_takeOver_30 : decode cX2_takeOver 30 = .ok (.aload_n 0, 1) := by decide +kernel
theorem dX2_takeOver_31 : decode cX2_takeOver 31 = .ok (.aload_n 1, 1) := by decide +kernel
theorem dX2_takeOver_32 : decode cX2_takeOver 32 = .ok (.getfield 31, 3) := by decide +kernel
theorem dX2_takeOver_35 : decode cX2_takeOver 35 = .ok (.putfield 31, 3) := by decide +kernel
theorem dX2_takeOver_38 : decode cX2_takeOver 38 = .ok (.aload_n 0, 1) := by decide +kernel
theorem dX2_takeOver_39 : decode cX2_takeOver 39 = .ok (.aload_n 1, 1) := by decide +kernel
theorem dX2_takeOver_40 : decode cX2_takeOver 40 = .ok (.getfield 34, 3) := by decide +kernel
theorem dX2_takeOver_43 : decode cX2_takeOver 43 = .ok (.putfield 34, 3) := by decide +kernel
theorem dX2_takeOver_46 : decode cX2_takeOver 46 = .ok (.aload_n 0, 1) := by decide +kernel
theorem dX2_takeOver_47 : decode cX2_takeOver 47 = .ok (.aload_n 1, 1) := by decide +kernel
theorem dX2_takeOver_48 : decode cX2_takeOver 48 = .ok (.getfield 24, 3) := by decide +kernel
theorem dX2_takeOver_51 : decode cX2_takeOver 51 = .ok (.putfield 24, 3) := by decide +kernel
theorem dX2_takeOver_54 : decode cX2_takeOver 54 = .ok (.aload_n 0, 1) := by decide +kernel
theorem dX2_takeOver_55 : decode cX2_takeOver 55 = .ok (.aload_n 1, 1) := by decide +kernel
theorem dX2_takeOver_56 : decode cX2_takeOver 56 = .ok (.getfield 28, 3) := by decide +kernel
theorem dX2_takeOver_59 : decode cX2_takeOver 59 = .ok (.putfield 28, 3) := by decide +kernel
theorem dX2_takeOver_62 : decode cX2_takeOver 62 = .ok (.aload_n 0, 1) := by decide +kernel
theorem dX2_takeOver_63 : decode cX2_takeOver 63 = .ok (.aload_n 1, 1) := by decide +kernel
theorem dX2_takeOver_64 : decode cX2_takeOver 64 = .ok (.getfield 37, 3) := by decide +kernel
theorem dX2_takeOver_67 : decode cX2_takeOver 67 = .ok (.putfield 37, 3) := by decide +kernel
theorem dX2_takeOver_70 : decode cX2_takeOver 70 = .ok (.iconst 0, 1) := by decide +kernel
theorem dX2_takeOver_71 : decode cX2_takeOver 71 = .ok (.istore_n 3, 1) := by decide +kernel
theorem dX2_takeOver_72 : decode cX2_takeOver 72 = .ok (.iload_n 3, 1) := by decide +kernel
theorem dX2_takeOver_73 : decode cX2_takeOver 73 = .ok (.aload_n 0, 1) := by decide +kernel
theorem dX2_takeOver_74 : decode cX2_takeOver 74 = .ok (.getfield 37, 3) := by decide +kernel
theorem dX2_takeOver_77 : decode cX2_takeOver 77 = .ok (.if_icmp .ge 44, 3) := by decide +kernel
theorem dX2_takeOver_80 : decode cX2_takeOver 80 = .ok (.iload_n 3, 1) := by decide +kernel
theorem dX2_takeOver_81 : decode cX2_takeOver 81 = .ok (.sipush 400, 3) := by decide +kernel
theorem dX2_takeOver_84 : decode cX2_takeOver 84 = .ok (.if_icmp .ge 37, 3) := by decide +kernel
theorem dX2_takeOver_87 : decode cX2_takeOver 87 = .ok (.aload_n 0, 1) := by decide +kernel
theorem dX2_takeOver_88 : decode cX2_takeOver 88 = .ok (.getfield 18, 3) := by decide +kernel
theorem dX2_takeOver_91 : decode cX2_takeOver 91 = .ok (.iload_n 3, 1) := by decide +kernel
theorem dX2_takeOver_92 : decode cX2_takeOver 92 = .ok (.aload_n 1, 1) := by decide +kernel
theorem dX2_takeOver_93 : decode cX2_takeOver 93 = .ok (.getfield 18, 3) := by decide +kernel
theorem dX2_takeOver_96 : decode cX2_takeOver 96 = .ok (.iload_n 3, 1) := by decide +kernel
theorem dX2_takeOver_97 : decode cX2_takeOver 97 = .ok (.iaload, 1) := by decide +kernel
theorem dX2_takeOver_98 : decode cX2_takeOver 98 = .ok (.iastore, 1) := by decide +kernel
theorem dX2_takeOver_99 : decode cX2_takeOver 99 = .ok (.aload_n 0, 1) := by decide +kernel
theorem dX2_takeOver_100 : decode cX2_takeOver 100 = .ok (.getfield 21, 3) := by decide +kernel
theorem dX2_takeOver_103 : decode cX2_takeOver 103 = .ok (.iload_n 3, 1) := by decide +kernel
theorem dX2_takeOver_104 : decode cX2_takeOver 104 = .ok (.aload_n 2, 1) := by decide +kernel
theorem dX2_takeOver_105 : decode cX2_takeOver 105 = .ok (.aload_n 1, 1) := by decide +kernel
theorem dX2_takeOver_106 : decode cX2_takeOver 106 = .ok (.getfield 21, 3) := by decide +kernel
theorem dX2_takeOver_109 : decode cX2_takeOver 109 = .ok (.iload_n 3, 1) := by decide +kernel
theorem dX2_takeOver_110 : decode cX2_takeOver 110 = .ok (.iaload, 1) := by decide +kernel
theorem dX2_takeOver_111 : decode cX2_takeOver 111 = .ok (.invokevirtual 46, 3) := by decide +kernel
theorem dX2_takeOver_114 : decode cX2_takeOver 114 = .ok (.iastore, 1) := by decide +kernel
theorem dX2_takeOver_115 : decode cX2_takeOver 115 = .ok (.iinc 3 1, 3) := by decide +kernel
theorem dX2_takeOver_118 : decode cX2_takeOver 118 = .ok (.goto (-46), 3) := by decide +kernel
theorem dX2_takeOver_121 : decode cX2_takeOver 121 = .ok (.return_, 1) := by decide +kernel
theorem dX3_init_0 : decode cX3_init 0 = .ok (.aload_n 0, 1) := by decide +kernel
theorem dX3_init_1 : decode cX3_init 1 = .ok (.invokespecial 3, 3) := by decide +kernel
theorem dX3_init_4 : decode cX3_init 4 = .ok (.aload_n 0, 1) := by decide +kernel
theorem dX3_init_5 : decode cX3_init 5 = .ok (.bipush 12, 2) := by decide +kernel
theorem dX3_init_7 : decode cX3_init 7 = .ok (.newarray .int, 2) := by decide +kernel
theorem dX3_init_9 : decode cX3_init 9 = .ok (.putfield 9, 3) := by decide +kernel
theorem dX3_init_12 : decode cX3_init 12 = .ok (.aload_n 0, 1) := by decide +kernel
theorem dX3_init_13 : decode cX3_init 13 = .ok (.bipush 12, 2) := by decide +kernel
theorem dX3_init_15 : decode cX3_init 15 = .ok (.newarray .int, 2) := by decide +kernel
theorem dX3_init_17 : decode cX3_init 17 = .ok (.putfield 15, 3) := by decide +kernel
theorem dX3_init_20 : decode cX3_init 20 = .ok (.return_, 1) := by decide +kernel
theorem dX3_begin_0 : decode cX3_begin 0 = .ok (.aload_n 0, 1) := by decide +kernel
theorem dX3_begin_1 : decode cX3_begin 1 = .ok (.iconst 0, 1) := by decide +kernel
theorem dX3_begin_2 : decode cX3_begin 2 = .ok (.putfield 18, 3) := by decide +kernel
theorem dX3_begin_5 : decode cX3_begin 5 = .ok (.aload_n 0, 1) := by decide +kernel
theorem dX3_begin_6 : decode cX3_begin 6 = .ok (.iconst 0, 1) := by decide +kernel
theorem dX3_begin_7 : decode cX3_begin 7 = .ok (.putfield 22, 3) := by decide +kernel
theorem dX3_begin_10 : decode cX3_begin 10 = .ok (.aload_n 0, 1) := by decide +kernel
theorem dX3_begin_11 : decode cX3_begin 11 = .ok (.iconst 0, 1) := by decide +kernel
theorem dX3_begin_12 : decode cX3_begin 12 = .ok (.putfield 25, 3) := by decide +kernel
theorem dX3_begin_15 : decode cX3_begin 15 = .ok (.return_, 1) := by decide +kernel
theorem dX3_copy_0 : decode cX3_copy 0 = .ok (.aload_n 1, 1) := by decide +kernel
theorem dX3_copy_1 : decode cX3_copy 1 = .ok (.getfield 9, 3) := by decide +kernel
theorem dX3_copy_4 : decode cX3_copy 4 = .ok (.iconst 0, 1) := by decide +kernel
theorem dX3_copy_5 : decode cX3_copy 5 = .ok (.aload_n 0, 1) := by decide +kernel
theorem dX3_copy_6 : decode cX3_copy 6 = .ok (.getfield 9, 3) := by decide +kernel
theorem dX3_copy_9 : decode cX3_copy 9 = .ok (.iconst 0, 1) := by decide +kernel
theorem dX3_copy_10 : decode cX3_copy 10 = .ok (.bipush 12, 2) := by decide +kernel
theorem dX3_copy_12 : decode cX3_copy 12 = .ok (.invokestatic 28, 3) := by decide +kernel
theorem dX3_copy_15 : decode cX3_copy 15 = .ok (.aload_n 1, 1) := by decide +kernel
theorem dX3_copy_16 : decode cX3_copy 16 = .ok (.getfield 15, 3) := by decide +kernel
theorem dX3_copy_19 : decode cX3_copy 19 = .ok (.iconst 0, 1) := by decide +kernel
theorem dX3_copy_20 : decode cX3_copy 20 = .ok (.aload_n 0, 1) := by decide +kernel
theorem dX3_copy_21 : decode cX3_copy 21 = .ok (.getfield 15, 3) := by decide +kernel
theorem dX3_copy_24 : decode cX3_copy 24 = .ok (.iconst 0, 1) := by decide +kernel
theorem dX3_copy_25 : decode cX3_copy 25 = .ok (.bipush 12, 2) := by decide +kernel
theorem dX3_copy_27 : decode cX3_copy 27 = .ok (.invokestatic 28, 3) := by decide +kernel
theorem dX3_copy_30 : decode cX3_copy 30 = .ok (.aload_n 0, 1) := by decide +kernel
theorem dX3_copy_31 : decode cX3_copy 31 = .ok (.aload_n 1, 1) := by decide +kernel
theorem dX3_copy_32 : decode cX3_copy 32 = .ok (.getfield 18, 3) := by decide +kernel
theorem dX3_copy_35 : decode cX3_copy 35 = .ok (.putfield 18, 3) := by decide +kernel
theorem dX3_copy_38 : decode cX3_copy 38 = .ok (.aload_n 0, 1) := by decide +kernel
theorem dX3_copy_39 : decode cX3_copy 39 = .ok (.aload_n 1, 1) := by decide +kernel
theorem dX3_copy_40 : decode cX3_copy 40 = .ok (.getfield 22, 3) := by decide +kernel
theorem dX3_copy_43 : decode cX3_copy 43 = .ok (.putfield 22, 3) := by decide +kernel
theorem dX3_copy_46 : decode cX3_copy 46 = .ok (.aload_n 0, 1) := by decide +kernel
theorem dX3_copy_47 : decode cX3_copy 47 = .ok (.aload_n 1, 1) := by decide +kernel
theorem dX3_copy_48 : decode cX3_copy 48 = .ok (.getfield 25, 3) := by decide +kernel
theorem dX3_copy_51 : decode cX3_copy 51 = .ok (.putfield 25, 3) := by decide +kernel
theorem dX3_copy_54 : decode cX3_copy 54 = .ok (.return_, 1) := by decide +kernel
theorem dX3_kindIn_0 : decode cX3_kindIn 0 = .ok (.iload_n 1, 1) := by decide +kernel
theorem dX3_kindIn_1 : decode cX3_kindIn 1 = .ok (.ifCond .lt 20, 3) := by decide +kernel
theorem dX3_kindIn_4 : decode cX3_kindIn 4 = .ok (.iload_n 1, 1) := by decide +kernel
theorem dX3_kindIn_5 : decode cX3_kindIn 5 = .ok (.aload_n 0, 1) := by decide +kernel
theorem dX3_kindIn_6 : decode cX3_kindIn 6 = .ok (.getfield 18, 3) := by decide +kernel
theorem dX3_kindIn_9 : decode cX3_kindIn 9 = .ok (.if_icmp .ge 12, 3) := by decide +kernel
theorem dX3_kindIn_12 : decode cX3_kindIn 12 = .ok (.aload_n 0, 1) := by decide +kernel
theorem dX3_kindIn_13 : decode cX3_kindIn 13 = .ok (.getfield 9, 3) := by decide +kernel
theorem dX3_kindIn_16 : decode cX3_kindIn 16 = .ok (.iload_n 1, 1) := by decide +kernel
theorem dX3_kindIn_17 : decode cX3_kindIn 17 = .ok (.iaload, 1) := by decide +kernel
theorem dX3_kindIn_18 : decode cX3_kindIn 18 = .ok (.goto 4, 3) := by decide +kernel
theorem dX3_kindIn_21 : decode cX3_kindIn 21 = .ok (.iconst (-1), 1) := by decide +kernel
theorem dX3_kindIn_22 : decode cX3_kindIn 22 = .ok (.ireturn, 1) := by decide +kernel
theorem dX3_mirrorIn_0 : decode cX3_mirrorIn 0 = .ok (.iload_n 1, 1) := by decide +kernel
theorem dX3_mirrorIn_1 : decode cX3_mirrorIn 1 = .ok (.ifCond .lt 20, 3) := by decide +kernel
theorem dX3_mirrorIn_4 : decode cX3_mirrorIn 4 = .ok (.iload_n 1, 1) := by decide +kernel
theorem dX3_mirrorIn_5 : decode cX3_mirrorIn 5 = .ok (.aload_n 0, 1) := by decide +kernel
theorem dX3_mirrorIn_6 : decode cX3_mirrorIn 6 = .ok (.getfield 18, 3) := by decide +kernel
theorem dX3_mirrorIn_9 : decode cX3_mirrorIn 9 = .ok (.if_icmp .ge 12, 3) := by decide +kernel
theorem dX3_mirrorIn_12 : decode cX3_mirrorIn 12 = .ok (.aload_n 0, 1) := by decide +kernel
theorem dX3_mirrorIn_13 : decode cX3_mirrorIn 13 = .ok (.getfield 15, 3) := by decide +kernel
theorem dX3_mirrorIn_16 : decode cX3_mirrorIn 16 = .ok (.iload_n 1, 1) := by decide +kernel
theorem dX3_mirrorIn_17 : decode cX3_mirrorIn 17 = .ok (.iaload, 1) := by decide +kernel
theorem dX3_mirrorIn_18 : decode cX3_mirrorIn 18 = .ok (.goto 4, 3) := by decide +kernel
theorem dX3_mirrorIn_21 : decode cX3_mirrorIn 21 = .ok (.iconst (-1), 1) := by decide +kernel
theorem dX3_mirrorIn_22 : decode cX3_mirrorIn 22 = .ok (.ireturn, 1) := by decide +kernel
theorem dX3_hasJobFor_0 : decode cX3_hasJobFor 0 = .ok (.iconst 0, 1) := by decide +kernel
theorem dX3_hasJobFor_1 : decode cX3_hasJobFor 1 = .ok (.istore_n 2, 1) := by decide +kernel
theorem dX3_hasJobFor_2 : decode cX3_hasJobFor 2 = .ok (.iload_n 2, 1) := by decide +kernel
theorem dX3_hasJobFor_3 : decode cX3_hasJobFor 3 = .ok (.aload_n 0, 1) := by decide +kernel
theorem dX3_hasJobFor_4 : decode cX3_hasJobFor 4 = .ok (.getfield 18, 3) := by decide +kernel
theorem dX3_hasJobFor_7 : decode cX3_hasJobFor 7 = .ok (.if_icmp .ge 21, 3) := by decide +kernel
theorem dX3_hasJobFor_10 : decode cX3_hasJobFor 10 = .ok (.aload_n 0, 1) := by decide +kernel
theorem dX3_hasJobFor_11 : decode cX3_hasJobFor 11 = .ok (.getfield 15, 3) := by decide +kernel
theorem dX3_hasJobFor_14 : decode cX3_hasJobFor 14 = .ok (.iload_n 2, 1) := by decide +kernel
theorem dX3_hasJobFor_15 : decode cX3_hasJobFor 15 = .ok (.iaload, 1) := by decide +kernel
theorem dX3_hasJobFor_16 : decode cX3_hasJobFor 16 = .ok (.iload_n 1, 1) := by decide +kernel
theorem dX3_hasJobFor_17 : decode cX3_hasJobFor 17 = .ok (.if_icmp .ne 5, 3) := by decide +kernel
theorem dX3_hasJobFor_20 : decode cX3_hasJobFor 20 = .ok (.iconst 1, 1) := by decide +kernel
theorem dX3_hasJobFor_21 : decode cX3_hasJobFor 21 = .ok (.ireturn, 1) := by decide +kernel
theorem dX3_hasJobFor_22 : decode cX3_hasJobFor 22 = .ok (.iinc 2 1, 3) := by decide +kernel
theorem dX3_hasJobFor_25 : decode cX3_hasJobFor 25 = .ok (.goto (-23), 3) := by decide +kernel
theorem dX3_hasJobFor_28 : decode cX3_hasJobFor 28 = .ok (.iconst 0, 1) := by decide +kernel
theorem dX3_hasJobFor_29 : decode cX3_hasJobFor 29 = .ok (.ireturn, 1) := by decide +kernel
theorem dX3_takesIn_0 : decode cX3_takesIn 0 = .ok (.iconst 0, 1) := by decide +kernel
theorem dX3_takesIn_1 : decode cX3_takesIn 1 = .ok (.istore_n 3, 1) := by decide +kernel
theorem dX3_takesIn_2 : decode cX3_takesIn 2 = .ok (.iload_n 3, 1) := by decide +kernel
theorem dX3_takesIn_3 : decode cX3_takesIn 3 = .ok (.aload_n 0, 1) := by decide +kernel
theorem dX3_takesIn_4 : decode cX3_takesIn 4 = .ok (.getfield 18, 3) := by decide +kernel
theorem dX3_takesIn_7 : decode cX3_takesIn 7 = .ok (.if_icmp .ge 31, 3) := by decide +kernel
theorem dX3_takesIn_10 : decode cX3_takesIn 10 = .ok (.aload_n 0, 1) := by decide +kernel
theorem dX3_takesIn_11 : decode cX3_takesIn 11 = .ok (.getfield 9, 3) := by decide +kernel
theorem dX3_takesIn_14 : decode cX3_takesIn 14 = .ok (.iload_n 3, 1) := by decide +kernel
theorem dX3_takesIn_15 : decode cX3_takesIn 15 = .ok (.iaload, 1) := by decide +kernel
theorem dX3_takesIn_16 : decode cX3_takesIn 16 = .ok (.iload_n 1, 1) := by decide +kernel
theorem dX3_takesIn_17 : decode cX3_takesIn 17 = .ok (.if_icmp .ne 15, 3) := by decide +kernel
theorem dX3_takesIn_20 : decode cX3_takesIn 20 = .ok (.aload_n 0, 1) := by decide +kernel
theorem dX3_takesIn_21 : decode cX3_takesIn 21 = .ok (.getfield 15, 3) := by decide +kernel
theorem dX3_takesIn_24 : decode cX3_takesIn 24 = .ok (.iload_n 3, 1) := by decide +kernel
theorem dX3_takesIn_25 : decode cX3_takesIn 25 = .ok (.iaload, 1) := by decide +kernel
theorem dX3_takesIn_26 : decode cX3_takesIn 26 = .ok (.iload_n 2, 1) := by decide +kernel
theorem dX3_takesIn_27 : decode cX3_takesIn 27 = .ok (.if_icmp .ne 5, 3) := by decide +kernel
theorem dX3_takesIn_30 : decode cX3_takesIn 30 = .ok (.iconst 0, 1) := by decide +kernel
theorem dX3_takesIn_31 : decode cX3_takesIn 31 = .ok (.ireturn, 1) := by decide +kernel
theorem dX3_takesIn_32 : decode cX3_takesIn 32 = .ok (.iinc 3 1, 3) := by decide +kernel
theorem dX3_takesIn_35 : decode cX3_takesIn 35 = .ok (.goto (-33), 3) := by decide +kernel
theorem dX3_takesIn_38 : decode cX3_takesIn 38 = .ok (.aload_n 0, 1) := by decide +kernel
theorem dX3_takesIn_39 : decode cX3_takesIn 39 = .ok (.getfield 18, 3) := by decide +kernel
theorem dX3_takesIn_42 : decode cX3_takesIn 42 = .ok (.bipush 12, 2) := by decide +kernel
theorem dX3_takesIn_44 : decode cX3_takesIn 44 = .ok (.if_icmp .ge 7, 3) := by decide +kernel
theorem dX3_takesIn_47 : decode cX3_takesIn 47 = .ok (.iconst 1, 1) := by decide +kernel
theorem dX3_takesIn_48 : decode cX3_takesIn 48 = .ok (.goto 4, 3) := by decide +kernel
theorem dX3_takesIn_51 : decode cX3_takesIn 51 = .ok (.iconst 0, 1) := by decide +kernel
theorem dX3_takesIn_52 : decode cX3_takesIn 52 = .ok (.ireturn, 1) := by decide +kernel
theorem dX3_add_0 : decode cX3_add 0 = .ok (.aload_n 0, 1) := by decide +kernel
theorem dX3_add_1 : decode cX3_add 1 = .ok (.iload_n 1, 1) := by decide +kernel
theorem dX3_add_2 : decode cX3_add 2 = .ok (.iload_n 2, 1) := by decide +kernel
theorem dX3_add_3 : decode cX3_add 3 = .ok (.invokevirtual 34, 3) := by decide +kernel
theorem dX3_add_6 : decode cX3_add 6 = .ok (.ifCond .eq 33, 3) := by decide +kernel
theorem dX3_add_9 : decode cX3_add 9 = .ok (.aload_n 0, 1) := by decide +kernel
theorem dX3_add_10 : decode cX3_add 10 = .ok (.getfield 9, 3) := by decide +kernel
theorem dX3_add_13 : decode cX3_add 13 = .ok (.aload_n 0, 1) := by decide +kernel
theorem dX3_add_14 : decode cX3_add 14 = .ok (.getfield 18, 3) := by decide +kernel
theorem dX3_add_17 : decode cX3_add 17 = .ok (.iload_n 1, 1) := by decide +kernel
theorem dX3_add_18 : decode cX3_add 18 = .ok (.iastore, 1) := by decide +kernel
theorem dX3_add_19 : decode cX3_add 19 = .ok (.aload_n 0, 1) := by decide +kernel
theorem dX3_add_20 : decode cX3_add 20 = .ok (.getfield 15, 3) := by decide +kernel
theorem dX3_add_23 : decode cX3_add 23 = .ok (.aload_n 0, 1) := by decide +kernel
theorem dX3_add_24 : decode cX3_add 24 = .ok (.getfield 18, 3) := by decide +kernel
theorem dX3_add_27 : decode cX3_add 27 = .ok (.iload_n 2, 1) := by decide +kernel
theorem dX3_add_28 : decode cX3_add 28 = .ok (.iastore, 1) := by decide +kernel
theorem dX3_add_29 : decode cX3_add 29 = .ok (.aload_n 0, 1) := by decide +kernel
theorem dX3_add_30 : decode cX3_add 30 = .ok (.dup, 1) := by decide +kernel
theorem dX3_add_31 : decode cX3_add 31 = .ok (.getfield 18, 3) := by decide +kernel
theorem dX3_add_34 : decode cX3_add 34 = .ok (.iconst 1, 1) := by decide +kernel
theorem dX3_add_35 : decode cX3_add 35 = .ok (.iadd, 1) := by decide +kernel
theorem dX3_add_36 : decode cX3_add 36 = .ok (.putfield 18, 3) := by decide +kernel
theorem dX3_add_39 : decode cX3_add 39 = .ok (.return_, 1) := by decide +kernel
theorem dX3_remove_0 : decode cX3_remove 0 = .ok (.iload_n 1, 1) := by decide +kernel
theorem dX3_remove_1 : decode cX3_remove 1 = .ok (.ifCond .lt 11, 3) := by decide +kernel
theorem dX3_remove_4 : decode cX3_remove 4 = .ok (.iload_n 1, 1) := by decide +kernel
theorem dX3_remove_5 : decode cX3_remove 5 = .ok (.aload_n 0, 1) := by decide +kernel
theorem dX3_remove_6 : decode cX3_remove 6 = .ok (.getfield 18, 3) := by decide +kernel
theorem dX3_remove_9 : decode cX3_remove 9 = .ok (.if_icmp .lt 4, 3) := by decide +kernel
theorem dX3_remove_12 : decode cX3_remove 12 = .ok (.return_, 1) := by decide +kernel
theorem dX3_remove_13 : decode cX3_remove 13 = .ok (.aload_n 0, 1) := by decide +kernel
theorem dX3_remove_14 : decode cX3_remove 14 = .ok (.dup, 1) := by decide +kernel
theorem dX3_remove_15 : decode cX3_remove 15 = .ok (.getfield 18, 3) := by decide +kernel
theorem dX3_remove_18 : decode cX3_remove 18 = .ok (.iconst 1, 1) := by decide +kernel
theorem dX3_remove_19 : decode cX3_remove 19 = .ok (.isub, 1) := by decide +kernel
theorem dX3_remove_20 : decode cX3_remove 20 = .ok (.putfield 18, 3) := by decide +kernel
theorem dX3_remove_23 : decode cX3_remove 23 = .ok (.iload_n 1, 1) := by decide +kernel
theorem dX3_remove_24 : decode cX3_remove 24 = .ok (.istore_n 2, 1) := by decide +kernel
theorem dX3_remove_25 : decode cX3_remove 25 = .ok (.iload_n 2, 1) := by decide +kernel
theorem dX3_remove_26 : decode cX3_remove 26 = .ok (.aload_n 0, 1) := by decide +kernel
theorem dX3_remove_27 : decode cX3_remove 27 = .ok (.getfield 18, 3) := by decide +kernel
theorem dX3_remove_30 : decode cX3_remove 30 = .ok (.if_icmp .ge 37, 3) := by decide +kernel
theorem dX3_remove_33 : decode cX3_remove 33 = .ok (.aload_n 0, 1) := by decide +kernel
theorem dX3_remove_34 : decode cX3_remove 34 = .ok (.getfield 9, 3) := by decide +kernel
theorem dX3_remove_37 : decode cX3_remove 37 = .ok (.iload_n 2, 1) := by decide +kernel
theorem dX3_remove_38 : decode cX3_remove 38 = .ok (.aload_n 0, 1) := by decide +kernel
theorem dX3_remove_39 : decode cX3_remove 39 = .ok (.getfield 9, 3) := by decide +kernel
theorem dX3_remove_42 : decode cX3_remove 42 = .ok (.iload_n 2, 1) := by decide +kernel
theorem dX3_remove_43 : decode cX3_remove 43 = .ok (.iconst 1, 1) := by decide +kernel
theorem dX3_remove_44 : decode cX3_remove 44 = .ok (.iadd, 1) := by decide +kernel
theorem dX3_remove_45 : decode cX3_remove 45 = .ok (.iaload, 1) := by decide +kernel
theorem dX3_remove_46 : decode cX3_remove 46 = .ok (.iastore, 1) := by decide +kernel
theorem dX3_remove_47 : decode cX3_remove 47 = .ok (.aload_n 0, 1) := by decide +kernel
theorem dX3_remove_48 : decode cX3_remove 48 = .ok (.getfield 15, 3) := by decide +kernel
theorem dX3_remove_51 : decode cX3_remove 51 = .ok (.iload_n 2, 1) := by decide +kernel
theorem dX3_remove_52 : decode cX3_remove 52 = .ok (.aload_n 0, 1) := by decide +kernel
theorem dX3_remove_53 : decode cX3_remove 53 = .ok (.getfield 15, 3) := by decide +kernel
theorem dX3_remove_56 : decode cX3_remove 56 = .ok (.iload_n 2, 1) := by decide +kernel
theorem dX3_remove_57 : decode cX3_remove 57 = .ok (.iconst 1, 1) := by decide +kernel
theorem dX3_remove_58 : decode cX3_remove 58 = .ok (.iadd, 1) := by decide +kernel
theorem dX3_remove_59 : decode cX3_remove 59 = .ok (.iaload, 1) := by decide +kernel
theorem dX3_remove_60 : decode cX3_remove 60 = .ok (.iastore, 1) := by decide +kernel
theorem dX3_remove_61 : decode cX3_remove 61 = .ok (.iinc 2 1, 3) := by decide +kernel
theorem dX3_remove_64 : decode cX3_remove 64 = .ok (.goto (-39), 3) := by decide +kernel
theorem dX3_remove_67 : decode cX3_remove 67 = .ok (.iload_n 1, 1) := by decide +kernel
theorem dX3_remove_68 : decode cX3_remove 68 = .ok (.ifCond .ne 8, 3) := by decide +kernel
theorem dX3_remove_71 : decode cX3_remove 71 = .ok (.aload_n 0, 1) := by decide +kernel
theorem dX3_remove_72 : decode cX3_remove 72 = .ok (.iconst 0, 1) := by decide +kernel
theorem dX3_remove_73 : decode cX3_remove 73 = .ok (.putfield 22, 3) := by decide +kernel
theorem dX3_remove_76 : decode cX3_remove 76 = .ok (.return_, 1) := by decide +kernel
