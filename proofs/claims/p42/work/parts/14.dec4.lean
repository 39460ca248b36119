theorem dX9_init_0 : decode cX9_init 0 = .ok (.aload_n 0, 1) := by decide +kernel
theorem dX9_init_1 : decode cX9_init 1 = .ok (.invokespecial 1, 3) := by decide +kernel
theorem dX9_init_4 : decode cX9_init 4 = .ok (.aload_n 0, 1) := by decide +kernel
theorem dX9_init_5 : decode cX9_init 5 = .ok (.iload_n 1, 1) := by decide +kernel
theorem dX9_init_6 : decode cX9_init 6 = .ok (.putfield 7, 3) := by decide +kernel
theorem dX9_init_9 : decode cX9_init 9 = .ok (.return_, 1) := by decide +kernel
theorem dX9_next_0 : decode cX9_next 0 = .ok (.aload_n 0, 1) := by decide +kernel
theorem dX9_next_1 : decode cX9_next 1 = .ok (.aload_n 0, 1) := by decide +kernel
theorem dX9_next_2 : decode cX9_next 2 = .ok (.getfield 7, 3) := by decide +kernel
theorem dX9_next_5 : decode cX9_next 5 = .ok (.ldc 13, 2) := by decide +kernel
theorem dX9_next_7 : decode cX9_next 7 = .ok (.imul, 1) := by decide +kernel
theorem dX9_next_8 : decode cX9_next 8 = .ok (.sipush 12345, 3) := by decide +kernel
theorem dX9_next_11 : decode cX9_next 11 = .ok (.iadd, 1) := by decide +kernel
theorem dX9_next_12 : decode cX9_next 12 = .ok (.putfield 7, 3) := by decide +kernel
theorem dX9_next_15 : decode cX9_next 15 = .ok (.aload_n 0, 1) := by decide +kernel
theorem dX9_next_16 : decode cX9_next 16 = .ok (.getfield 7, 3) := by decide +kernel
theorem dX9_next_19 : decode cX9_next 19 = .ok (.bipush 9, 2) := by decide +kernel
theorem dX9_next_21 : decode cX9_next 21 = .ok (.ishr, 1) := by decide +kernel
theorem dX9_next_22 : decode cX9_next 22 = .ok (.iload_n 1, 1) := by decide +kernel
theorem dX9_next_23 : decode cX9_next 23 = .ok (.invokestatic 14, 3) := by decide +kernel
theorem dX9_next_26 : decode cX9_next 26 = .ok (.ireturn, 1) := by decide +kernel
theorem dX10_init_0 : decode cX10_init 0 = .ok (.aload_n 0, 1) := by decide +kernel
theorem dX10_init_1 : decode cX10_init 1 = .ok (.invokespecial 1, 3) := by decide +kernel
theorem dX10_init_4 : decode cX10_init 4 = .ok (.aload_n 0, 1) := by decide +kernel
theorem dX10_init_5 : decode cX10_init 5 = .ok (.iload_n 1, 1) := by decide +kernel
theorem dX10_init_6 : decode cX10_init 6 = .ok (.putfield 7, 3) := by decide +kernel
theorem dX10_init_9 : decode cX10_init 9 = .ok (.aload_n 0, 1) := by decide +kernel
theorem dX10_init_10 : decode cX10_init 10 = .ok (.iload_n 2, 1) := by decide +kernel
theorem dX10_init_11 : decode cX10_init 11 = .ok (.putfield 13, 3) := by decide +kernel
theorem dX10_init_14 : decode cX10_init 14 = .ok (.aload_n 0, 1) := by decide +kernel
theorem dX10_init_15 : decode cX10_init 15 = .ok (.aload_n 3, 1) := by decide +kernel
theorem dX10_init_16 : decode cX10_init 16 = .ok (.putfield 16, 3) := by decide +kernel
theorem dX10_init_19 : decode cX10_init 19 = .ok (.aload_n 0, 1) := by decide +kernel
theorem dX10_init_20 : decode cX10_init 20 = .ok (.aload 4, 2) := by decide +kernel
theorem dX10_init_22 : decode cX10_init 22 = .ok (.putfield 20, 3) := by decide +kernel
theorem dX10_init_25 : decode cX10_init 25 = .ok (.return_, 1) := by decide +kernel
theorem dX10_sum_0 : decode cX10_sum 0 = .ok (.aload_n 0, 1) := by decide +kernel
theorem dX10_sum_1 : decode cX10_sum 1 = .ok (.iload_n 2, 1) := by decide +kernel
theorem dX10_sum_2 : decode cX10_sum 2 = .ok (.ifCond .ne 8, 3) := by decide +kernel
theorem dX10_sum_5 : decode cX10_sum 5 = .ok (.bipush 9, 2) := by decide +kernel
theorem dX10_sum_7 : decode cX10_sum 7 = .ok (.goto 5, 3) := by decide +kernel
theorem dX10_sum_10 : decode cX10_sum 10 = .ok (.bipush 16, 2) := by decide +kernel
theorem dX10_sum_12 : decode cX10_sum 12 = .ok (.invokevirtual 23, 3) := by decide +kernel
theorem dX10_sum_15 : decode cX10_sum 15 = .ok (.istore_n 3, 1) := by decide +kernel
theorem dX10_sum_16 : decode cX10_sum 16 = .ok (.iload_n 3, 1) := by decide +kernel
theorem dX10_sum_17 : decode cX10_sum 17 = .ok (.bipush 9, 2) := by decide +kernel
theorem dX10_sum_19 : decode cX10_sum 19 = .ok (.if_icmp .ge 50, 3) := by decide +kernel
theorem dX10_sum_22 : decode cX10_sum 22 = .ok (.new 8, 3) := by decide +kernel
theorem dX10_sum_25 : decode cX10_sum 25 = .ok (.dup, 1) := by decide +kernel
theorem dX10_sum_26 : decode cX10_sum 26 = .ok (.iload_n 3, 1) := by decide +kernel
theorem dX10_sum_27 : decode cX10_sum 27 = .ok (.iload_n 3, 1) := by decide +kernel
theorem dX10_sum_28 : decode cX10_sum 28 = .ok (.ifCond .le 11, 3) := by decide +kernel
theorem dX10_sum_31 : decode cX10_sum 31 = .ok (.aload_n 0, 1) := by decide +kernel
theorem dX10_sum_32 : decode cX10_sum 32 = .ok (.iload_n 1, 1) := by decide +kernel
theorem dX10_sum_33 : decode cX10_sum 33 = .ok (.invokevirtual 23, 3) := by decide +kernel
theorem dX10_sum_36 : decode cX10_sum 36 = .ok (.goto 27, 3) := by decide +kernel
theorem dX10_sum_39 : decode cX10_sum 39 = .ok (.aload_n 0, 1) := by decide +kernel
theorem dX10_sum_40 : decode cX10_sum 40 = .ok (.bipush 6, 2) := by decide +kernel
theorem dX10_sum_42 : decode cX10_sum 42 = .ok (.invokevirtual 23, 3) := by decide +kernel
theorem dX10_sum_45 : decode cX10_sum 45 = .ok (.ifCond .ne 12, 3) := by decide +kernel
theorem dX10_sum_48 : decode cX10_sum 48 = .ok (.aload_n 0, 1) := by decide +kernel
theorem dX10_sum_49 : decode cX10_sum 49 = .ok (.ldc 29, 2) := by decide +kernel
theorem dX10_sum_51 : decode cX10_sum 51 = .ok (.invokevirtual 23, 3) := by decide +kernel
theorem dX10_sum_54 : decode cX10_sum 54 = .ok (.goto 9, 3) := by decide +kernel
theorem dX10_sum_57 : decode cX10_sum 57 = .ok (.aload_n 0, 1) := by decide +kernel
theorem dX10_sum_58 : decode cX10_sum 58 = .ok (.bipush 30, 2) := by decide +kernel
theorem dX10_sum_60 : decode cX10_sum 60 = .ok (.invokevirtual 23, 3) := by decide +kernel
theorem dX10_sum_63 : decode cX10_sum 63 = .ok (.aconst_null, 1) := by decide +kernel
theorem dX10_sum_64 : decode cX10_sum 64 = .ok (.aconst_null, 1) := by decide +kernel
theorem dX10_sum_65 : decode cX10_sum 65 = .ok (.invokespecial 30, 3) := by decide +kernel
theorem dX10_sum_68 : decode cX10_sum 68 = .ok (.areturn, 1) := by decide +kernel
theorem dX10_sum_69 : decode cX10_sum 69 = .ok (.aload_n 0, 1) := by decide +kernel
theorem dX10_sum_70 : decode cX10_sum 70 = .ok (.iload_n 1, 1) := by decide +kernel
theorem dX10_sum_71 : decode cX10_sum 71 = .ok (.iload_n 2, 1) := by decide +kernel
theorem dX10_sum_72 : decode cX10_sum 72 = .ok (.iconst 1, 1) := by decide +kernel
theorem dX10_sum_73 : decode cX10_sum 73 = .ok (.isub, 1) := by decide +kernel
theorem dX10_sum_74 : decode cX10_sum 74 = .ok (.invokestatic 33, 3) := by decide +kernel
theorem dX10_sum_77 : decode cX10_sum 77 = .ok (.astore 4, 2) := by decide +kernel
theorem dX10_sum_79 : decode cX10_sum 79 = .ok (.new 8, 3) := by decide +kernel
theorem dX10_sum_82 : decode cX10_sum 82 = .ok (.dup, 1) := by decide +kernel
theorem dX10_sum_83 : decode cX10_sum 83 = .ok (.iload_n 3, 1) := by decide +kernel
theorem dX10_sum_84 : decode cX10_sum 84 = .ok (.iconst 0, 1) := by decide +kernel
theorem dX10_sum_85 : decode cX10_sum 85 = .ok (.aload 4, 2) := by decide +kernel
theorem dX10_sum_87 : decode cX10_sum 87 = .ok (.iload_n 3, 1) := by decide +kernel
theorem dX10_sum_88 : decode cX10_sum 88 = .ok (.bipush 9, 2) := by decide +kernel
theorem dX10_sum_90 : decode cX10_sum 90 = .ok (.if_icmp .ne 7, 3) := by decide +kernel
theorem dX10_sum_93 : decode cX10_sum 93 = .ok (.aconst_null, 1) := by decide +kernel
theorem dX10_sum_94 : decode cX10_sum 94 = .ok (.goto 11, 3) := by decide +kernel
theorem dX10_sum_97 : decode cX10_sum 97 = .ok (.aload_n 0, 1) := by decide +kernel
theorem dX10_sum_98 : decode cX10_sum 98 = .ok (.iload_n 1, 1) := by decide +kernel
theorem dX10_sum_99 : decode cX10_sum 99 = .ok (.iload_n 2, 1) := by decide +kernel
theorem dX10_sum_100 : decode cX10_sum 100 = .ok (.iconst 1, 1) := by decide +kernel
theorem dX10_sum_101 : decode cX10_sum 101 = .ok (.isub, 1) := by decide +kernel
theorem dX10_sum_102 : decode cX10_sum 102 = .ok (.invokestatic 33, 3) := by decide +kernel
theorem dX10_sum_105 : decode cX10_sum 105 = .ok (.invokespecial 30, 3) := by decide +kernel
theorem dX10_sum_108 : decode cX10_sum 108 = .ok (.areturn, 1) := by decide +kernel
theorem dX10_test_0 : decode cX10_test 0 = .ok (.aload_n 0, 1) := by decide +kernel
theorem dX10_test_1 : decode cX10_test 1 = .ok (.iload_n 2, 1) := by decide +kernel
theorem dX10_test_2 : decode cX10_test 2 = .ok (.ifCond .ne 7, 3) := by decide +kernel
theorem dX10_test_5 : decode cX10_test 5 = .ok (.iconst 5, 1) := by decide +kernel
theorem dX10_test_6 : decode cX10_test 6 = .ok (.goto 5, 3) := by decide +kernel
theorem dX10_test_9 : decode cX10_test 9 = .ok (.bipush 8, 2) := by decide +kernel
theorem dX10_test_11 : decode cX10_test 11 = .ok (.invokevirtual 23, 3) := by decide +kernel
theorem dX10_test_14 : decode cX10_test 14 = .ok (.istore_n 3, 1) := by decide +kernel
theorem dX10_test_15 : decode cX10_test 15 = .ok (.iload_n 3, 1) := by decide +kernel
theorem dX10_test_16 : decode cX10_test 16 = .ok (.iconst 2, 1) := by decide +kernel
theorem dX10_test_17 : decode cX10_test 17 = .ok (.if_icmp .ge 22, 3) := by decide +kernel
theorem dX10_test_20 : decode cX10_test 20 = .ok (.new 8, 3) := by decide +kernel
theorem dX10_test_23 : decode cX10_test 23 = .ok (.dup, 1) := by decide +kernel
theorem dX10_test_24 : decode cX10_test 24 = .ok (.bipush 21, 2) := by decide +kernel
theorem dX10_test_26 : decode cX10_test 26 = .ok (.iload_n 3, 1) := by decide +kernel
theorem dX10_test_27 : decode cX10_test 27 = .ok (.iadd, 1) := by decide +kernel
theorem dX10_test_28 : decode cX10_test 28 = .ok (.aload_n 0, 1) := by decide +kernel
theorem dX10_test_29 : decode cX10_test 29 = .ok (.iload_n 1, 1) := by decide +kernel
theorem dX10_test_30 : decode cX10_test 30 = .ok (.invokevirtual 23, 3) := by decide +kernel
theorem dX10_test_33 : decode cX10_test 33 = .ok (.aconst_null, 1) := by decide +kernel
theorem dX10_test_34 : decode cX10_test 34 = .ok (.aconst_null, 1) := by decide +kernel
theorem dX10_test_35 : decode cX10_test 35 = .ok (.invokespecial 30, 3) := by decide +kernel
theorem dX10_test_38 : decode cX10_test 38 = .ok (.areturn, 1) := by decide +kernel
theorem dX10_test_39 : decode cX10_test 39 = .ok (.iload_n 3, 1) := by decide +kernel
theorem dX10_test_40 : decode cX10_test 40 = .ok (.iconst 5, 1) := by decide +kernel
theorem dX10_test_41 : decode cX10_test 41 = .ok (.if_icmp .ge 32, 3) := by decide +kernel
theorem dX10_test_44 : decode cX10_test 44 = .ok (.new 8, 3) := by decide +kernel
theorem dX10_test_47 : decode cX10_test 47 = .ok (.dup, 1) := by decide +kernel
theorem dX10_test_48 : decode cX10_test 48 = .ok (.bipush 16, 2) := by decide +kernel
theorem dX10_test_50 : decode cX10_test 50 = .ok (.aload_n 0, 1) := by decide +kernel
theorem dX10_test_51 : decode cX10_test 51 = .ok (.iconst 5, 1) := by decide +kernel
theorem dX10_test_52 : decode cX10_test 52 = .ok (.invokevirtual 23, 3) := by decide +kernel
theorem dX10_test_55 : decode cX10_test 55 = .ok (.iadd, 1) := by decide +kernel
theorem dX10_test_56 : decode cX10_test 56 = .ok (.iconst 0, 1) := by decide +kernel
theorem dX10_test_57 : decode cX10_test 57 = .ok (.aload_n 0, 1) := by decide +kernel
theorem dX10_test_58 : decode cX10_test 58 = .ok (.iload_n 1, 1) := by decide +kernel
theorem dX10_test_59 : decode cX10_test 59 = .ok (.iconst 1, 1) := by decide +kernel
theorem dX10_test_60 : decode cX10_test 60 = .ok (.invokestatic 33, 3) := by decide +kernel
theorem dX10_test_63 : decode cX10_test 63 = .ok (.aload_n 0, 1) := by decide +kernel
theorem dX10_test_64 : decode cX10_test 64 = .ok (.iload_n 1, 1) := by decide +kernel
theorem dX10_test_65 : decode cX10_test 65 = .ok (.iconst 0, 1) := by decide +kernel
theorem dX10_test_66 : decode cX10_test 66 = .ok (.invokestatic 33, 3) := by decide +kernel
theorem dX10_test_69 : decode cX10_test 69 = .ok (.invokespecial 30, 3) := by decide +kernel
theorem dX10_test_72 : decode cX10_test 72 = .ok (.areturn, 1) := by decide +kernel
theorem dX10_test_73 : decode cX10_test 73 = .ok (.aload_n 0, 1) := by decide +kernel
theorem dX10_test_74 : decode cX10_test 74 = .ok (.iload_n 1, 1) := by decide +kernel
theorem dX10_test_75 : decode cX10_test 75 = .ok (.iload_n 2, 1) := by decide +kernel
theorem dX10_test_76 : decode cX10_test 76 = .ok (.iconst 1, 1) := by decide +kernel
theorem dX10_test_77 : decode cX10_test 77 = .ok (.isub, 1) := by decide +kernel
theorem dX10_test_78 : decode cX10_test 78 = .ok (.invokestatic 37, 3) := by decide +kernel
theorem dX10_test_81 : decode cX10_test 81 = .ok (.astore 4, 2) := by decide +kernel
theorem dX10_test_83 : decode cX10_test 83 = .ok (.new 8, 3) := by decide +kernel
theorem dX10_test_86 : decode cX10_test 86 = .ok (.dup, 1) := by decide +kernel
theorem dX10_test_87 : decode cX10_test 87 = .ok (.bipush 18, 2) := by decide +kernel
theorem dX10_test_89 : decode cX10_test 89 = .ok (.iload_n 3, 1) := by decide +kernel
theorem dX10_test_90 : decode cX10_test 90 = .ok (.iadd, 1) := by decide +kernel
theorem dX10_test_91 : decode cX10_test 91 = .ok (.iconst 0, 1) := by decide +kernel
theorem dX10_test_92 : decode cX10_test 92 = .ok (.aload 4, 2) := by decide +kernel
theorem dX10_test_94 : decode cX10_test 94 = .ok (.iload_n 3, 1) := by decide +kernel
theorem dX10_test_95 : decode cX10_test 95 = .ok (.iconst 5, 1) := by decide +kernel
theorem dX10_test_96 : decode cX10_test 96 = .ok (.if_icmp .ne 7, 3) := by decide +kernel
theorem dX10_test_99 : decode cX10_test 99 = .ok (.aconst_null, 1) := by decide +kernel
theorem dX10_test_100 : decode cX10_test 100 = .ok (.goto 11, 3) := by decide +kernel
theorem dX10_test_103 : decode cX10_test 103 = .ok (.aload_n 0, 1) := by decide +kernel
theorem dX10_test_104 : decode cX10_test 104 = .ok (.iload_n 1, 1) := by decide +kernel
theorem dX10_test_105 : decode cX10_test 105 = .ok (.iload_n 2, 1) := by decide +kernel
theorem dX10_test_106 : decode cX10_test 106 = .ok (.iconst 1, 1) := by decide +kernel
theorem dX10_test_107 : decode cX10_test 107 = .ok (.isub, 1) := by decide +kernel
theorem dX10_test_108 : decode cX10_test 108 = .ok (.invokestatic 37, 3) := by decide +kernel
theorem dX10_test_111 : decode cX10_test 111 = .ok (.invokespecial 30, 3) := by decide +kernel
theorem dX10_test_114 : decode cX10_test 114 = .ok (.areturn, 1) := by decide +kernel
theorem dX10_text_0 : decode cX10_text 0 = .ok (.aload_n 0, 1) := by decide +kernel
theorem dX10_text_1 : decode cX10_text 1 = .ok (.getfield 7, 3) := by decide +kernel
theorem dX10_text_4 : decode cX10_text 4 = .ok (.tableswitch 405 0 25 #[120, 405, 405, 405, 405, 405, 405, 405, 405, 143, 169, 215, 405, 405, 405, 405, 405, 405, 405, 405, 405, 261, 264, 287, 313, 359], 120) := by decide +kernel
theorem dX10_text_124 : decode cX10_text 124 = .ok (.new 40, 3) := by decide +kernel
theorem dX10_text_127 : decode cX10_text 127 = .ok (.dup, 1) := by decide +kernel
theorem dX10_text_128 : decode cX10_text 128 = .ok (.invokespecial 42, 3) := by decide +kernel
theorem dX10_text_131 : decode cX10_text 131 = .ok (.ldc 43, 2) := by decide +kernel
theorem dX10_text_133 : decode cX10_text 133 = .ok (.invokevirtual 45, 3) := by decide +kernel
theorem dX10_text_136 : decode cX10_text 136 = .ok (.aload_n 0, 1) := by decide +kernel
theorem dX10_text_137 : decode cX10_text 137 = .ok (.getfield 13, 3) := by decide +kernel
theorem dX10_text_140 : decode cX10_text 140 = .ok (.invokevirtual 49, 3) := by decide +kernel
theorem dX10_text_143 : decode cX10_text 143 = .ok (.invokevirtual 52, 3) := by decide +kernel
theorem dX10_text_146 : decode cX10_text 146 = .ok (.areturn, 1) := by decide +kernel
theorem dX10_text_147 : decode cX10_text 147 = .ok (.new 40, 3) := by decide +kernel
theorem dX10_text_150 : decode cX10_text 150 = .ok (.dup, 1) := by decide +kernel
theorem dX10_text_151 : decode cX10_text 151 = .ok (.invokespecial 42, 3) := by decide +kernel
theorem dX10_text_154 : decode cX10_text 154 = .ok (.ldc 56, 2) := by decide +kernel
theorem dX10_text_156 : decode cX10_text 156 = .ok (.invokevirtual 45, 3) := by decide +kernel
theorem dX10_text_159 : decode cX10_text 159 = .ok (.aload_n 0, 1) := by decide +kernel
theorem dX10_text_160 : decode cX10_text 160 = .ok (.getfield 16, 3) := by decide +kernel
theorem dX10_text_163 : decode cX10_text 163 = .ok (.invokevirtual 58, 3) := by decide +kernel
theorem dX10_text_166 : decode cX10_text 166 = .ok (.invokevirtual 45, 3) := by decide +kernel
theorem dX10_text_169 : decode cX10_text 169 = .ok (.invokevirtual 52, 3) := by decide +kernel
theorem dX10_text_172 : decode cX10_text 172 = .ok (.areturn, 1) := by decide +kernel
theorem dX10_text_173 : decode cX10_text 173 = .ok (.new 40, 3) := by decide +kernel
theorem dX10_text_176 : decode cX10_text 176 = .ok (.dup, 1) := by decide +kernel
theorem dX10_text_177 : decode cX10_text 177 = .ok (.invokespecial 42, 3) := by decide +kernel
theorem dX10_text_180 : decode cX10_text 180 = .ok (.ldc 61, 2) := by decide +kernel
theorem dX10_text_182 : decode cX10_text 182 = .ok (.invokevirtual 45, 3) := by decide +kernel
theorem dX10_text_185 : decode cX10_text 185 = .ok (.aload_n 0, 1) := by decide +kernel
theorem dX10_text_186 : decode cX10_text 186 = .ok (.getfield 16, 3) := by decide +kernel
theorem dX10_text_189 : decode cX10_text 189 = .ok (.invokevirtual 58, 3) := by decide +kernel
theorem dX10_text_192 : decode cX10_text 192 = .ok (.invokevirtual 45, 3) := by decide +kernel
theorem dX10_text_195 : decode cX10_text 195 = .ok (.ldc 63, 2) := by decide +kernel
theorem dX10_text_197 : decode cX10_text 197 = .ok (.invokevirtual 45, 3) := by decide +kernel
theorem dX10_text_200 : decode cX10_text 200 = .ok (.aload_n 0, 1) := by decide +kernel
theorem dX10_text_201 : decode cX10_text 201 = .ok (.getfield 20, 3) := by decide +kernel
theorem dX10_text_204 : decode cX10_text 204 = .ok (.invokevirtual 58, 3) := by decide +kernel
theorem dX10_text_207 : decode cX10_text 207 = .ok (.invokevirtual 45, 3) := by decide +kernel
theorem dX10_text_210 : decode cX10_text 210 = .ok (.ldc 65, 2) := by decide +kernel
theorem dX10_text_212 : decode cX10_text 212 = .ok (.invokevirtual 45, 3) := by decide +kernel
theorem dX10_text_215 : decode cX10_text 215 = .ok (.invokevirtual 52, 3) := by decide +kernel
theorem dX10_text_218 : decode cX10_text 218 = .ok (.areturn, 1) := by decide +kernel
theorem dX10_text_219 : decode cX10_text 219 = .ok (.new 40, 3) := by decide +kernel
theorem dX10_text_222 : decode cX10_text 222 = .ok (.dup, 1) := by decide +kernel
theorem dX10_text_223 : decode cX10_text 223 = .ok (.invokespecial 42, 3) := by decide +kernel
theorem dX10_text_226 : decode cX10_text 226 = .ok (.ldc 67, 2) := by decide +kernel
theorem dX10_text_228 : decode cX10_text 228 = .ok (.invokevirtual 45, 3) := by decide +kernel
theorem dX10_text_231 : decode cX10_text 231 = .ok (.aload_n 0, 1) := by decide +kernel
theorem dX10_text_232 : decode cX10_text 232 = .ok (.getfield 16, 3) := by decide +kernel
theorem dX10_text_235 : decode cX10_text 235 = .ok (.invokevirtual 58, 3) := by decide +kernel
theorem dX10_text_238 : decode cX10_text 238 = .ok (.invokevirtual 45, 3) := by decide +kernel
theorem dX10_text_241 : decode cX10_text 241 = .ok (.ldc 69, 2) := by decide +kernel
theorem dX10_text_243 : decode cX10_text 243 = .ok (.invokevirtual 45, 3) := by decide +kernel
theorem dX10_text_246 : decode cX10_text 246 = .ok (.aload_n 0, 1) := by decide +kernel
theorem dX10_text_247 : decode cX10_text 247 = .ok (.getfield 20, 3) := by decide +kernel
theorem dX10_text_250 : decode cX10_text 250 = .ok (.invokevirtual 58, 3) := by decide +kernel
theorem dX10_text_253 : decode cX10_text 253 = .ok (.invokevirtual 45, 3) := by decide +kernel
theorem dX10_text_256 : decode cX10_text 256 = .ok (.ldc 65, 2) := by decide +kernel
theorem dX10_text_258 : decode cX10_text 258 = .ok (.invokevirtual 45, 3) := by decide +kernel
theorem dX10_text_261 : decode cX10_text 261 = .ok (.invokevirtual 52, 3) := by decide +kernel
theorem dX10_text_264 : decode cX10_text 264 = .ok (.areturn, 1) := by decide +kernel
theorem dX10_text_265 : decode cX10_text 265 = .ok (.ldc 71, 2) := by decide +kernel
theorem dX10_text_267 : decode cX10_text 267 = .ok (.areturn, 1) := by decide +kernel
theorem dX10_text_268 : decode cX10_text 268 = .ok (.new 40, 3) := by decide +kernel
theorem dX10_text_271 : decode cX10_text 271 = .ok (.dup, 1) := by decide +kernel
theorem dX10_text_272 : decode cX10_text 272 = .ok (.invokespecial 42, 3) := by decide +kernel
theorem dX10_text_275 : decode cX10_text 275 = .ok (.ldc 73, 2) := by decide +kernel
theorem dX10_text_277 : decode cX10_text 277 = .ok (.invokevirtual 45, 3) := by decide +kernel
theorem dX10_text_280 : decode cX10_text 280 = .ok (.aload_n 0, 1) := by decide +kernel
theorem dX10_text_281 : decode cX10_text 281 = .ok (.getfield 13, 3) := by decide +kernel
theorem dX10_text_284 : decode cX10_text 284 = .ok (.invokevirtual 49, 3) := by decide +kernel
theorem dX10_text_287 : decode cX10_text 287 = .ok (.invokevirtual 52, 3) := by decide +kernel
theorem dX10_text_290 : decode cX10_text 290 = .ok (.areturn, 1) := by decide +kernel
theorem dX10_text_291 : decode cX10_text 291 = .ok (.new 40, 3) := by decide +kernel
theorem dX10_text_294 : decode cX10_text 294 = .ok (.dup, 1) := by decide +kernel
theorem dX10_text_295 : decode cX10_text 295 = .ok (.invokespecial 42, 3) := by decide +kernel
theorem dX10_text_298 : decode cX10_text 298 = .ok (.ldc 75, 2) := by decide +kernel
theorem dX10_text_300 : decode cX10_text 300 = .ok (.invokevirtual 45, 3) := by decide +kernel
theorem dX10_text_303 : decode cX10_text 303 = .ok (.aload_n 0, 1) := by decide +kernel
theorem dX10_text_304 : decode cX10_text 304 = .ok (.getfield 16, 3) := by decide +kernel
theorem dX10_text_307 : decode cX10_text 307 = .ok (.invokevirtual 58, 3) := by decide +kernel
theorem dX10_text_310 : decode cX10_text 310 = .ok (.invokevirtual 45, 3) := by decide +kernel
theorem dX10_text_313 : decode cX10_text 313 = .ok (.invokevirtual 52, 3) := by decide +kernel
theorem dX10_text_316 : decode cX10_text 316 = .ok (.areturn, 1) := by decide +kernel
theorem dX10_text_317 : decode cX10_text 317 = .ok (.new 40, 3) := by decide +kernel
theorem dX10_text_320 : decode cX10_text 320 = .ok (.dup, 1) := by decide +kernel
theorem dX10_text_321 : decode cX10_text 321 = .ok (.invokespecial 42, 3) := by decide +kernel
theorem dX10_text_324 : decode cX10_text 324 = .ok (.ldc 77, 2) := by decide +kernel
theorem dX10_text_326 : decode cX10_text 326 = .ok (.invokevirtual 45, 3) := by decide +kernel
theorem dX10_text_329 : decode cX10_text 329 = .ok (.aload_n 0, 1) := by decide +kernel
theorem dX10_text_330 : decode cX10_text 330 = .ok (.getfield 16, 3) := by decide +kernel
theorem dX10_text_333 : decode cX10_text 333 = .ok (.invokevirtual 58, 3) := by decide +kernel
theorem dX10_text_336 : decode cX10_text 336 = .ok (.invokevirtual 45, 3) := by decide +kernel
theorem dX10_text_339 : decode cX10_text 339 = .ok (.ldc 79, 2) := by decide +kernel
theorem dX10_text_341 : decode cX10_text 341 = .ok (.invokevirtual 45, 3) := by decide +kernel
theorem dX10_text_344 : decode cX10_text 344 = .ok (.aload_n 0, 1) := by decide +kernel
theorem dX10_text_345 : decode cX10_text 345 = .ok (.getfield 20, 3) := by decide +kernel
theorem dX10_text_348 : decode cX10_text 348 = .ok (.invokevirtual 58, 3) := by decide +kernel
theorem dX10_text_351 : decode cX10_text 351 = .ok (.invokevirtual 45, 3) := by decide +kernel
theorem dX10_text_354 : decode cX10_text 354 = .ok (.ldc 81, 2) := by decide +kernel
theorem dX10_text_356 : decode cX10_text 356 = .ok (.invokevirtual 45, 3) := by decide +kernel
theorem dX10_text_359 : decode cX10_text 359 = .ok (.invokevirtual 52, 3) := by decide +kernel
theorem dX10_text_362 : decode cX10_text 362 = .ok (.areturn, 1) := by decide +kernel
theorem dX10_text_363 : decode cX10_text 363 = .ok (.new 40, 3) := by decide +kernel
theorem dX10_text_366 : decode cX10_text 366 = .ok (.dup, 1) := by decide +kernel
theorem dX10_text_367 : decode cX10_text 367 = .ok (.invokespecial 42, 3) := by decide +kernel
theorem dX10_text_370 : decode cX10_text 370 = .ok (.ldc 77, 2) := by decide +kernel
theorem dX10_text_372 : decode cX10_text 372 = .ok (.invokevirtual 45, 3) := by decide +kernel
theorem dX10_text_375 : decode cX10_text 375 = .ok (.aload_n 0, 1) := by decide +kernel
theorem dX10_text_376 : decode cX10_text 376 = .ok (.getfield 16, 3) := by decide +kernel
theorem dX10_text_379 : decode cX10_text 379 = .ok (.invokevirtual 58, 3) := by decide +kernel
theorem dX10_text_382 : decode cX10_text 382 = .ok (.invokevirtual 45, 3) := by decide +kernel
theorem dX10_text_385 : decode cX10_text 385 = .ok (.ldc 83, 2) := by decide +kernel
theorem dX10_text_387 : decode cX10_text 387 = .ok (.invokevirtual 45, 3) := by decide +kernel
theorem dX10_text_390 : decode cX10_text 390 = .ok (.aload_n 0, 1) := by decide +kernel
theorem dX10_text_391 : decode cX10_text 391 = .ok (.getfield 20, 3) := by decide +kernel
theorem dX10_text_394 : decode cX10_text 394 = .ok (.invokevirtual 58, 3) := by decide +kernel
theorem dX10_text_397 : decode cX10_text 397 = .ok (.invokevirtual 45, 3) := by decide +kernel
theorem dX10_text_400 : decode cX10_text 400 = .ok (.ldc 81, 2) := by decide +kernel
theorem dX10_text_402 : decode cX10_text 402 = .ok (.invokevirtual 45, 3) := by decide +kernel
theorem dX10_text_405 : decode cX10_text 405 = .ok (.invokevirtual 52, 3) := by decide +kernel
theorem dX10_text_408 : decode cX10_text 408 = .ok (.areturn, 1) := by decide +kernel
theorem dX10_text_409 : decode cX10_text 409 = .ok (.aload_n 0, 1) := by decide +kernel
theorem dX10_text_410 : decode cX10_text 410 = .ok (.getfield 7, 3) := by decide +kernel
theorem dX10_text_413 : decode cX10_text 413 = .ok (.iconst 4, 1) := by decide +kernel
theorem dX10_text_414 : decode cX10_text 414 = .ok (.if_icmp .ge 16, 3) := by decide +kernel
theorem dX10_text_417 : decode cX10_text 417 = .ok (.getstatic 85, 3) := by decide +kernel
theorem dX10_text_420 : decode cX10_text 420 = .ok (.aload_n 0, 1) := by decide +kernel
theorem dX10_text_421 : decode cX10_text 421 = .ok (.getfield 7, 3) := by decide +kernel
theorem dX10_text_424 : decode cX10_text 424 = .ok (.iconst 1, 1) := by decide +kernel
theorem dX10_text_425 : decode cX10_text 425 = .ok (.isub, 1) := by decide +kernel
theorem dX10_text_426 : decode cX10_text 426 = .ok (.aaload, 1) := by decide +kernel
theorem dX10_text_427 : decode cX10_text 427 = .ok (.goto 160, 3) := by decide +kernel
theorem dX10_text_430 : decode cX10_text 430 = .ok (.aload_n 0, 1) := by decide +kernel
theorem dX10_text_431 : decode cX10_text 431 = .ok (.getfield 7, 3) := by decide +kernel
theorem dX10_text_434 : decode cX10_text 434 = .ok (.bipush 9, 2) := by decide +kernel
theorem dX10_text_436 : decode cX10_text 436 = .ok (.if_icmp .ge 41, 3) := by decide +kernel
theorem dX10_text_439 : decode cX10_text 439 = .ok (.new 40, 3) := by decide +kernel
theorem dX10_text_442 : decode cX10_text 442 = .ok (.dup, 1) := by decide +kernel
theorem dX10_text_443 : decode cX10_text 443 = .ok (.invokespecial 42, 3) := by decide +kernel
theorem dX10_text_446 : decode cX10_text 446 = .ok (.getstatic 85, 3) := by decide +kernel
theorem dX10_text_449 : decode cX10_text 449 = .ok (.aload_n 0, 1) := by decide +kernel
theorem dX10_text_450 : decode cX10_text 450 = .ok (.getfield 7, 3) := by decide +kernel
theorem dX10_text_453 : decode cX10_text 453 = .ok (.iconst 1, 1) := by decide +kernel
theorem dX10_text_454 : decode cX10_text 454 = .ok (.isub, 1) := by decide +kernel
theorem dX10_text_455 : decode cX10_text 455 = .ok (.aaload, 1) := by decide +kernel
theorem dX10_text_456 : decode cX10_text 456 = .ok (.invokevirtual 45, 3) := by decide +kernel
theorem dX10_text_459 : decode cX10_text 459 = .ok (.ldc 91, 2) := by decide +kernel
theorem dX10_text_461 : decode cX10_text 461 = .ok (.invokevirtual 45, 3) := by decide +kernel
theorem dX10_text_464 : decode cX10_text 464 = .ok (.aload_n 0, 1) := by decide +kernel
theorem dX10_text_465 : decode cX10_text 465 = .ok (.getfield 13, 3) := by decide +kernel
theorem dX10_text_468 : decode cX10_text 468 = .ok (.invokevirtual 49, 3) := by decide +kernel
theorem dX10_text_471 : decode cX10_text 471 = .ok (.invokevirtual 52, 3) := by decide +kernel
theorem dX10_text_474 : decode cX10_text 474 = .ok (.goto 113, 3) := by decide +kernel
theorem dX10_text_477 : decode cX10_text 477 = .ok (.aload_n 0, 1) := by decide +kernel
theorem dX10_text_478 : decode cX10_text 478 = .ok (.getfield 7, 3) := by decide +kernel
theorem dX10_text_481 : decode cX10_text 481 = .ok (.bipush 16, 2) := by decide +kernel
theorem dX10_text_483 : decode cX10_text 483 = .ok (.if_icmp .ge 60, 3) := by decide +kernel
theorem dX10_text_486 : decode cX10_text 486 = .ok (.new 40, 3) := by decide +kernel
theorem dX10_text_489 : decode cX10_text 489 = .ok (.dup, 1) := by decide +kernel
theorem dX10_text_490 : decode cX10_text 490 = .ok (.invokespecial 42, 3) := by decide +kernel
theorem dX10_text_493 : decode cX10_text 493 = .ok (.ldc 93, 2) := by decide +kernel
theorem dX10_text_495 : decode cX10_text 495 = .ok (.invokevirtual 45, 3) := by decide +kernel
theorem dX10_text_498 : decode cX10_text 498 = .ok (.aload_n 0, 1) := by decide +kernel
theorem dX10_text_499 : decode cX10_text 499 = .ok (.getfield 16, 3) := by decide +kernel
theorem dX10_text_502 : decode cX10_text 502 = .ok (.invokevirtual 58, 3) := by decide +kernel
theorem dX10_text_505 : decode cX10_text 505 = .ok (.invokevirtual 45, 3) := by decide +kernel
theorem dX10_text_508 : decode cX10_text 508 = .ok (.getstatic 95, 3) := by decide +kernel
theorem dX10_text_511 : decode cX10_text 511 = .ok (.aload_n 0, 1) := by decide +kernel
theorem dX10_text_512 : decode cX10_text 512 = .ok (.getfield 7, 3) := by decide +kernel
theorem dX10_text_515 : decode cX10_text 515 = .ok (.bipush 12, 2) := by decide +kernel
theorem dX10_text_517 : decode cX10_text 517 = .ok (.isub, 1) := by decide +kernel
theorem dX10_text_518 : decode cX10_text 518 = .ok (.aaload, 1) := by decide +kernel
theorem dX10_text_519 : decode cX10_text 519 = .ok (.invokevirtual 45, 3) := by decide +kernel
theorem dX10_text_522 : decode cX10_text 522 = .ok (.aload_n 0, 1) := by decide +kernel
theorem dX10_text_523 : decode cX10_text 523 = .ok (.getfield 20, 3) := by decide +kernel
theorem dX10_text_526 : decode cX10_text 526 = .ok (.invokevirtual 58, 3) := by decide +kernel
theorem dX10_text_529 : decode cX10_text 529 = .ok (.invokevirtual 45, 3) := by decide +kernel
theorem dX10_text_532 : decode cX10_text 532 = .ok (.ldc 65, 2) := by decide +kernel
theorem dX10_text_534 : decode cX10_text 534 = .ok (.invokevirtual 45, 3) := by decide +kernel
theorem dX10_text_537 : decode cX10_text 537 = .ok (.invokevirtual 52, 3) := by decide +kernel
theorem dX10_text_540 : decode cX10_text 540 = .ok (.goto 47, 3) := by decide +kernel
theorem dX10_text_543 : decode cX10_text 543 = .ok (.new 40, 3) := by decide +kernel
theorem dX10_text_546 : decode cX10_text 546 = .ok (.dup, 1) := by decide +kernel
theorem dX10_text_547 : decode cX10_text 547 = .ok (.invokespecial 42, 3) := by decide +kernel
theorem dX10_text_550 : decode cX10_text 550 = .ok (.aload_n 0, 1) := by decide +kernel
theorem dX10_text_551 : decode cX10_text 551 = .ok (.getfield 16, 3) := by decide +kernel
theorem dX10_text_554 : decode cX10_text 554 = .ok (.invokevirtual 58, 3) := by decide +kernel
theorem dX10_text_557 : decode cX10_text 557 = .ok (.invokevirtual 45, 3) := by decide +kernel
theorem dX10_text_560 : decode cX10_text 560 = .ok (.getstatic 95, 3) := by decide +kernel
theorem dX10_text_563 : decode cX10_text 563 = .ok (.aload_n 0, 1) := by decide +kernel
theorem dX10_text_564 : decode cX10_text 564 = .ok (.getfield 7, 3) := by decide +kernel
theorem dX10_text_567 : decode cX10_text 567 = .ok (.bipush 12, 2) := by decide +kernel
theorem dX10_text_569 : decode cX10_text 569 = .ok (.isub, 1) := by decide +kernel
theorem dX10_text_570 : decode cX10_text 570 = .ok (.aaload, 1) := by decide +kernel
theorem dX10_text_571 : decode cX10_text 571 = .ok (.invokevirtual 45, 3) := by decide +kernel
theorem dX10_text_574 : decode cX10_text 574 = .ok (.aload_n 0, 1) := by decide +kernel
theorem dX10_text_575 : decode cX10_text 575 = .ok (.getfield 20, 3) := by decide +kernel
theorem dX10_text_578 : decode cX10_text 578 = .ok (.invokevirtual 58, 3) := by decide +kernel
theorem dX10_text_581 : decode cX10_text 581 = .ok (.invokevirtual 45, 3) := by decide +kernel
theorem dX10_text_584 : decode cX10_text 584 = .ok (.invokevirtual 52, 3) := by decide +kernel
theorem dX10_text_587 : decode cX10_text 587 = .ok (.areturn, 1) := by decide +kernel
theorem dX10_value_0 : decode cX10_value 0 = .ok (.aload_n 0, 1) := by decide +kernel
theorem dX10_value_1 : decode cX10_value 1 = .ok (.getfield 7, 3) := by decide +kernel
theorem dX10_value_4 : decode cX10_value 4 = .ok (.tableswitch 264 0 23 #[112, 117, 122, 127, 133, 145, 157, 169, 197, 212, 264, 264, 264, 264, 264, 264, 264, 264, 264, 264, 264, 223, 236, 253], 112) := by decide +kernel
theorem dX10_value_116 : decode cX10_value 116 = .ok (.aload_n 0, 1) := by decide +kernel
theorem dX10_value_117 : decode cX10_value 117 = .ok (.getfield 13, 3) := by decide +kernel
theorem dX10_value_120 : decode cX10_value 120 = .ok (.ireturn, 1) := by decide +kernel
theorem dX10_value_121 : decode cX10_value 121 = .ok (.aload_n 1, 1) := by decide +kernel
theorem dX10_value_122 : decode cX10_value 122 = .ok (.getfield 98, 3) := by decide +kernel
theorem dX10_value_125 : decode cX10_value 125 = .ok (.ireturn, 1) := by decide +kernel
theorem dX10_value_126 : decode cX10_value 126 = .ok (.aload_n 1, 1) := by decide +kernel
theorem dX10_value_127 : decode cX10_value 127 = .ok (.invokevirtual 103, 3) := by decide +kernel
theorem dX10_value_130 : decode cX10_value 130 = .ok (.ireturn, 1) := by decide +kernel
theorem dX10_value_131 : decode cX10_value 131 = .ok (.aload_n 1, 1) := by decide +kernel
theorem dX10_value_132 : decode cX10_value 132 = .ok (.getfield 107, 3) := by decide +kernel
theorem dX10_value_135 : decode cX10_value 135 = .ok (.arraylength, 1) := by decide +kernel
theorem dX10_value_136 : decode cX10_value 136 = .ok (.ireturn, 1) := by decide +kernel
theorem dX10_value_137 : decode cX10_value 137 = .ok (.aload_n 1, 1) := by decide +kernel
theorem dX10_value_138 : decode cX10_value 138 = .ok (.getfield 111, 3) := by decide +kernel
theorem dX10_value_141 : decode cX10_value 141 = .ok (.aload_n 0, 1) := by decide +kernel
theorem dX10_value_142 : decode cX10_value 142 = .ok (.getfield 13, 3) := by decide +kernel
theorem dX10_value_145 : decode cX10_value 145 = .ok (.aaload, 1) := by decide +kernel
theorem dX10_value_146 : decode cX10_value 146 = .ok (.iconst 2, 1) := by decide +kernel
theorem dX10_value_147 : decode cX10_value 147 = .ok (.iaload, 1) := by decide +kernel
theorem dX10_value_148 : decode cX10_value 148 = .ok (.ireturn, 1) := by decide +kernel
theorem dX10_value_149 : decode cX10_value 149 = .ok (.aload_n 1, 1) := by decide +kernel
theorem dX10_value_150 : decode cX10_value 150 = .ok (.getfield 111, 3) := by decide +kernel
theorem dX10_value_153 : decode cX10_value 153 = .ok (.aload_n 0, 1) := by decide +kernel
theorem dX10_value_154 : decode cX10_value 154 = .ok (.getfield 13, 3) := by decide +kernel
theorem dX10_value_157 : decode cX10_value 157 = .ok (.aaload, 1) := by decide +kernel
theorem dX10_value_158 : decode cX10_value 158 = .ok (.iconst 0, 1) := by decide +kernel
theorem dX10_value_159 : decode cX10_value 159 = .ok (.iaload, 1) := by decide +kernel
theorem dX10_value_160 : decode cX10_value 160 = .ok (.ireturn, 1) := by decide +kernel
theorem dX10_value_161 : decode cX10_value 161 = .ok (.aload_n 1, 1) := by decide +kernel
theorem dX10_value_162 : decode cX10_value 162 = .ok (.getfield 111, 3) := by decide +kernel
theorem dX10_value_165 : decode cX10_value 165 = .ok (.aload_n 0, 1) := by decide +kernel
theorem dX10_value_166 : decode cX10_value 166 = .ok (.getfield 13, 3) := by decide +kernel
theorem dX10_value_169 : decode cX10_value 169 = .ok (.aaload, 1) := by decide +kernel
theorem dX10_value_170 : decode cX10_value 170 = .ok (.iconst 1, 1) := by decide +kernel
theorem dX10_value_171 : decode cX10_value 171 = .ok (.iaload, 1) := by decide +kernel
theorem dX10_value_172 : decode cX10_value 172 = .ok (.ireturn, 1) := by decide +kernel
theorem dX10_value_173 : decode cX10_value 173 = .ok (.aload_n 1, 1) := by decide +kernel
theorem dX10_value_174 : decode cX10_value 174 = .ok (.aload_n 1, 1) := by decide +kernel
theorem dX10_value_175 : decode cX10_value 175 = .ok (.aload_n 0, 1) := by decide +kernel
theorem dX10_value_176 : decode cX10_value 176 = .ok (.getfield 13, 3) := by decide +kernel
theorem dX10_value_179 : decode cX10_value 179 = .ok (.invokevirtual 114, 3) := by decide +kernel
theorem dX10_value_182 : decode cX10_value 182 = .ok (.invokevirtual 117, 3) := by decide +kernel
theorem dX10_value_185 : decode cX10_value 185 = .ok (.aload_n 1, 1) := by decide +kernel
theorem dX10_value_186 : decode cX10_value 186 = .ok (.aload_n 1, 1) := by decide +kernel
theorem dX10_value_187 : decode cX10_value 187 = .ok (.aload_n 0, 1) := by decide +kernel
theorem dX10_value_188 : decode cX10_value 188 = .ok (.getfield 13, 3) := by decide +kernel
theorem dX10_value_191 : decode cX10_value 191 = .ok (.invokevirtual 114, 3) := by decide +kernel
theorem dX10_value_194 : decode cX10_value 194 = .ok (.iconst 1, 1) := by decide +kernel
theorem dX10_value_195 : decode cX10_value 195 = .ok (.iadd, 1) := by decide +kernel
theorem dX10_value_196 : decode cX10_value 196 = .ok (.invokevirtual 117, 3) := by decide +kernel
theorem dX10_value_199 : decode cX10_value 199 = .ok (.isub, 1) := by decide +kernel
theorem dX10_value_200 : decode cX10_value 200 = .ok (.ireturn, 1) := by decide +kernel
theorem dX10_value_201 : decode cX10_value 201 = .ok (.aload_n 1, 1) := by decide +kernel
theorem dX10_value_202 : decode cX10_value 202 = .ok (.aload_n 1, 1) := by decide +kernel
theorem dX10_value_203 : decode cX10_value 203 = .ok (.aload_n 0, 1) := by decide +kernel
theorem dX10_value_204 : decode cX10_value 204 = .ok (.getfield 13, 3) := by decide +kernel
theorem dX10_value_207 : decode cX10_value 207 = .ok (.invokevirtual 114, 3) := by decide +kernel
theorem dX10_value_210 : decode cX10_value 210 = .ok (.iconst 1, 1) := by decide +kernel
theorem dX10_value_211 : decode cX10_value 211 = .ok (.iadd, 1) := by decide +kernel
theorem dX10_value_212 : decode cX10_value 212 = .ok (.invokevirtual 120, 3) := by decide +kernel
theorem dX10_value_215 : decode cX10_value 215 = .ok (.ireturn, 1) := by decide +kernel
theorem dX10_value_216 : decode cX10_value 216 = .ok (.iconst 0, 1) := by decide +kernel
theorem dX10_value_217 : decode cX10_value 217 = .ok (.aload_n 0, 1) := by decide +kernel
theorem dX10_value_218 : decode cX10_value 218 = .ok (.getfield 16, 3) := by decide +kernel
theorem dX10_value_221 : decode cX10_value 221 = .ok (.aload_n 1, 1) := by decide +kernel
theorem dX10_value_222 : decode cX10_value 222 = .ok (.invokevirtual 123, 3) := by decide +kernel
theorem dX10_value_225 : decode cX10_value 225 = .ok (.isub, 1) := by decide +kernel
theorem dX10_value_226 : decode cX10_value 226 = .ok (.ireturn, 1) := by decide +kernel
theorem dX10_value_227 : decode cX10_value 227 = .ok (.aload_n 1, 1) := by decide +kernel
theorem dX10_value_228 : decode cX10_value 228 = .ok (.invokevirtual 127, 3) := by decide +kernel
theorem dX10_value_231 : decode cX10_value 231 = .ok (.ifCond .eq 7, 3) := by decide +kernel
theorem dX10_value_234 : decode cX10_value 234 = .ok (.iconst 1, 1) := by decide +kernel
theorem dX10_value_235 : decode cX10_value 235 = .ok (.goto 4, 3) := by decide +kernel
theorem dX10_value_238 : decode cX10_value 238 = .ok (.iconst 0, 1) := by decide +kernel
theorem dX10_value_239 : decode cX10_value 239 = .ok (.ireturn, 1) := by decide +kernel
theorem dX10_value_240 : decode cX10_value 240 = .ok (.aload_n 1, 1) := by decide +kernel
theorem dX10_value_241 : decode cX10_value 241 = .ok (.aload_n 0, 1) := by decide +kernel
theorem dX10_value_242 : decode cX10_value 242 = .ok (.getfield 13, 3) := by decide +kernel
theorem dX10_value_245 : decode cX10_value 245 = .ok (.invokevirtual 131, 3) := by decide +kernel
theorem dX10_value_248 : decode cX10_value 248 = .ok (.ifCond .eq 7, 3) := by decide +kernel
theorem dX10_value_251 : decode cX10_value 251 = .ok (.iconst 1, 1) := by decide +kernel
theorem dX10_value_252 : decode cX10_value 252 = .ok (.goto 4, 3) := by decide +kernel
theorem dX10_value_255 : decode cX10_value 255 = .ok (.iconst 0, 1) := by decide +kernel
theorem dX10_value_256 : decode cX10_value 256 = .ok (.ireturn, 1) := by decide +kernel
theorem dX10_value_257 : decode cX10_value 257 = .ok (.iconst 1, 1) := by decide +kernel
theorem dX10_value_258 : decode cX10_value 258 = .ok (.aload_n 0, 1) := by decide +kernel
theorem dX10_value_259 : decode cX10_value 259 = .ok (.getfield 16, 3) := by decide +kernel
theorem dX10_value_262 : decode cX10_value 262 = .ok (.aload_n 1, 1) := by decide +kernel
theorem dX10_value_263 : decode cX10_value 263 = .ok (.invokevirtual 123, 3) := by decide +kernel
theorem dX10_value_266 : decode cX10_value 266 = .ok (.isub, 1) := by decide +kernel
theorem dX10_value_267 : decode cX10_value 267 = .ok (.ireturn, 1) := by decide +kernel
theorem dX10_value_268 : decode cX10_value 268 = .ok (.aload_n 0, 1) := by decide +kernel
theorem dX10_value_269 : decode cX10_value 269 = .ok (.getfield 7, 3) := by decide +kernel
theorem dX10_value_272 : decode cX10_value 272 = .ok (.aload_n 0, 1) := by decide +kernel
theorem dX10_value_273 : decode cX10_value 273 = .ok (.getfield 16, 3) := by decide +kernel
theorem dX10_value_276 : decode cX10_value 276 = .ok (.aload_n 1, 1) := by decide +kernel
theorem dX10_value_277 : decode cX10_value 277 = .ok (.invokevirtual 123, 3) := by decide +kernel
theorem dX10_value_280 : decode cX10_value 280 = .ok (.aload_n 0, 1) := by decide +kernel
theorem dX10_value_281 : decode cX10_value 281 = .ok (.getfield 20, 3) := by decide +kernel
theorem dX10_value_284 : decode cX10_value 284 = .ok (.aload_n 1, 1) := by decide +kernel
theorem dX10_value_285 : decode cX10_value 285 = .ok (.invokevirtual 123, 3) := by decide +kernel
theorem dX10_value_288 : decode cX10_value 288 = .ok (.invokestatic 135, 3) := by decide +kernel
theorem dX10_value_291 : decode cX10_value 291 = .ok (.ireturn, 1) := by decide +kernel
theorem dX10_both_0 : decode cX10_both 0 = .ok (.iload_n 0, 1) := by decide +kernel
theorem dX10_both_1 : decode cX10_both 1 = .ok (.tableswitch 141 10 25 #[79, 90, 101, 105, 109, 113, 141, 141, 141, 141, 141, 141, 141, 141, 125, 129], 79) := by decide +kernel
theorem dX10_both_80 : decode cX10_both 80 = .ok (.iload_n 1, 1) := by decide +kernel
theorem dX10_both_81 : decode cX10_both 81 = .ok (.iload_n 2, 1) := by decide +kernel
theorem dX10_both_82 : decode cX10_both 82 = .ok (.if_icmp .ge 7, 3) := by decide +kernel
theorem dX10_both_85 : decode cX10_both 85 = .ok (.iload_n 1, 1) := by decide +kernel
theorem dX10_both_86 : decode cX10_both 86 = .ok (.goto 4, 3) := by decide +kernel
theorem dX10_both_89 : decode cX10_both 89 = .ok (.iload_n 2, 1) := by decide +kernel
theorem dX10_both_90 : decode cX10_both 90 = .ok (.ireturn, 1) := by decide +kernel
theorem dX10_both_91 : decode cX10_both 91 = .ok (.iload_n 1, 1) := by decide +kernel
theorem dX10_both_92 : decode cX10_both 92 = .ok (.iload_n 2, 1) := by decide +kernel
theorem dX10_both_93 : decode cX10_both 93 = .ok (.if_icmp .ge 7, 3) := by decide +kernel
theorem dX10_both_96 : decode cX10_both 96 = .ok (.iload_n 2, 1) := by decide +kernel
theorem dX10_both_97 : decode cX10_both 97 = .ok (.goto 4, 3) := by decide +kernel
theorem dX10_both_100 : decode cX10_both 100 = .ok (.iload_n 1, 1) := by decide +kernel
theorem dX10_both_101 : decode cX10_both 101 = .ok (.ireturn, 1) := by decide +kernel
theorem dX10_both_102 : decode cX10_both 102 = .ok (.iload_n 1, 1) := by decide +kernel
theorem dX10_both_103 : decode cX10_both 103 = .ok (.iload_n 2, 1) := by decide +kernel
theorem dX10_both_104 : decode cX10_both 104 = .ok (.iadd, 1) := by decide +kernel
theorem dX10_both_105 : decode cX10_both 105 = .ok (.ireturn, 1) := by decide +kernel
theorem dX10_both_106 : decode cX10_both 106 = .ok (.iload_n 1, 1) := by decide +kernel
theorem dX10_both_107 : decode cX10_both 107 = .ok (.iload_n 2, 1) := by decide +kernel
theorem dX10_both_108 : decode cX10_both 108 = .ok (.isub, 1) := by decide +kernel
theorem dX10_both_109 : decode cX10_both 109 = .ok (.ireturn, 1) := by decide +kernel
theorem dX10_both_110 : decode cX10_both 110 = .ok (.iload_n 1, 1) := by decide +kernel
theorem dX10_both_111 : decode cX10_both 111 = .ok (.iload_n 2, 1) := by decide +kernel
theorem dX10_both_112 : decode cX10_both 112 = .ok (.imul, 1) := by decide +kernel
theorem dX10_both_113 : decode cX10_both 113 = .ok (.ireturn, 1) := by decide +kernel
theorem dX10_both_114 : decode cX10_both 114 = .ok (.iload_n 2, 1) := by decide +kernel
theorem dX10_both_115 : decode cX10_both 115 = .ok (.ifCond .ne 7, 3) := by decide +kernel
theorem dX10_both_118 : decode cX10_both 118 = .ok (.iconst 0, 1) := by decide +kernel
theorem dX10_both_119 : decode cX10_both 119 = .ok (.goto 6, 3) := by decide +kernel
theorem dX10_both_122 : decode cX10_both 122 = .ok (.iload_n 1, 1) := by decide +kernel
theorem dX10_both_123 : decode cX10_both 123 = .ok (.iload_n 2, 1) := by decide +kernel
theorem dX10_both_124 : decode cX10_both 124 = .ok (.idiv, 1) := by decide +kernel
theorem dX10_both_125 : decode cX10_both 125 = .ok (.ireturn, 1) := by decide +kernel
theorem dX10_both_126 : decode cX10_both 126 = .ok (.iload_n 1, 1) := by decide +kernel
theorem dX10_both_127 : decode cX10_both 127 = .ok (.iload_n 2, 1) := by decide +kernel
theorem dX10_both_128 : decode cX10_both 128 = .ok (.imul, 1) := by decide +kernel
theorem dX10_both_129 : decode cX10_both 129 = .ok (.ireturn, 1) := by decide +kernel
theorem dX10_both_130 : decode cX10_both 130 = .ok (.iload_n 1, 1) := by decide +kernel
theorem dX10_both_131 : decode cX10_both 131 = .ok (.iload_n 2, 1) := by decide +kernel
theorem dX10_both_132 : decode cX10_both 132 = .ok (.iadd, 1) := by decide +kernel
theorem dX10_both_133 : decode cX10_both 133 = .ok (.ifCond .le 7, 3) := by decide +kernel
theorem dX10_both_136 : decode cX10_both 136 = .ok (.iconst 1, 1) := by decide +kernel
theorem dX10_both_137 : decode cX10_both 137 = .ok (.goto 4, 3) := by decide +kernel
theorem dX10_both_140 : decode cX10_both 140 = .ok (.iconst 0, 1) := by decide +kernel
theorem dX10_both_141 : decode cX10_both 141 = .ok (.ireturn, 1) := by decide +kernel
theorem dX10_both_142 : decode cX10_both 142 = .ok (.iload_n 0, 1) := by decide +kernel
theorem dX10_both_143 : decode cX10_both 143 = .ok (.bipush 16, 2) := by decide +kernel
theorem dX10_both_145 : decode cX10_both 145 = .ok (.if_icmp .ne 11, 3) := by decide +kernel
theorem dX10_both_148 : decode cX10_both 148 = .ok (.iload_n 1, 1) := by decide +kernel
theorem dX10_both_149 : decode cX10_both 149 = .ok (.iload_n 2, 1) := by decide +kernel
theorem dX10_both_150 : decode cX10_both 150 = .ok (.if_icmp .ge 57, 3) := by decide +kernel
theorem dX10_both_153 : decode cX10_both 153 = .ok (.goto 50, 3) := by decide +kernel
theorem dX10_both_156 : decode cX10_both 156 = .ok (.iload_n 0, 1) := by decide +kernel
theorem dX10_both_157 : decode cX10_both 157 = .ok (.bipush 17, 2) := by decide +kernel
theorem dX10_both_159 : decode cX10_both 159 = .ok (.if_icmp .ne 11, 3) := by decide +kernel
theorem dX10_both_162 : decode cX10_both 162 = .ok (.iload_n 1, 1) := by decide +kernel
theorem dX10_both_163 : decode cX10_both 163 = .ok (.iload_n 2, 1) := by decide +kernel
theorem dX10_both_164 : decode cX10_both 164 = .ok (.if_icmp .le 43, 3) := by decide +kernel
theorem dX10_both_167 : decode cX10_both 167 = .ok (.goto 36, 3) := by decide +kernel
theorem dX10_both_170 : decode cX10_both 170 = .ok (.iload_n 0, 1) := by decide +kernel
theorem dX10_both_171 : decode cX10_both 171 = .ok (.bipush 18, 2) := by decide +kernel
theorem dX10_both_173 : decode cX10_both 173 = .ok (.if_icmp .ne 11, 3) := by decide +kernel
theorem dX10_both_176 : decode cX10_both 176 = .ok (.iload_n 1, 1) := by decide +kernel
theorem dX10_both_177 : decode cX10_both 177 = .ok (.iload_n 2, 1) := by decide +kernel
theorem dX10_both_178 : decode cX10_both 178 = .ok (.if_icmp .ne 29, 3) := by decide +kernel
theorem dX10_both_181 : decode cX10_both 181 = .ok (.goto 22, 3) := by decide +kernel
theorem dX10_both_184 : decode cX10_both 184 = .ok (.iload_n 0, 1) := by decide +kernel
theorem dX10_both_185 : decode cX10_both 185 = .ok (.bipush 19, 2) := by decide +kernel
theorem dX10_both_187 : decode cX10_both 187 = .ok (.if_icmp .ne 11, 3) := by decide +kernel
theorem dX10_both_190 : decode cX10_both 190 = .ok (.iload_n 1, 1) := by decide +kernel
theorem dX10_both_191 : decode cX10_both 191 = .ok (.iload_n 2, 1) := by decide +kernel
theorem dX10_both_192 : decode cX10_both 192 = .ok (.if_icmp .gt 15, 3) := by decide +kernel
theorem dX10_both_195 : decode cX10_both 195 = .ok (.goto 8, 3) := by decide +kernel
theorem dX10_both_198 : decode cX10_both 198 = .ok (.iload_n 1, 1) := by decide +kernel
theorem dX10_both_199 : decode cX10_both 199 = .ok (.iload_n 2, 1) := by decide +kernel
theorem dX10_both_200 : decode cX10_both 200 = .ok (.if_icmp .lt 7, 3) := by decide +kernel
theorem dX10_both_203 : decode cX10_both 203 = .ok (.iconst 1, 1) := by decide +kernel
theorem dX10_both_204 : decode cX10_both 204 = .ok (.goto 4, 3) := by decide +kernel
theorem dX10_both_207 : decode cX10_both 207 = .ok (.iconst 0, 1) := by decide +kernel
theorem dX10_both_208 : decode cX10_both 208 = .ok (.ireturn, 1) := by decide +kernel
theorem dX11_init_0 : decode cX11_init 0 = .ok (.aload_n 0, 1) := by decide +kernel
theorem dX11_init_1 : decode cX11_init 1 = .ok (.invokespecial 1, 3) := by decide +kernel
theorem dX11_init_4 : decode cX11_init 4 = .ok (.aload_n 0, 1) := by decide +kernel
theorem dX11_init_5 : decode cX11_init 5 = .ok (.aload_n 1, 1) := by decide +kernel
theorem dX11_init_6 : decode cX11_init 6 = .ok (.iconst 5, 1) := by decide +kernel
theorem dX11_init_7 : decode cX11_init 7 = .ok (.invokevirtual 7, 3) := by decide +kernel
theorem dX11_init_10 : decode cX11_init 10 = .ok (.putfield 13, 3) := by decide +kernel
theorem dX11_init_13 : decode cX11_init 13 = .ok (.aload_n 0, 1) := by decide +kernel
theorem dX11_init_14 : decode cX11_init 14 = .ok (.aload_n 1, 1) := by decide +kernel
theorem dX11_init_15 : decode cX11_init 15 = .ok (.iload_n 2, 1) := by decide +kernel
theorem dX11_init_16 : decode cX11_init 16 = .ok (.invokevirtual 7, 3) := by decide +kernel
theorem dX11_init_19 : decode cX11_init 19 = .ok (.putfield 19, 3) := by decide +kernel
theorem dX11_init_22 : decode cX11_init 22 = .ok (.aload_n 0, 1) := by decide +kernel
theorem dX11_init_23 : decode cX11_init 23 = .ok (.aload_n 0, 1) := by decide +kernel
theorem dX11_init_24 : decode cX11_init 24 = .ok (.getfield 13, 3) := by decide +kernel
theorem dX11_init_27 : decode cX11_init 27 = .ok (.iconst 3, 1) := by decide +kernel
theorem dX11_init_28 : decode cX11_init 28 = .ok (.if_icmp .ge 7, 3) := by decide +kernel
theorem dX11_init_31 : decode cX11_init 31 = .ok (.aconst_null, 1) := by decide +kernel
theorem dX11_init_32 : decode cX11_init 32 = .ok (.goto 35, 3) := by decide +kernel
theorem dX11_init_35 : decode cX11_init 35 = .ok (.aload_n 1, 1) := by decide +kernel
theorem dX11_init_36 : decode cX11_init 36 = .ok (.iconst 2, 1) := by decide +kernel
theorem dX11_init_37 : decode cX11_init 37 = .ok (.invokevirtual 7, 3) := by decide +kernel
theorem dX11_init_40 : decode cX11_init 40 = .ok (.ifCond .ne 21, 3) := by decide +kernel
theorem dX11_init_43 : decode cX11_init 43 = .ok (.new 22, 3) := by decide +kernel
theorem dX11_init_46 : decode cX11_init 46 = .ok (.dup, 1) := by decide +kernel
theorem dX11_init_47 : decode cX11_init 47 = .ok (.iconst 0, 1) := by decide +kernel
theorem dX11_init_48 : decode cX11_init 48 = .ok (.aload_n 1, 1) := by decide +kernel
theorem dX11_init_49 : decode cX11_init 49 = .ok (.iconst 4, 1) := by decide +kernel
theorem dX11_init_50 : decode cX11_init 50 = .ok (.invokevirtual 7, 3) := by decide +kernel
theorem dX11_init_53 : decode cX11_init 53 = .ok (.aconst_null, 1) := by decide +kernel
theorem dX11_init_54 : decode cX11_init 54 = .ok (.aconst_null, 1) := by decide +kernel
theorem dX11_init_55 : decode cX11_init 55 = .ok (.invokespecial 24, 3) := by decide +kernel
theorem dX11_init_58 : decode cX11_init 58 = .ok (.goto 9, 3) := by decide +kernel
theorem dX11_init_61 : decode cX11_init 61 = .ok (.aload_n 1, 1) := by decide +kernel
theorem dX11_init_62 : decode cX11_init 62 = .ok (.iload_n 2, 1) := by decide +kernel
theorem dX11_init_63 : decode cX11_init 63 = .ok (.iconst 2, 1) := by decide +kernel
theorem dX11_init_64 : decode cX11_init 64 = .ok (.invokestatic 27, 3) := by decide +kernel
theorem dX11_init_67 : decode cX11_init 67 = .ok (.putfield 31, 3) := by decide +kernel
theorem dX11_init_70 : decode cX11_init 70 = .ok (.aload_n 0, 1) := by decide +kernel
theorem dX11_init_71 : decode cX11_init 71 = .ok (.aload_n 1, 1) := by decide +kernel
theorem dX11_init_72 : decode cX11_init 72 = .ok (.iconst 3, 1) := by decide +kernel
theorem dX11_init_73 : decode cX11_init 73 = .ok (.invokevirtual 7, 3) := by decide +kernel
theorem dX11_init_76 : decode cX11_init 76 = .ok (.ifCond .ne 7, 3) := by decide +kernel
theorem dX11_init_79 : decode cX11_init 79 = .ok (.aconst_null, 1) := by decide +kernel
theorem dX11_init_80 : decode cX11_init 80 = .ok (.goto 9, 3) := by decide +kernel
theorem dX11_init_83 : decode cX11_init 83 = .ok (.aload_n 1, 1) := by decide +kernel
theorem dX11_init_84 : decode cX11_init 84 = .ok (.iload_n 2, 1) := by decide +kernel
theorem dX11_init_85 : decode cX11_init 85 = .ok (.iconst 1, 1) := by decide +kernel
theorem dX11_init_86 : decode cX11_init 86 = .ok (.invokestatic 34, 3) := by decide +kernel
theorem dX11_init_89 : decode cX11_init 89 = .ok (.putfield 37, 3) := by decide +kernel
theorem dX11_init_92 : decode cX11_init 92 = .ok (.return_, 1) := by decide +kernel
theorem dX11_text_0 : decode cX11_text 0 = .ok (.new 39, 3) := by decide +kernel
theorem dX11_text_3 : decode cX11_text 3 = .ok (.dup, 1) := by decide +kernel
theorem dX11_text_4 : decode cX11_text 4 = .ok (.invokespecial 41, 3) := by decide +kernel
theorem dX11_text_7 : decode cX11_text 7 = .ok (.getstatic 42, 3) := by decide +kernel
theorem dX11_text_10 : decode cX11_text 10 = .ok (.aload_n 0, 1) := by decide +kernel
theorem dX11_text_11 : decode cX11_text 11 = .ok (.getfield 13, 3) := by decide +kernel
theorem dX11_text_14 : decode cX11_text 14 = .ok (.aaload, 1) := by decide +kernel
theorem dX11_text_15 : decode cX11_text 15 = .ok (.invokevirtual 46, 3) := by decide +kernel
theorem dX11_text_18 : decode cX11_text 18 = .ok (.ldc 50, 2) := by decide +kernel
theorem dX11_text_20 : decode cX11_text 20 = .ok (.invokevirtual 46, 3) := by decide +kernel
theorem dX11_text_23 : decode cX11_text 23 = .ok (.aload_n 0, 1) := by decide +kernel
theorem dX11_text_24 : decode cX11_text 24 = .ok (.getfield 19, 3) := by decide +kernel
theorem dX11_text_27 : decode cX11_text 27 = .ok (.invokevirtual 52, 3) := by decide +kernel
theorem dX11_text_30 : decode cX11_text 30 = .ok (.aload_n 0, 1) := by decide +kernel
theorem dX11_text_31 : decode cX11_text 31 = .ok (.getfield 31, 3) := by decide +kernel
theorem dX11_text_34 : decode cX11_text 34 = .ok (.ifnonnull 8, 3) := by decide +kernel
theorem dX11_text_37 : decode cX11_text 37 = .ok (.ldc 55, 2) := by decide +kernel
theorem dX11_text_39 : decode cX11_text 39 = .ok (.goto 28, 3) := by decide +kernel
theorem dX11_text_42 : decode cX11_text 42 = .ok (.new 39, 3) := by decide +kernel
theorem dX11_text_45 : decode cX11_text 45 = .ok (.dup, 1) := by decide +kernel
theorem dX11_text_46 : decode cX11_text 46 = .ok (.invokespecial 41, 3) := by decide +kernel
theorem dX11_text_49 : decode cX11_text 49 = .ok (.ldc 57, 2) := by decide +kernel
theorem dX11_text_51 : decode cX11_text 51 = .ok (.invokevirtual 46, 3) := by decide +kernel
theorem dX11_text_54 : decode cX11_text 54 = .ok (.aload_n 0, 1) := by decide +kernel
theorem dX11_text_55 : decode cX11_text 55 = .ok (.getfield 31, 3) := by decide +kernel
theorem dX11_text_58 : decode cX11_text 58 = .ok (.invokevirtual 59, 3) := by decide +kernel
theorem dX11_text_61 : decode cX11_text 61 = .ok (.invokevirtual 46, 3) := by decide +kernel
theorem dX11_text_64 : decode cX11_text 64 = .ok (.invokevirtual 63, 3) := by decide +kernel
theorem dX11_text_67 : decode cX11_text 67 = .ok (.invokevirtual 46, 3) := by decide +kernel
theorem dX11_text_70 : decode cX11_text 70 = .ok (.aload_n 0, 1) := by decide +kernel
theorem dX11_text_71 : decode cX11_text 71 = .ok (.getfield 37, 3) := by decide +kernel
theorem dX11_text_74 : decode cX11_text 74 = .ok (.ifnonnull 8, 3) := by decide +kernel
theorem dX11_text_77 : decode cX11_text 77 = .ok (.ldc 55, 2) := by decide +kernel
theorem dX11_text_79 : decode cX11_text 79 = .ok (.goto 28, 3) := by decide +kernel
theorem dX11_text_82 : decode cX11_text 82 = .ok (.new 39, 3) := by decide +kernel
theorem dX11_text_85 : decode cX11_text 85 = .ok (.dup, 1) := by decide +kernel
theorem dX11_text_86 : decode cX11_text 86 = .ok (.invokespecial 41, 3) := by decide +kernel
theorem dX11_text_89 : decode cX11_text 89 = .ok (.ldc 66, 2) := by decide +kernel
theorem dX11_text_91 : decode cX11_text 91 = .ok (.invokevirtual 46, 3) := by decide +kernel
theorem dX11_text_94 : decode cX11_text 94 = .ok (.aload_n 0, 1) := by decide +kernel
theorem dX11_text_95 : decode cX11_text 95 = .ok (.getfield 37, 3) := by decide +kernel
theorem dX11_text_98 : decode cX11_text 98 = .ok (.invokevirtual 59, 3) := by decide +kernel
theorem dX11_text_101 : decode cX11_text 101 = .ok (.invokevirtual 46, 3) := by decide +kernel
theorem dX11_text_104 : decode cX11_text 104 = .ok (.invokevirtual 63, 3) := by decide +kernel
theorem dX11_text_107 : decode cX11_text 107 = .ok (.invokevirtual 46, 3) := by decide +kernel
theorem dX11_text_110 : decode cX11_text 110 = .ok (.ldc 68, 2) := by decide +kernel
theorem dX11_text_112 : decode cX11_text 112 = .ok (.invokevirtual 46, 3) := by decide +kernel
theorem dX11_text_115 : decode cX11_text 115 = .ok (.invokevirtual 63, 3) := by decide +kernel
theorem dX11_text_118 : decode cX11_text 118 = .ok (.areturn, 1) := by decide +kernel
theorem dX11_held_0 : decode cX11_held 0 = .ok (.lload_n 0, 1) := by decide +kernel
theorem dX11_held_1 : decode cX11_held 1 = .ok (.iload_n 2, 1) := by decide +kernel
theorem dX11_held_2 : decode cX11_held 2 = .ok (.i2l, 1) := by decide +kernel
theorem dX11_held_3 : decode cX11_held 3 = .ok (.lcmp, 1) := by decide +kernel
theorem dX11_held_4 : decode cX11_held 4 = .ok (.ifCond .ge 7, 3) := by decide +kernel
theorem dX11_held_7 : decode cX11_held 7 = .ok (.iload_n 2, 1) := by decide +kernel
theorem dX11_held_8 : decode cX11_held 8 = .ok (.goto 16, 3) := by decide +kernel
theorem dX11_held_11 : decode cX11_held 11 = .ok (.lload_n 0, 1) := by decide +kernel
theorem dX11_held_12 : decode cX11_held 12 = .ok (.iload_n 3, 1) := by decide +kernel
theorem dX11_held_13 : decode cX11_held 13 = .ok (.i2l, 1) := by decide +kernel
theorem dX11_held_14 : decode cX11_held 14 = .ok (.lcmp, 1) := by decide +kernel
theorem dX11_held_15 : decode cX11_held 15 = .ok (.ifCond .le 7, 3) := by decide +kernel
theorem dX11_held_18 : decode cX11_held 18 = .ok (.iload_n 3, 1) := by decide +kernel
theorem dX11_held_19 : decode cX11_held 19 = .ok (.goto 5, 3) := by decide +kernel
theorem dX11_held_22 : decode cX11_held 22 = .ok (.lload_n 0, 1) := by decide +kernel
theorem dX11_held_23 : decode cX11_held 23 = .ok (.l2i, 1) := by decide +kernel
theorem dX11_held_24 : decode cX11_held 24 = .ok (.ireturn, 1) := by decide +kernel
theorem dX11_carryOut_0 : decode cX11_carryOut 0 = .ok (.aload_n 0, 1) := by decide +kernel
theorem dX11_carryOut_1 : decode cX11_carryOut 1 = .ok (.getfield 37, 3) := by decide +kernel
theorem dX11_carryOut_4 : decode cX11_carryOut 4 = .ok (.ifnull 15, 3) := by decide +kernel
theorem dX11_carryOut_7 : decode cX11_carryOut 7 = .ok (.aload_n 0, 1) := by decide +kernel
theorem dX11_carryOut_8 : decode cX11_carryOut 8 = .ok (.getfield 37, 3) := by decide +kernel
theorem dX11_carryOut_11 : decode cX11_carryOut 11 = .ok (.aload_n 1, 1) := by decide +kernel
theorem dX11_carryOut_12 : decode cX11_carryOut 12 = .ok (.invokevirtual 70, 3) := by decide +kernel
theorem dX11_carryOut_15 : decode cX11_carryOut 15 = .ok (.ifCond .ne 4, 3) := by decide +kernel
theorem dX11_carryOut_18 : decode cX11_carryOut 18 = .ok (.return_, 1) := by decide +kernel
theorem dX11_carryOut_19 : decode cX11_carryOut 19 = .ok (.aload_n 1, 1) := by decide +kernel
theorem dX11_carryOut_20 : decode cX11_carryOut 20 = .ok (.getfield 74, 3) := by decide +kernel
theorem dX11_carryOut_23 : decode cX11_carryOut 23 = .ok (.aload_n 0, 1) := by decide +kernel
theorem dX11_carryOut_24 : decode cX11_carryOut 24 = .ok (.getfield 19, 3) := by decide +kernel
theorem dX11_carryOut_27 : decode cX11_carryOut 27 = .ok (.aaload, 1) := by decide +kernel
theorem dX11_carryOut_28 : decode cX11_carryOut 28 = .ok (.astore_n 2, 1) := by decide +kernel
theorem dX11_carryOut_29 : decode cX11_carryOut 29 = .ok (.aload_n 0, 1) := by decide +kernel
theorem dX11_carryOut_30 : decode cX11_carryOut 30 = .ok (.getfield 13, 3) := by decide +kernel
theorem dX11_carryOut_33 : decode cX11_carryOut 33 = .ok (.iconst 3, 1) := by decide +kernel
theorem dX11_carryOut_34 : decode cX11_carryOut 34 = .ok (.if_icmp .ge 19, 3) := by decide +kernel
theorem dX11_carryOut_37 : decode cX11_carryOut 37 = .ok (.aload_n 1, 1) := by decide +kernel
theorem dX11_carryOut_38 : decode cX11_carryOut 38 = .ok (.aload_n 0, 1) := by decide +kernel
theorem dX11_carryOut_39 : decode cX11_carryOut 39 = .ok (.getfield 13, 3) := by decide +kernel
theorem dX11_carryOut_42 : decode cX11_carryOut 42 = .ok (.aload_n 0, 1) := by decide +kernel
theorem dX11_carryOut_43 : decode cX11_carryOut 43 = .ok (.getfield 19, 3) := by decide +kernel
theorem dX11_carryOut_46 : decode cX11_carryOut 46 = .ok (.invokevirtual 80, 3) := by decide +kernel
theorem dX11_carryOut_49 : decode cX11_carryOut 49 = .ok (.pop, 1) := by decide +kernel
theorem dX11_carryOut_50 : decode cX11_carryOut 50 = .ok (.goto 66, 3) := by decide +kernel
theorem dX11_carryOut_53 : decode cX11_carryOut 53 = .ok (.aload_n 0, 1) := by decide +kernel
theorem dX11_carryOut_54 : decode cX11_carryOut 54 = .ok (.getfield 13, 3) := by decide +kernel
theorem dX11_carryOut_57 : decode cX11_carryOut 57 = .ok (.iconst 3, 1) := by decide +kernel
theorem dX11_carryOut_58 : decode cX11_carryOut 58 = .ok (.if_icmp .ne 32, 3) := by decide +kernel
theorem dX11_carryOut_61 : decode cX11_carryOut 61 = .ok (.aload_n 2, 1) := by decide +kernel
theorem dX11_carryOut_62 : decode cX11_carryOut 62 = .ok (.iconst 2, 1) := by decide +kernel
theorem dX11_carryOut_63 : decode cX11_carryOut 63 = .ok (.lconst 0, 1) := by decide +kernel
theorem dX11_carryOut_64 : decode cX11_carryOut 64 = .ok (.aload_n 2, 1) := by decide +kernel
theorem dX11_carryOut_65 : decode cX11_carryOut 65 = .ok (.iconst 2, 1) := by decide +kernel
theorem dX11_carryOut_66 : decode cX11_carryOut 66 = .ok (.iaload, 1) := by decide +kernel
theorem dX11_carryOut_67 : decode cX11_carryOut 67 = .ok (.i2l, 1) := by decide +kernel
theorem dX11_carryOut_68 : decode cX11_carryOut 68 = .ok (.ladd, 1) := by decide +kernel
theorem dX11_carryOut_69 : decode cX11_carryOut 69 = .ok (.aload_n 0, 1) := by decide +kernel
theorem dX11_carryOut_70 : decode cX11_carryOut 70 = .ok (.getfield 31, 3) := by decide +kernel
theorem dX11_carryOut_73 : decode cX11_carryOut 73 = .ok (.aload_n 1, 1) := by decide +kernel
theorem dX11_carryOut_74 : decode cX11_carryOut 74 = .ok (.invokevirtual 70, 3) := by decide +kernel
theorem dX11_carryOut_77 : decode cX11_carryOut 77 = .ok (.i2l, 1) := by decide +kernel
theorem dX11_carryOut_78 : decode cX11_carryOut 78 = .ok (.ladd, 1) := by decide +kernel
theorem dX11_carryOut_79 : decode cX11_carryOut 79 = .ok (.bipush (-90), 2) := by decide +kernel
theorem dX11_carryOut_81 : decode cX11_carryOut 81 = .ok (.bipush 90, 2) := by decide +kernel
theorem dX11_carryOut_83 : decode cX11_carryOut 83 = .ok (.invokestatic 84, 3) := by decide +kernel
theorem dX11_carryOut_86 : decode cX11_carryOut 86 = .ok (.iastore, 1) := by decide +kernel
theorem dX11_carryOut_87 : decode cX11_carryOut 87 = .ok (.goto 29, 3) := by decide +kernel
theorem dX11_carryOut_90 : decode cX11_carryOut 90 = .ok (.aload_n 2, 1) := by decide +kernel
theorem dX11_carryOut_91 : decode cX11_carryOut 91 = .ok (.iconst 0, 1) := by decide +kernel
theorem dX11_carryOut_92 : decode cX11_carryOut 92 = .ok (.lconst 0, 1) := by decide +kernel
theorem dX11_carryOut_93 : decode cX11_carryOut 93 = .ok (.aload_n 2, 1) := by decide +kernel
theorem dX11_carryOut_94 : decode cX11_carryOut 94 = .ok (.iconst 0, 1) := by decide +kernel
theorem dX11_carryOut_95 : decode cX11_carryOut 95 = .ok (.iaload, 1) := by decide +kernel
theorem dX11_carryOut_96 : decode cX11_carryOut 96 = .ok (.i2l, 1) := by decide +kernel
theorem dX11_carryOut_97 : decode cX11_carryOut 97 = .ok (.ladd, 1) := by decide +kernel
theorem dX11_carryOut_98 : decode cX11_carryOut 98 = .ok (.aload_n 0, 1) := by decide +kernel
theorem dX11_carryOut_99 : decode cX11_carryOut 99 = .ok (.getfield 31, 3) := by decide +kernel
theorem dX11_carryOut_102 : decode cX11_carryOut 102 = .ok (.aload_n 1, 1) := by decide +kernel
theorem dX11_carryOut_103 : decode cX11_carryOut 103 = .ok (.invokevirtual 70, 3) := by decide +kernel
theorem dX11_carryOut_106 : decode cX11_carryOut 106 = .ok (.i2l, 1) := by decide +kernel
theorem dX11_carryOut_107 : decode cX11_carryOut 107 = .ok (.lsub, 1) := by decide +kernel
theorem dX11_carryOut_108 : decode cX11_carryOut 108 = .ok (.iconst 0, 1) := by decide +kernel
theorem dX11_carryOut_109 : decode cX11_carryOut 109 = .ok (.aload_n 2, 1) := by decide +kernel
theorem dX11_carryOut_110 : decode cX11_carryOut 110 = .ok (.iconst 1, 1) := by decide +kernel
theorem dX11_carryOut_111 : decode cX11_carryOut 111 = .ok (.iaload, 1) := by decide +kernel
theorem dX11_carryOut_112 : decode cX11_carryOut 112 = .ok (.invokestatic 84, 3) := by decide +kernel
theorem dX11_carryOut_115 : decode cX11_carryOut 115 = .ok (.iastore, 1) := by decide +kernel
theorem dX11_carryOut_116 : decode cX11_carryOut 116 = .ok (.return_, 1) := by decide +kernel
theorem dX12_init_0 : decode cX12_init 0 = .ok (.aload_n 0, 1) := by decide +kernel
theorem dX12_init_1 : decode cX12_init 1 = .ok (.invokespecial 1, 3) := by decide +kernel
theorem dX12_init_4 : decode cX12_init 4 = .ok (.aload_n 0, 1) := by decide +kernel
theorem dX12_init_5 : decode cX12_init 5 = .ok (.bipush 60, 2) := by decide +kernel
theorem dX12_init_7 : decode cX12_init 7 = .ok (.putfield 7, 3) := by decide +kernel
theorem dX12_init_10 : decode cX12_init 10 = .ok (.aload_n 0, 1) := by decide +kernel
theorem dX12_init_11 : decode cX12_init 11 = .ok (.sipush 1000, 3) := by decide +kernel
theorem dX12_init_14 : decode cX12_init 14 = .ok (.putfield 13, 3) := by decide +kernel
theorem dX12_init_17 : decode cX12_init 17 = .ok (.aload_n 0, 1) := by decide +kernel
theorem dX12_init_18 : decode cX12_init 18 = .ok (.iconst 0, 1) := by decide +kernel
theorem dX12_init_19 : decode cX12_init 19 = .ok (.anewarray 16, 3) := by decide +kernel
theorem dX12_init_22 : decode cX12_init 22 = .ok (.putfield 18, 3) := by decide +kernel
theorem dX12_init_25 : decode cX12_init 25 = .ok (.aload_n 0, 1) := by decide +kernel
theorem dX12_init_26 : decode cX12_init 26 = .ok (.iconst 0, 1) := by decide +kernel
theorem dX12_init_27 : decode cX12_init 27 = .ok (.newarray .int, 2) := by decide +kernel
theorem dX12_init_29 : decode cX12_init 29 = .ok (.putfield 22, 3) := by decide +kernel
theorem dX12_init_32 : decode cX12_init 32 = .ok (.aload_n 0, 1) := by decide +kernel
theorem dX12_init_33 : decode cX12_init 33 = .ok (.iconst 0, 1) := by decide +kernel
theorem dX12_init_34 : decode cX12_init 34 = .ok (.anewarray 16, 3) := by decide +kernel
theorem dX12_init_37 : decode cX12_init 37 = .ok (.putfield 25, 3) := by decide +kernel
theorem dX12_init_40 : decode cX12_init 40 = .ok (.aload_n 0, 1) := by decide +kernel
theorem dX12_init_41 : decode cX12_init 41 = .ok (.iconst 0, 1) := by decide +kernel
theorem dX12_init_42 : decode cX12_init 42 = .ok (.anewarray 28, 3) := by decide +kernel
theorem dX12_init_45 : decode cX12_init 45 = .ok (.putfield 30, 3) := by decide +kernel
theorem dX12_init_48 : decode cX12_init 48 = .ok (.return_, 1) := by decide +kernel
theorem dX12_add_0 : decode cX12_add 0 = .ok (.aload_n 0, 1) := by decide +kernel
theorem dX12_add_1 : decode cX12_add 1 = .ok (.getfield 18, 3) := by decide +kernel
theorem dX12_add_4 : decode cX12_add 4 = .ok (.arraylength, 1) := by decide +kernel
theorem dX12_add_5 : decode cX12_add 5 = .ok (.istore_n 3, 1) := by decide +kernel
theorem dX12_add_6 : decode cX12_add 6 = .ok (.iload_n 3, 1) := by decide +kernel
theorem dX12_add_7 : decode cX12_add 7 = .ok (.iconst 1, 1) := by decide +kernel
theorem dX12_add_8 : decode cX12_add 8 = .ok (.iadd, 1) := by decide +kernel
theorem dX12_add_9 : decode cX12_add 9 = .ok (.anewarray 16, 3) := by decide +kernel
theorem dX12_add_12 : decode cX12_add 12 = .ok (.astore 4, 2) := by decide +kernel
theorem dX12_add_14 : decode cX12_add 14 = .ok (.iload_n 3, 1) := by decide +kernel
theorem dX12_add_15 : decode cX12_add 15 = .ok (.iconst 1, 1) := by decide +kernel
theorem dX12_add_16 : decode cX12_add 16 = .ok (.iadd, 1) := by decide +kernel
theorem dX12_add_17 : decode cX12_add 17 = .ok (.newarray .int, 2) := by decide +kernel
theorem dX12_add_19 : decode cX12_add 19 = .ok (.astore 5, 2) := by decide +kernel
theorem dX12_add_21 : decode cX12_add 21 = .ok (.iconst 0, 1) := by decide +kernel
theorem dX12_add_22 : decode cX12_add 22 = .ok (.istore 6, 2) := by decide +kernel
theorem dX12_add_24 : decode cX12_add 24 = .ok (.iload 6, 2) := by decide +kernel
theorem dX12_add_26 : decode cX12_add 26 = .ok (.iload_n 3, 1) := by decide +kernel
theorem dX12_add_27 : decode cX12_add 27 = .ok (.if_icmp .ge 33, 3) := by decide +kernel
theorem dX12_add_30 : decode cX12_add 30 = .ok (.aload 4, 2) := by decide +kernel
theorem dX12_add_32 : decode cX12_add 32 = .ok (.iload 6, 2) := by decide +kernel
theorem dX12_add_34 : decode cX12_add 34 = .ok (.aload_n 0, 1) := by decide +kernel
theorem dX12_add_35 : decode cX12_add 35 = .ok (.getfield 18, 3) := by decide +kernel
theorem dX12_add_38 : decode cX12_add 38 = .ok (.iload 6, 2) := by decide +kernel
theorem dX12_add_40 : decode cX12_add 40 = .ok (.aaload, 1) := by decide +kernel
theorem dX12_add_41 : decode cX12_add 41 = .ok (.aastore, 1) := by decide +kernel
theorem dX12_add_42 : decode cX12_add 42 = .ok (.aload 5, 2) := by decide +kernel
theorem dX12_add_44 : decode cX12_add 44 = .ok (.iload 6, 2) := by decide +kernel
theorem dX12_add_46 : decode cX12_add 46 = .ok (.aload_n 0, 1) := by decide +kernel
theorem dX12_add_47 : decode cX12_add 47 = .ok (.getfield 22, 3) := by decide +kernel
theorem dX12_add_50 : decode cX12_add 50 = .ok (.iload 6, 2) := by decide +kernel
theorem dX12_add_52 : decode cX12_add 52 = .ok (.iaload, 1) := by decide +kernel
theorem dX12_add_53 : decode cX12_add 53 = .ok (.iastore, 1) := by decide +kernel
theorem dX12_add_54 : decode cX12_add 54 = .ok (.iinc 6 1, 3) := by decide +kernel
theorem dX12_add_57 : decode cX12_add 57 = .ok (.goto (-33), 3) := by decide +kernel
theorem dX12_add_60 : decode cX12_add 60 = .ok (.aload 4, 2) := by decide +kernel
theorem dX12_add_62 : decode cX12_add 62 = .ok (.iload_n 3, 1) := by decide +kernel
theorem dX12_add_63 : decode cX12_add 63 = .ok (.iconst 3, 1) := by decide +kernel
theorem dX12_add_64 : decode cX12_add 64 = .ok (.newarray .int, 2) := by decide +kernel
theorem dX12_add_66 : decode cX12_add 66 = .ok (.dup, 1) := by decide +kernel
theorem dX12_add_67 : decode cX12_add 67 = .ok (.iconst 0, 1) := by decide +kernel
theorem dX12_add_68 : decode cX12_add 68 = .ok (.iload_n 1, 1) := by decide +kernel
theorem dX12_add_69 : decode cX12_add 69 = .ok (.iastore, 1) := by decide +kernel
theorem dX12_add_70 : decode cX12_add 70 = .ok (.dup, 1) := by decide +kernel
theorem dX12_add_71 : decode cX12_add 71 = .ok (.iconst 1, 1) := by decide +kernel
theorem dX12_add_72 : decode cX12_add 72 = .ok (.bipush 100, 2) := by decide +kernel
theorem dX12_add_74 : decode cX12_add 74 = .ok (.iastore, 1) := by decide +kernel
theorem dX12_add_75 : decode cX12_add 75 = .ok (.dup, 1) := by decide +kernel
theorem dX12_add_76 : decode cX12_add 76 = .ok (.iconst 2, 1) := by decide +kernel
theorem dX12_add_77 : decode cX12_add 77 = .ok (.iload_n 2, 1) := by decide +kernel
theorem dX12_add_78 : decode cX12_add 78 = .ok (.iastore, 1) := by decide +kernel
theorem dX12_add_79 : decode cX12_add 79 = .ok (.aastore, 1) := by decide +kernel
theorem dX12_add_80 : decode cX12_add 80 = .ok (.aload 5, 2) := by decide +kernel
theorem dX12_add_82 : decode cX12_add 82 = .ok (.iload_n 3, 1) := by decide +kernel
theorem dX12_add_83 : decode cX12_add 83 = .ok (.iload_n 3, 1) := by decide +kernel
theorem dX12_add_84 : decode cX12_add 84 = .ok (.iastore, 1) := by decide +kernel
theorem dX12_add_85 : decode cX12_add 85 = .ok (.aload_n 0, 1) := by decide +kernel
theorem dX12_add_86 : decode cX12_add 86 = .ok (.aload 4, 2) := by decide +kernel
theorem dX12_add_88 : decode cX12_add 88 = .ok (.putfield 18, 3) := by decide +kernel
theorem dX12_add_91 : decode cX12_add 91 = .ok (.aload_n 0, 1) := by decide +kernel
theorem dX12_add_92 : decode cX12_add 92 = .ok (.aload 5, 2) := by decide +kernel
theorem dX12_add_94 : decode cX12_add 94 = .ok (.putfield 22, 3) := by decide +kernel
theorem dX12_add_97 : decode cX12_add 97 = .ok (.return_, 1) := by decide +kernel
theorem dX12_tilt_0 : decode cX12_tilt 0 = .ok (.iconst 0, 1) := by decide +kernel
theorem dX12_tilt_1 : decode cX12_tilt 1 = .ok (.istore_n 2, 1) := by decide +kernel
theorem dX12_tilt_2 : decode cX12_tilt 2 = .ok (.iconst 0, 1) := by decide +kernel
theorem dX12_tilt_3 : decode cX12_tilt 3 = .ok (.istore_n 3, 1) := by decide +kernel
theorem dX12_tilt_4 : decode cX12_tilt 4 = .ok (.iload_n 3, 1) := by decide +kernel
theorem dX12_tilt_5 : decode cX12_tilt 5 = .ok (.iload_n 1, 1) := by decide +kernel
theorem dX12_tilt_6 : decode cX12_tilt 6 = .ok (.if_icmp .ge 39, 3) := by decide +kernel
theorem dX12_tilt_9 : decode cX12_tilt 9 = .ok (.iload_n 2, 1) := by decide +kernel
theorem dX12_tilt_10 : decode cX12_tilt 10 = .ok (.aload_n 0, 1) := by decide +kernel
theorem dX12_tilt_11 : decode cX12_tilt 11 = .ok (.getfield 18, 3) := by decide +kernel
theorem dX12_tilt_14 : decode cX12_tilt 14 = .ok (.aload_n 0, 1) := by decide +kernel
theorem dX12_tilt_15 : decode cX12_tilt 15 = .ok (.getfield 22, 3) := by decide +kernel
theorem dX12_tilt_18 : decode cX12_tilt 18 = .ok (.iload_n 3, 1) := by decide +kernel
theorem dX12_tilt_19 : decode cX12_tilt 19 = .ok (.iaload, 1) := by decide +kernel
theorem dX12_tilt_20 : decode cX12_tilt 20 = .ok (.aaload, 1) := by decide +kernel
theorem dX12_tilt_21 : decode cX12_tilt 21 = .ok (.iconst 2, 1) := by decide +kernel
theorem dX12_tilt_22 : decode cX12_tilt 22 = .ok (.iaload, 1) := by decide +kernel
theorem dX12_tilt_23 : decode cX12_tilt 23 = .ok (.aload_n 0, 1) := by decide +kernel
theorem dX12_tilt_24 : decode cX12_tilt 24 = .ok (.getfield 18, 3) := by decide +kernel
theorem dX12_tilt_27 : decode cX12_tilt 27 = .ok (.aload_n 0, 1) := by decide +kernel
theorem dX12_tilt_28 : decode cX12_tilt 28 = .ok (.getfield 22, 3) := by decide +kernel
theorem dX12_tilt_31 : decode cX12_tilt 31 = .ok (.iload_n 3, 1) := by decide +kernel
theorem dX12_tilt_32 : decode cX12_tilt 32 = .ok (.iaload, 1) := by decide +kernel
theorem dX12_tilt_33 : decode cX12_tilt 33 = .ok (.aaload, 1) := by decide +kernel
theorem dX12_tilt_34 : decode cX12_tilt 34 = .ok (.iconst 2, 1) := by decide +kernel
theorem dX12_tilt_35 : decode cX12_tilt 35 = .ok (.iaload, 1) := by decide +kernel
theorem dX12_tilt_36 : decode cX12_tilt 36 = .ok (.iadd, 1) := by decide +kernel
theorem dX12_tilt_37 : decode cX12_tilt 37 = .ok (.iadd, 1) := by decide +kernel
theorem dX12_tilt_38 : decode cX12_tilt 38 = .ok (.istore_n 2, 1) := by decide +kernel
theorem dX12_tilt_39 : decode cX12_tilt 39 = .ok (.iinc 3 1, 3) := by decide +kernel
theorem dX12_tilt_42 : decode cX12_tilt 42 = .ok (.goto (-38), 3) := by decide +kernel
theorem dX12_tilt_45 : decode cX12_tilt 45 = .ok (.iload_n 2, 1) := by decide +kernel
theorem dX12_tilt_46 : decode cX12_tilt 46 = .ok (.ireturn, 1) := by decide +kernel
theorem dX12_isCovered_0 : decode cX12_isCovered 0 = .ok (.aload_n 0, 1) := by decide +kernel
theorem dX12_isCovered_1 : decode cX12_isCovered 1 = .ok (.getfield 39, 3) := by decide +kernel
theorem dX12_isCovered_4 : decode cX12_isCovered 4 = .ok (.ifCond .le 19, 3) := by decide +kernel
theorem dX12_isCovered_7 : decode cX12_isCovered 7 = .ok (.aload_n 0, 1) := by decide +kernel
theorem dX12_isCovered_8 : decode cX12_isCovered 8 = .ok (.getfield 25, 3) := by decide +kernel
theorem dX12_isCovered_11 : decode cX12_isCovered 11 = .ok (.iconst 0, 1) := by decide +kernel
theorem dX12_isCovered_12 : decode cX12_isCovered 12 = .ok (.aaload, 1) := by decide +kernel
theorem dX12_isCovered_13 : decode cX12_isCovered 13 = .ok (.iconst 1, 1) := by decide +kernel
theorem dX12_isCovered_14 : decode cX12_isCovered 14 = .ok (.iaload, 1) := by decide +kernel
theorem dX12_isCovered_15 : decode cX12_isCovered 15 = .ok (.iload_n 1, 1) := by decide +kernel
theorem dX12_isCovered_16 : decode cX12_isCovered 16 = .ok (.if_icmp .ne 7, 3) := by decide +kernel
theorem dX12_isCovered_19 : decode cX12_isCovered 19 = .ok (.iconst 1, 1) := by decide +kernel
theorem dX12_isCovered_20 : decode cX12_isCovered 20 = .ok (.goto 4, 3) := by decide +kernel
theorem dX12_isCovered_23 : decode cX12_isCovered 23 = .ok (.iconst 0, 1) := by decide +kernel
theorem dX12_isCovered_24 : decode cX12_isCovered 24 = .ok (.ireturn, 1) := by decide +kernel
theorem dX12_light_0 : decode cX12_light 0 = .ok (.sipush 10000, 3) := by decide +kernel
theorem dX12_light_3 : decode cX12_light 3 = .ok (.istore_n 2, 1) := by decide +kernel
theorem dX12_light_4 : decode cX12_light 4 = .ok (.iconst 0, 1) := by decide +kernel
theorem dX12_light_5 : decode cX12_light 5 = .ok (.istore_n 3, 1) := by decide +kernel
theorem dX12_light_6 : decode cX12_light 6 = .ok (.iconst 0, 1) := by decide +kernel
theorem dX12_light_7 : decode cX12_light 7 = .ok (.istore 4, 2) := by decide +kernel
theorem dX12_light_9 : decode cX12_light 9 = .ok (.iload 4, 2) := by decide +kernel
theorem dX12_light_11 : decode cX12_light 11 = .ok (.iload_n 1, 1) := by decide +kernel
theorem dX12_light_12 : decode cX12_light 12 = .ok (.if_icmp .ge 77, 3) := by decide +kernel
theorem dX12_light_15 : decode cX12_light 15 = .ok (.aload_n 0, 1) := by decide +kernel
theorem dX12_light_16 : decode cX12_light 16 = .ok (.getfield 18, 3) := by decide +kernel
theorem dX12_light_19 : decode cX12_light 19 = .ok (.aload_n 0, 1) := by decide +kernel
theorem dX12_light_20 : decode cX12_light 20 = .ok (.getfield 22, 3) := by decide +kernel
theorem dX12_light_23 : decode cX12_light 23 = .ok (.iload 4, 2) := by decide +kernel
theorem dX12_light_25 : decode cX12_light 25 = .ok (.iaload, 1) := by decide +kernel
theorem dX12_light_26 : decode cX12_light 26 = .ok (.aaload, 1) := by decide +kernel
theorem dX12_light_27 : decode cX12_light 27 = .ok (.astore 5, 2) := by decide +kernel
theorem dX12_light_29 : decode cX12_light 29 = .ok (.iload_n 3, 1) := by decide +kernel
theorem dX12_light_30 : decode cX12_light 30 = .ok (.aload_n 0, 1) := by decide +kernel
theorem dX12_light_31 : decode cX12_light 31 = .ok (.getfield 7, 3) := by decide +kernel
theorem dX12_light_34 : decode cX12_light 34 = .ok (.if_icmp .gt 26, 3) := by decide +kernel
theorem dX12_light_37 : decode cX12_light 37 = .ok (.iload_n 3, 1) := by decide +kernel
theorem dX12_light_38 : decode cX12_light 38 = .ok (.ineg, 1) := by decide +kernel
theorem dX12_light_39 : decode cX12_light 39 = .ok (.aload_n 0, 1) := by decide +kernel
theorem dX12_light_40 : decode cX12_light 40 = .ok (.getfield 7, 3) := by decide +kernel
theorem dX12_light_43 : decode cX12_light 43 = .ok (.if_icmp .gt 17, 3) := by decide +kernel
theorem dX12_light_46 : decode cX12_light 46 = .ok (.aload_n 0, 1) := by decide +kernel
theorem dX12_light_47 : decode cX12_light 47 = .ok (.aload_n 0, 1) := by decide +kernel
theorem dX12_light_48 : decode cX12_light 48 = .ok (.getfield 22, 3) := by decide +kernel
theorem dX12_light_51 : decode cX12_light 51 = .ok (.iload 4, 2) := by decide +kernel
theorem dX12_light_53 : decode cX12_light 53 = .ok (.iaload, 1) := by decide +kernel
theorem dX12_light_54 : decode cX12_light 54 = .ok (.invokevirtual 48, 3) := by decide +kernel
theorem dX12_light_57 : decode cX12_light 57 = .ok (.ifCond .eq 7, 3) := by decide +kernel
theorem dX12_light_60 : decode cX12_light 60 = .ok (.iconst 0, 1) := by decide +kernel
theorem dX12_light_61 : decode cX12_light 61 = .ok (.goto 12, 3) := by decide +kernel
theorem dX12_light_64 : decode cX12_light 64 = .ok (.iload_n 2, 1) := by decide +kernel
theorem dX12_light_65 : decode cX12_light 65 = .ok (.aload 5, 2) := by decide +kernel
theorem dX12_light_67 : decode cX12_light 67 = .ok (.iconst 0, 1) := by decide +kernel
theorem dX12_light_68 : decode cX12_light 68 = .ok (.iaload, 1) := by decide +kernel
theorem dX12_light_69 : decode cX12_light 69 = .ok (.imul, 1) := by decide +kernel
theorem dX12_light_70 : decode cX12_light 70 = .ok (.bipush 100, 2) := by decide +kernel
theorem dX12_light_72 : decode cX12_light 72 = .ok (.idiv, 1) := by decide +kernel
theorem dX12_light_73 : decode cX12_light 73 = .ok (.istore_n 2, 1) := by decide +kernel
theorem dX12_light_74 : decode cX12_light 74 = .ok (.iload_n 3, 1) := by decide +kernel
theorem dX12_light_75 : decode cX12_light 75 = .ok (.aload 5, 2) := by decide +kernel
theorem dX12_light_77 : decode cX12_light 77 = .ok (.iconst 2, 1) := by decide +kernel
theorem dX12_light_78 : decode cX12_light 78 = .ok (.iaload, 1) := by decide +kernel
theorem dX12_light_79 : decode cX12_light 79 = .ok (.iconst 2, 1) := by decide +kernel
theorem dX12_light_80 : decode cX12_light 80 = .ok (.imul, 1) := by decide +kernel
theorem dX12_light_81 : decode cX12_light 81 = .ok (.iadd, 1) := by decide +kernel
theorem dX12_light_82 : decode cX12_light 82 = .ok (.istore_n 3, 1) := by decide +kernel
theorem dX12_light_83 : decode cX12_light 83 = .ok (.iinc 4 1, 3) := by decide +kernel
theorem dX12_light_86 : decode cX12_light 86 = .ok (.goto (-77), 3) := by decide +kernel
theorem dX12_light_89 : decode cX12_light 89 = .ok (.iload_n 2, 1) := by decide +kernel
theorem dX12_light_90 : decode cX12_light 90 = .ok (.ireturn, 1) := by decide +kernel
theorem dX12_end_0 : decode cX12_end 0 = .ok (.aload_n 0, 1) := by decide +kernel
theorem dX12_end_1 : decode cX12_end 1 = .ok (.aload_n 0, 1) := by decide +kernel
theorem dX12_end_2 : decode cX12_end 2 = .ok (.getfield 22, 3) := by decide +kernel
theorem dX12_end_5 : decode cX12_end 5 = .ok (.arraylength, 1) := by decide +kernel
theorem dX12_end_6 : decode cX12_end 6 = .ok (.invokevirtual 52, 3) := by decide +kernel
theorem dX12_end_9 : decode cX12_end 9 = .ok (.ireturn, 1) := by decide +kernel
theorem dX12_isSeen_0 : decode cX12_isSeen 0 = .ok (.aload_n 0, 1) := by decide +kernel
theorem dX12_isSeen_1 : decode cX12_isSeen 1 = .ok (.invokevirtual 56, 3) := by decide +kernel
theorem dX12_isSeen_4 : decode cX12_isSeen 4 = .ok (.aload_n 0, 1) := by decide +kernel
theorem dX12_isSeen_5 : decode cX12_isSeen 5 = .ok (.getfield 13, 3) := by decide +kernel
theorem dX12_isSeen_8 : decode cX12_isSeen 8 = .ok (.if_icmp .lt 26, 3) := by decide +kernel
theorem dX12_isSeen_11 : decode cX12_isSeen 11 = .ok (.aload_n 0, 1) := by decide +kernel
theorem dX12_isSeen_12 : decode cX12_isSeen 12 = .ok (.aload_n 0, 1) := by decide +kernel
theorem dX12_isSeen_13 : decode cX12_isSeen 13 = .ok (.getfield 22, 3) := by decide +kernel
theorem dX12_isSeen_16 : decode cX12_isSeen 16 = .ok (.arraylength, 1) := by decide +kernel
theorem dX12_isSeen_17 : decode cX12_isSeen 17 = .ok (.invokevirtual 60, 3) := by decide +kernel
theorem dX12_isSeen_20 : decode cX12_isSeen 20 = .ok (.invokestatic 63, 3) := by decide +kernel
theorem dX12_isSeen_23 : decode cX12_isSeen 23 = .ok (.aload_n 0, 1) := by decide +kernel
theorem dX12_isSeen_24 : decode cX12_isSeen 24 = .ok (.getfield 7, 3) := by decide +kernel
theorem dX12_isSeen_27 : decode cX12_isSeen 27 = .ok (.if_icmp .gt 7, 3) := by decide +kernel
theorem dX12_isSeen_30 : decode cX12_isSeen 30 = .ok (.iconst 1, 1) := by decide +kernel
theorem dX12_isSeen_31 : decode cX12_isSeen 31 = .ok (.goto 4, 3) := by decide +kernel
theorem dX12_isSeen_34 : decode cX12_isSeen 34 = .ok (.iconst 0, 1) := by decide +kernel
theorem dX12_isSeen_35 : decode cX12_isSeen 35 = .ok (.ireturn, 1) := by decide +kernel
theorem dX12_place_0 : decode cX12_place 0 = .ok (.iconst 0, 1) := by decide +kernel
theorem dX12_place_1 : decode cX12_place 1 = .ok (.istore_n 2, 1) := by decide +kernel
theorem dX12_place_2 : decode cX12_place 2 = .ok (.aload_n 0, 1) := by decide +kernel
theorem dX12_place_3 : decode cX12_place 3 = .ok (.getfield 22, 3) := by decide +kernel
theorem dX12_place_6 : decode cX12_place 6 = .ok (.iload_n 2, 1) := by decide +kernel
theorem dX12_place_7 : decode cX12_place 7 = .ok (.iaload, 1) := by decide +kernel
theorem dX12_place_8 : decode cX12_place 8 = .ok (.iload_n 1, 1) := by decide +kernel
theorem dX12_place_9 : decode cX12_place 9 = .ok (.if_icmp .eq 9, 3) := by decide +kernel
theorem dX12_place_12 : decode cX12_place 12 = .ok (.iinc 2 1, 3) := by decide +kernel
theorem dX12_place_15 : decode cX12_place 15 = .ok (.goto (-13), 3) := by decide +kernel
theorem dX12_place_18 : decode cX12_place 18 = .ok (.iload_n 2, 1) := by decide +kernel
theorem dX12_place_19 : decode cX12_place 19 = .ok (.ireturn, 1) := by decide +kernel
theorem dX12_waits_0 : decode cX12_waits 0 = .ok (.aload_n 0, 1) := by decide +kernel
theorem dX12_waits_1 : decode cX12_waits 1 = .ok (.getfield 25, 3) := by decide +kernel
theorem dX12_waits_4 : decode cX12_waits 4 = .ok (.astore_n 2, 1) := by decide +kernel
theorem dX12_waits_5 : decode cX12_waits 5 = .ok (.aload_n 2, 1) := by decide +kernel
theorem dX12_waits_6 : decode cX12_waits 6 = .ok (.arraylength, 1) := by decide +kernel
theorem dX12_waits_7 : decode cX12_waits 7 = .ok (.istore_n 3, 1) := by decide +kernel
theorem dX12_waits_8 : decode cX12_waits 8 = .ok (.iconst 0, 1) := by decide +kernel
theorem dX12_waits_9 : decode cX12_waits 9 = .ok (.istore 4, 2) := by decide +kernel
theorem dX12_waits_11 : decode cX12_waits 11 = .ok (.iload 4, 2) := by decide +kernel
theorem dX12_waits_13 : decode cX12_waits 13 = .ok (.iload_n 3, 1) := by decide +kernel
theorem dX12_waits_14 : decode cX12_waits 14 = .ok (.if_icmp .ge 25, 3) := by decide +kernel
theorem dX12_waits_17 : decode cX12_waits 17 = .ok (.aload_n 2, 1) := by decide +kernel
theorem dX12_waits_18 : decode cX12_waits 18 = .ok (.iload 4, 2) := by decide +kernel
theorem dX12_waits_20 : decode cX12_waits 20 = .ok (.aaload, 1) := by decide +kernel
theorem dX12_waits_21 : decode cX12_waits 21 = .ok (.astore 5, 2) := by decide +kernel
theorem dX12_waits_23 : decode cX12_waits 23 = .ok (.aload 5, 2) := by decide +kernel
theorem dX12_waits_25 : decode cX12_waits 25 = .ok (.iconst 1, 1) := by decide +kernel
theorem dX12_waits_26 : decode cX12_waits 26 = .ok (.iaload, 1) := by decide +kernel
theorem dX12_waits_27 : decode cX12_waits 27 = .ok (.iload_n 1, 1) := by decide +kernel
theorem dX12_waits_28 : decode cX12_waits 28 = .ok (.if_icmp .ne 5, 3) := by decide +kernel
theorem dX12_waits_31 : decode cX12_waits 31 = .ok (.iconst 1, 1) := by decide +kernel
theorem dX12_waits_32 : decode cX12_waits 32 = .ok (.ireturn, 1) := by decide +kernel
theorem dX12_waits_33 : decode cX12_waits 33 = .ok (.iinc 4 1, 3) := by decide +kernel
theorem dX12_waits_36 : decode cX12_waits 36 = .ok (.goto (-25), 3) := by decide +kernel
theorem dX12_waits_39 : decode cX12_waits 39 = .ok (.iconst 0, 1) := by decide +kernel
theorem dX12_waits_40 : decode cX12_waits 40 = .ok (.ireturn, 1) := by decide +kernel
theorem dX12_order_0 : decode cX12_order 0 = .ok (.aload_n 0, 1) := by decide +kernel
theorem dX12_order_1 : decode cX12_order 1 = .ok (.getfield 25, 3) := by decide +kernel
theorem dX12_order_4 : decode cX12_order 4 = .ok (.astore_n 3, 1) := by decide +kernel
theorem dX12_order_5 : decode cX12_order 5 = .ok (.aload_n 3, 1) := by decide +kernel
theorem dX12_order_6 : decode cX12_order 6 = .ok (.arraylength, 1) := by decide +kernel
theorem dX12_order_7 : decode cX12_order 7 = .ok (.istore 4, 2) := by decide +kernel
theorem dX12_order_9 : decode cX12_order 9 = .ok (.iconst 0, 1) := by decide +kernel
theorem dX12_order_10 : decode cX12_order 10 = .ok (.istore 5, 2) := by decide +kernel
theorem dX12_order_12 : decode cX12_order 12 = .ok (.iload 5, 2) := by decide +kernel
theorem dX12_order_14 : decode cX12_order 14 = .ok (.iload 4, 2) := by decide +kernel
theorem dX12_order_16 : decode cX12_order 16 = .ok (.if_icmp .ge 33, 3) := by decide +kernel
theorem dX12_order_19 : decode cX12_order 19 = .ok (.aload_n 3, 1) := by decide +kernel
theorem dX12_order_20 : decode cX12_order 20 = .ok (.iload 5, 2) := by decide +kernel
theorem dX12_order_22 : decode cX12_order 22 = .ok (.aaload, 1) := by decide +kernel
theorem dX12_order_23 : decode cX12_order 23 = .ok (.astore 6, 2) := by decide +kernel
theorem dX12_order_25 : decode cX12_order 25 = .ok (.aload 6, 2) := by decide +kernel
theorem dX12_order_27 : decode cX12_order 27 = .ok (.iconst 0, 1) := by decide +kernel
theorem dX12_order_28 : decode cX12_order 28 = .ok (.iaload, 1) := by decide +kernel
theorem dX12_order_29 : decode cX12_order 29 = .ok (.iload_n 1, 1) := by decide +kernel
theorem dX12_order_30 : decode cX12_order 30 = .ok (.if_icmp .ne 13, 3) := by decide +kernel
theorem dX12_order_33 : decode cX12_order 33 = .ok (.aload 6, 2) := by decide +kernel
theorem dX12_order_35 : decode cX12_order 35 = .ok (.iconst 1, 1) := by decide +kernel
theorem dX12_order_36 : decode cX12_order 36 = .ok (.iaload, 1) := by decide +kernel
theorem dX12_order_37 : decode cX12_order 37 = .ok (.iload_n 2, 1) := by decide +kernel
theorem dX12_order_38 : decode cX12_order 38 = .ok (.if_icmp .ne 5, 3) := by decide +kernel
theorem dX12_order_41 : decode cX12_order 41 = .ok (.iconst 0, 1) := by decide +kernel
theorem dX12_order_42 : decode cX12_order 42 = .ok (.ireturn, 1) := by decide +kernel
theorem dX12_order_43 : decode cX12_order 43 = .ok (.iinc 5 1, 3) := by decide +kernel
theorem dX12_order_46 : decode cX12_order 46 = .ok (.goto (-34), 3) := by decide +kernel
theorem dX12_order_49 : decode cX12_order 49 = .ok (.aload_n 0, 1) := by decide +kernel
theorem dX12_order_50 : decode cX12_order 50 = .ok (.getfield 25, 3) := by decide +kernel
theorem dX12_order_53 : decode cX12_order 53 = .ok (.arraylength, 1) := by decide +kernel
theorem dX12_order_54 : decode cX12_order 54 = .ok (.bipush 12, 2) := by decide +kernel
theorem dX12_order_56 : decode cX12_order 56 = .ok (.if_icmp .ne 5, 3) := by decide +kernel
theorem dX12_order_59 : decode cX12_order 59 = .ok (.iconst 0, 1) := by decide +kernel
theorem dX12_order_60 : decode cX12_order 60 = .ok (.ireturn, 1) := by decide +kernel
theorem dX12_order_61 : decode cX12_order 61 = .ok (.aload_n 0, 1) := by decide +kernel
theorem dX12_order_62 : decode cX12_order 62 = .ok (.getfield 25, 3) := by decide +kernel
theorem dX12_order_65 : decode cX12_order 65 = .ok (.arraylength, 1) := by decide +kernel
theorem dX12_order_66 : decode cX12_order 66 = .ok (.iconst 1, 1) := by decide +kernel
theorem dX12_order_67 : decode cX12_order 67 = .ok (.iadd, 1) := by decide +kernel
theorem dX12_order_68 : decode cX12_order 68 = .ok (.anewarray 16, 3) := by decide +kernel
theorem dX12_order_71 : decode cX12_order 71 = .ok (.astore_n 3, 1) := by decide +kernel
theorem dX12_order_72 : decode cX12_order 72 = .ok (.iconst 0, 1) := by decide +kernel
theorem dX12_order_73 : decode cX12_order 73 = .ok (.istore 4, 2) := by decide +kernel
theorem dX12_order_75 : decode cX12_order 75 = .ok (.iload 4, 2) := by decide +kernel
theorem dX12_order_77 : decode cX12_order 77 = .ok (.aload_n 0, 1) := by decide +kernel
theorem dX12_order_78 : decode cX12_order 78 = .ok (.getfield 25, 3) := by decide +kernel
theorem dX12_order_81 : decode cX12_order 81 = .ok (.arraylength, 1) := by decide +kernel
theorem dX12_order_82 : decode cX12_order 82 = .ok (.if_icmp .ge 20, 3) := by decide +kernel
theorem dX12_order_85 : decode cX12_order 85 = .ok (.aload_n 3, 1) := by decide +kernel
theorem dX12_order_86 : decode cX12_order 86 = .ok (.iload 4, 2) := by decide +kernel
theorem dX12_order_88 : decode cX12_order 88 = .ok (.aload_n 0, 1) := by decide +kernel
theorem dX12_order_89 : decode cX12_order 89 = .ok (.getfield 25, 3) := by decide +kernel
theorem dX12_order_92 : decode cX12_order 92 = .ok (.iload 4, 2) := by decide +kernel
theorem dX12_order_94 : decode cX12_order 94 = .ok (.aaload, 1) := by decide +kernel
theorem dX12_order_95 : decode cX12_order 95 = .ok (.aastore, 1) := by decide +kernel
theorem dX12_order_96 : decode cX12_order 96 = .ok (.iinc 4 1, 3) := by decide +kernel
theorem dX12_order_99 : decode cX12_order 99 = .ok (.goto (-24), 3) := by decide +kernel
theorem dX12_order_102 : decode cX12_order 102 = .ok (.aload_n 3, 1) := by decide +kernel
theorem dX12_order_103 : decode cX12_order 103 = .ok (.aload_n 0, 1) := by decide +kernel
theorem dX12_order_104 : decode cX12_order 104 = .ok (.getfield 25, 3) := by decide +kernel
theorem dX12_order_107 : decode cX12_order 107 = .ok (.arraylength, 1) := by decide +kernel
theorem dX12_order_108 : decode cX12_order 108 = .ok (.iconst 2, 1) := by decide +kernel
theorem dX12_order_109 : decode cX12_order 109 = .ok (.newarray .int, 2) := by decide +kernel
theorem dX12_order_111 : decode cX12_order 111 = .ok (.dup, 1) := by decide +kernel
theorem dX12_order_112 : decode cX12_order 112 = .ok (.iconst 0, 1) := by decide +kernel
theorem dX12_order_113 : decode cX12_order 113 = .ok (.iload_n 1, 1) := by decide +kernel
theorem dX12_order_114 : decode cX12_order 114 = .ok (.iastore, 1) := by decide +kernel
theorem dX12_order_115 : decode cX12_order 115 = .ok (.dup, 1) := by decide +kernel
theorem dX12_order_116 : decode cX12_order 116 = .ok (.iconst 1, 1) := by decide +kernel
theorem dX12_order_117 : decode cX12_order 117 = .ok (.iload_n 2, 1) := by decide +kernel
theorem dX12_order_118 : decode cX12_order 118 = .ok (.iastore, 1) := by decide +kernel
theorem dX12_order_119 : decode cX12_order 119 = .ok (.aastore, 1) := by decide +kernel
theorem dX12_order_120 : decode cX12_order 120 = .ok (.aload_n 0, 1) := by decide +kernel
theorem dX12_order_121 : decode cX12_order 121 = .ok (.aload_n 3, 1) := by decide +kernel
theorem dX12_order_122 : decode cX12_order 122 = .ok (.putfield 25, 3) := by decide +kernel
theorem dX12_order_125 : decode cX12_order 125 = .ok (.iconst 1, 1) := by decide +kernel
theorem dX12_order_126 : decode cX12_order 126 = .ok (.ireturn, 1) := by decide +kernel
theorem dX12_take_0 : decode cX12_take 0 = .ok (.aload_n 0, 1) := by decide +kernel
theorem dX12_take_1 : decode cX12_take 1 = .ok (.getfield 25, 3) := by decide +kernel
theorem dX12_take_4 : decode cX12_take 4 = .ok (.iload_n 1, 1) := by decide +kernel
theorem dX12_take_5 : decode cX12_take 5 = .ok (.aaload, 1) := by decide +kernel
theorem dX12_take_6 : decode cX12_take 6 = .ok (.astore_n 2, 1) := by decide +kernel
theorem dX12_take_7 : decode cX12_take 7 = .ok (.aload_n 0, 1) := by decide +kernel
theorem dX12_take_8 : decode cX12_take 8 = .ok (.getfield 25, 3) := by decide +kernel
theorem dX12_take_11 : decode cX12_take 11 = .ok (.arraylength, 1) := by decide +kernel
theorem dX12_take_12 : decode cX12_take 12 = .ok (.iconst 1, 1) := by decide +kernel
theorem dX12_take_13 : decode cX12_take 13 = .ok (.isub, 1) := by decide +kernel
theorem dX12_take_14 : decode cX12_take 14 = .ok (.anewarray 16, 3) := by decide +kernel
theorem dX12_take_17 : decode cX12_take 17 = .ok (.astore_n 3, 1) := by decide +kernel
theorem dX12_take_18 : decode cX12_take 18 = .ok (.iconst 0, 1) := by decide +kernel
theorem dX12_take_19 : decode cX12_take 19 = .ok (.istore 4, 2) := by decide +kernel
theorem dX12_take_21 : decode cX12_take 21 = .ok (.iload 4, 2) := by decide +kernel
theorem dX12_take_23 : decode cX12_take 23 = .ok (.aload_n 3, 1) := by decide +kernel
theorem dX12_take_24 : decode cX12_take 24 = .ok (.arraylength, 1) := by decide +kernel
theorem dX12_take_25 : decode cX12_take 25 = .ok (.if_icmp .ge 33, 3) := by decide +kernel
theorem dX12_take_28 : decode cX12_take 28 = .ok (.aload_n 3, 1) := by decide +kernel
theorem dX12_take_29 : decode cX12_take 29 = .ok (.iload 4, 2) := by decide +kernel
theorem dX12_take_31 : decode cX12_take 31 = .ok (.aload_n 0, 1) := by decide +kernel
theorem dX12_take_32 : decode cX12_take 32 = .ok (.getfield 25, 3) := by decide +kernel
theorem dX12_take_35 : decode cX12_take 35 = .ok (.iload 4, 2) := by decide +kernel
theorem dX12_take_37 : decode cX12_take 37 = .ok (.iload_n 1, 1) := by decide +kernel
theorem dX12_take_38 : decode cX12_take 38 = .ok (.if_icmp .ge 8, 3) := by decide +kernel
theorem dX12_take_41 : decode cX12_take 41 = .ok (.iload 4, 2) := by decide +kernel
theorem dX12_take_43 : decode cX12_take 43 = .ok (.goto 7, 3) := by decide +kernel
theorem dX12_take_46 : decode cX12_take 46 = .ok (.iload 4, 2) := by decide +kernel
theorem dX12_take_48 : decode cX12_take 48 = .ok (.iconst 1, 1) := by decide +kernel
theorem dX12_take_49 : decode cX12_take 49 = .ok (.iadd, 1) := by decide +kernel
theorem dX12_take_50 : decode cX12_take 50 = .ok (.aaload, 1) := by decide +kernel
theorem dX12_take_51 : decode cX12_take 51 = .ok (.aastore, 1) := by decide +kernel
theorem dX12_take_52 : decode cX12_take 52 = .ok (.iinc 4 1, 3) := by decide +kernel
theorem dX12_take_55 : decode cX12_take 55 = .ok (.goto (-34), 3) := by decide +kernel
theorem dX12_take_58 : decode cX12_take 58 = .ok (.aload_n 0, 1) := by decide +kernel
theorem dX12_take_59 : decode cX12_take 59 = .ok (.aload_n 3, 1) := by decide +kernel
theorem dX12_take_60 : decode cX12_take 60 = .ok (.putfield 25, 3) := by decide +kernel
theorem dX12_take_63 : decode cX12_take 63 = .ok (.iload_n 1, 1) := by decide +kernel
theorem dX12_take_64 : decode cX12_take 64 = .ok (.ifCond .ne 8, 3) := by decide +kernel
theorem dX12_take_67 : decode cX12_take 67 = .ok (.aload_n 0, 1) := by decide +kernel
theorem dX12_take_68 : decode cX12_take 68 = .ok (.iconst 0, 1) := by decide +kernel
theorem dX12_take_69 : decode cX12_take 69 = .ok (.putfield 39, 3) := by decide +kernel
theorem dX12_take_72 : decode cX12_take 72 = .ok (.aload_n 2, 1) := by decide +kernel
theorem dX12_take_73 : decode cX12_take 73 = .ok (.areturn, 1) := by decide +kernel
theorem dX12_move_0 : decode cX12_move 0 = .ok (.aload_n 0, 1) := by decide +kernel
theorem dX12_move_1 : decode cX12_move 1 = .ok (.getfield 22, 3) := by decide +kernel
theorem dX12_move_4 : decode cX12_move 4 = .ok (.arraylength, 1) := by decide +kernel
theorem dX12_move_5 : decode cX12_move 5 = .ok (.newarray .int, 2) := by decide +kernel
theorem dX12_move_7 : decode cX12_move 7 = .ok (.astore_n 3, 1) := by decide +kernel
theorem dX12_move_8 : decode cX12_move 8 = .ok (.iconst 0, 1) := by decide +kernel
theorem dX12_move_9 : decode cX12_move 9 = .ok (.istore 4, 2) := by decide +kernel
theorem dX12_move_11 : decode cX12_move 11 = .ok (.iconst 0, 1) := by decide +kernel
theorem dX12_move_12 : decode cX12_move 12 = .ok (.istore 5, 2) := by decide +kernel
theorem dX12_move_14 : decode cX12_move 14 = .ok (.iload 5, 2) := by decide +kernel
theorem dX12_move_16 : decode cX12_move 16 = .ok (.aload_n 0, 1) := by decide +kernel
theorem dX12_move_17 : decode cX12_move 17 = .ok (.getfield 22, 3) := by decide +kernel
theorem dX12_move_20 : decode cX12_move 20 = .ok (.arraylength, 1) := by decide +kernel
theorem dX12_move_21 : decode cX12_move 21 = .ok (.if_icmp .ge 51, 3) := by decide +kernel
theorem dX12_move_24 : decode cX12_move 24 = .ok (.iload 5, 2) := by decide +kernel
theorem dX12_move_26 : decode cX12_move 26 = .ok (.iload_n 2, 1) := by decide +kernel
theorem dX12_move_27 : decode cX12_move 27 = .ok (.if_icmp .ne 11, 3) := by decide +kernel
theorem dX12_move_30 : decode cX12_move 30 = .ok (.aload_n 3, 1) := by decide +kernel
theorem dX12_move_31 : decode cX12_move 31 = .ok (.iload 5, 2) := by decide +kernel
theorem dX12_move_33 : decode cX12_move 33 = .ok (.iload_n 1, 1) := by decide +kernel
theorem dX12_move_34 : decode cX12_move 34 = .ok (.iastore, 1) := by decide +kernel
theorem dX12_move_35 : decode cX12_move 35 = .ok (.goto 31, 3) := by decide +kernel
theorem dX12_move_38 : decode cX12_move 38 = .ok (.aload_n 0, 1) := by decide +kernel
theorem dX12_move_39 : decode cX12_move 39 = .ok (.getfield 22, 3) := by decide +kernel
theorem dX12_move_42 : decode cX12_move 42 = .ok (.iload 4, 2) := by decide +kernel
theorem dX12_move_44 : decode cX12_move 44 = .ok (.iaload, 1) := by decide +kernel
theorem dX12_move_45 : decode cX12_move 45 = .ok (.iload_n 1, 1) := by decide +kernel
theorem dX12_move_46 : decode cX12_move 46 = .ok (.if_icmp .ne 6, 3) := by decide +kernel
theorem dX12_move_49 : decode cX12_move 49 = .ok (.iinc 4 1, 3) := by decide +kernel
theorem dX12_move_52 : decode cX12_move 52 = .ok (.aload_n 3, 1) := by decide +kernel
theorem dX12_move_53 : decode cX12_move 53 = .ok (.iload 5, 2) := by decide +kernel
theorem dX12_move_55 : decode cX12_move 55 = .ok (.aload_n 0, 1) := by decide +kernel
theorem dX12_move_56 : decode cX12_move 56 = .ok (.getfield 22, 3) := by decide +kernel
theorem dX12_move_59 : decode cX12_move 59 = .ok (.iload 4, 2) := by decide +kernel
theorem dX12_move_61 : decode cX12_move 61 = .ok (.iaload, 1) := by decide +kernel
theorem dX12_move_62 : decode cX12_move 62 = .ok (.iastore, 1) := by decide +kernel
theorem dX12_move_63 : decode cX12_move 63 = .ok (.iinc 4 1, 3) := by decide +kernel
theorem dX12_move_66 : decode cX12_move 66 = .ok (.iinc 5 1, 3) := by decide +kernel
theorem dX12_move_69 : decode cX12_move 69 = .ok (.goto (-55), 3) := by decide +kernel
theorem dX12_move_72 : decode cX12_move 72 = .ok (.aload_n 0, 1) := by decide +kernel
theorem dX12_move_73 : decode cX12_move 73 = .ok (.aload_n 3, 1) := by decide +kernel
theorem dX12_move_74 : decode cX12_move 74 = .ok (.putfield 22, 3) := by decide +kernel
theorem dX12_move_77 : decode cX12_move 77 = .ok (.return_, 1) := by decide +kernel
theorem dX12_pass_0 : decode cX12_pass 0 = .ok (.aload_n 0, 1) := by decide +kernel
theorem dX12_pass_1 : decode cX12_pass 1 = .ok (.getfield 30, 3) := by decide +kernel
theorem dX12_pass_4 : decode cX12_pass 4 = .ok (.astore_n 1, 1) := by decide +kernel
theorem dX12_pass_5 : decode cX12_pass 5 = .ok (.aload_n 1, 1) := by decide +kernel
theorem dX12_pass_6 : decode cX12_pass 6 = .ok (.arraylength, 1) := by decide +kernel
theorem dX12_pass_7 : decode cX12_pass 7 = .ok (.istore_n 2, 1) := by decide +kernel
theorem dX12_pass_8 : decode cX12_pass 8 = .ok (.iconst 0, 1) := by decide +kernel
theorem dX12_pass_9 : decode cX12_pass 9 = .ok (.istore_n 3, 1) := by decide +kernel
theorem dX12_pass_10 : decode cX12_pass 10 = .ok (.iload_n 3, 1) := by decide +kernel
theorem dX12_pass_11 : decode cX12_pass 11 = .ok (.iload_n 2, 1) := by decide +kernel
theorem dX12_pass_12 : decode cX12_pass 12 = .ok (.if_icmp .ge 20, 3) := by decide +kernel
theorem dX12_pass_15 : decode cX12_pass 15 = .ok (.aload_n 1, 1) := by decide +kernel
theorem dX12_pass_16 : decode cX12_pass 16 = .ok (.iload_n 3, 1) := by decide +kernel
theorem dX12_pass_17 : decode cX12_pass 17 = .ok (.aaload, 1) := by decide +kernel
theorem dX12_pass_18 : decode cX12_pass 18 = .ok (.astore 4, 2) := by decide +kernel
theorem dX12_pass_20 : decode cX12_pass 20 = .ok (.aload 4, 2) := by decide +kernel
theorem dX12_pass_22 : decode cX12_pass 22 = .ok (.aload_n 0, 1) := by decide +kernel
theorem dX12_pass_23 : decode cX12_pass 23 = .ok (.invokevirtual 68, 3) := by decide +kernel
theorem dX12_pass_26 : decode cX12_pass 26 = .ok (.iinc 3 1, 3) := by decide +kernel
theorem dX12_pass_29 : decode cX12_pass 29 = .ok (.goto (-19), 3) := by decide +kernel
theorem dX12_pass_32 : decode cX12_pass 32 = .ok (.aload_n 0, 1) := by decide +kernel
theorem dX12_pass_33 : decode cX12_pass 33 = .ok (.dup, 1) := by decide +kernel
theorem dX12_pass_34 : decode cX12_pass 34 = .ok (.getfield 42, 3) := by decide +kernel
theorem dX12_pass_37 : decode cX12_pass 37 = .ok (.iconst 1, 1) := by decide +kernel
theorem dX12_pass_38 : decode cX12_pass 38 = .ok (.iadd, 1) := by decide +kernel
theorem dX12_pass_39 : decode cX12_pass 39 = .ok (.putfield 42, 3) := by decide +kernel
theorem dX12_pass_42 : decode cX12_pass 42 = .ok (.aload_n 0, 1) := by decide +kernel
theorem dX12_pass_43 : decode cX12_pass 43 = .ok (.getfield 25, 3) := by decide +kernel
theorem dX12_pass_46 : decode cX12_pass 46 = .ok (.arraylength, 1) := by decide +kernel
theorem dX12_pass_47 : decode cX12_pass 47 = .ok (.ifCond .ne 5, 3) := by decide +kernel
theorem dX12_pass_50 : decode cX12_pass 50 = .ok (.iconst 0, 1) := by decide +kernel
theorem dX12_pass_51 : decode cX12_pass 51 = .ok (.ireturn, 1) := by decide +kernel
theorem dX12_pass_52 : decode cX12_pass 52 = .ok (.aload_n 0, 1) := by decide +kernel
theorem dX12_pass_53 : decode cX12_pass 53 = .ok (.getfield 18, 3) := by decide +kernel
theorem dX12_pass_56 : decode cX12_pass 56 = .ok (.aload_n 0, 1) := by decide +kernel
theorem dX12_pass_57 : decode cX12_pass 57 = .ok (.getfield 25, 3) := by decide +kernel
theorem dX12_pass_60 : decode cX12_pass 60 = .ok (.iconst 0, 1) := by decide +kernel
theorem dX12_pass_61 : decode cX12_pass 61 = .ok (.aaload, 1) := by decide +kernel
theorem dX12_pass_62 : decode cX12_pass 62 = .ok (.iconst 1, 1) := by decide +kernel
theorem dX12_pass_63 : decode cX12_pass 63 = .ok (.iaload, 1) := by decide +kernel
theorem dX12_pass_64 : decode cX12_pass 64 = .ok (.aaload, 1) := by decide +kernel
theorem dX12_pass_65 : decode cX12_pass 65 = .ok (.astore_n 1, 1) := by decide +kernel
theorem dX12_pass_66 : decode cX12_pass 66 = .ok (.aload_n 0, 1) := by decide +kernel
theorem dX12_pass_67 : decode cX12_pass 67 = .ok (.getfield 39, 3) := by decide +kernel
theorem dX12_pass_70 : decode cX12_pass 70 = .ok (.ifCond .ne 59, 3) := by decide +kernel
theorem dX12_pass_73 : decode cX12_pass 73 = .ok (.aload_n 0, 1) := by decide +kernel
theorem dX12_pass_74 : decode cX12_pass 74 = .ok (.aload_n 0, 1) := by decide +kernel
theorem dX12_pass_75 : decode cX12_pass 75 = .ok (.getfield 25, 3) := by decide +kernel
theorem dX12_pass_78 : decode cX12_pass 78 = .ok (.iconst 0, 1) := by decide +kernel
theorem dX12_pass_79 : decode cX12_pass 79 = .ok (.aaload, 1) := by decide +kernel
theorem dX12_pass_80 : decode cX12_pass 80 = .ok (.iconst 0, 1) := by decide +kernel
theorem dX12_pass_81 : decode cX12_pass 81 = .ok (.iaload, 1) := by decide +kernel
theorem dX12_pass_82 : decode cX12_pass 82 = .ok (.ifCond .ne 17, 3) := by decide +kernel
theorem dX12_pass_85 : decode cX12_pass 85 = .ok (.iconst 1, 1) := by decide +kernel
theorem dX12_pass_86 : decode cX12_pass 86 = .ok (.bipush 100, 2) := by decide +kernel
theorem dX12_pass_88 : decode cX12_pass 88 = .ok (.aload_n 1, 1) := by decide +kernel
theorem dX12_pass_89 : decode cX12_pass 89 = .ok (.iconst 0, 1) := by decide +kernel
theorem dX12_pass_90 : decode cX12_pass 90 = .ok (.iaload, 1) := by decide +kernel
theorem dX12_pass_91 : decode cX12_pass 91 = .ok (.isub, 1) := by decide +kernel
theorem dX12_pass_92 : decode cX12_pass 92 = .ok (.bipush 10, 2) := by decide +kernel
theorem dX12_pass_94 : decode cX12_pass 94 = .ok (.idiv, 1) := by decide +kernel
theorem dX12_pass_95 : decode cX12_pass 95 = .ok (.iadd, 1) := by decide +kernel
theorem dX12_pass_96 : decode cX12_pass 96 = .ok (.goto 30, 3) := by decide +kernel
theorem dX12_pass_99 : decode cX12_pass 99 = .ok (.aload_n 0, 1) := by decide +kernel
theorem dX12_pass_100 : decode cX12_pass 100 = .ok (.getfield 25, 3) := by decide +kernel
theorem dX12_pass_103 : decode cX12_pass 103 = .ok (.iconst 0, 1) := by decide +kernel
theorem dX12_pass_104 : decode cX12_pass 104 = .ok (.aaload, 1) := by decide +kernel
theorem dX12_pass_105 : decode cX12_pass 105 = .ok (.iconst 0, 1) := by decide +kernel
theorem dX12_pass_106 : decode cX12_pass 106 = .ok (.iaload, 1) := by decide +kernel
theorem dX12_pass_107 : decode cX12_pass 107 = .ok (.iconst 1, 1) := by decide +kernel
theorem dX12_pass_108 : decode cX12_pass 108 = .ok (.if_icmp .ne 16, 3) := by decide +kernel
theorem dX12_pass_111 : decode cX12_pass 111 = .ok (.iconst 1, 1) := by decide +kernel
theorem dX12_pass_112 : decode cX12_pass 112 = .ok (.aload_n 1, 1) := by decide +kernel
theorem dX12_pass_113 : decode cX12_pass 113 = .ok (.iconst 2, 1) := by decide +kernel
theorem dX12_pass_114 : decode cX12_pass 114 = .ok (.iaload, 1) := by decide +kernel
theorem dX12_pass_115 : decode cX12_pass 115 = .ok (.invokestatic 63, 3) := by decide +kernel
theorem dX12_pass_118 : decode cX12_pass 118 = .ok (.iconst 5, 1) := by decide +kernel
theorem dX12_pass_119 : decode cX12_pass 119 = .ok (.idiv, 1) := by decide +kernel
theorem dX12_pass_120 : decode cX12_pass 120 = .ok (.iadd, 1) := by decide +kernel
theorem dX12_pass_121 : decode cX12_pass 121 = .ok (.goto 5, 3) := by decide +kernel
theorem dX12_pass_124 : decode cX12_pass 124 = .ok (.bipush 20, 2) := by decide +kernel
theorem dX12_pass_126 : decode cX12_pass 126 = .ok (.putfield 39, 3) := by decide +kernel
theorem dX12_pass_129 : decode cX12_pass 129 = .ok (.aload_n 0, 1) := by decide +kernel
theorem dX12_pass_130 : decode cX12_pass 130 = .ok (.dup, 1) := by decide +kernel
theorem dX12_pass_131 : decode cX12_pass 131 = .ok (.getfield 39, 3) := by decide +kernel
theorem dX12_pass_134 : decode cX12_pass 134 = .ok (.iconst 1, 1) := by decide +kernel
theorem dX12_pass_135 : decode cX12_pass 135 = .ok (.isub, 1) := by decide +kernel
theorem dX12_pass_136 : decode cX12_pass 136 = .ok (.putfield 39, 3) := by decide +kernel
theorem dX12_pass_139 : decode cX12_pass 139 = .ok (.aload_n 0, 1) := by decide +kernel
theorem dX12_pass_140 : decode cX12_pass 140 = .ok (.getfield 39, 3) := by decide +kernel
theorem dX12_pass_143 : decode cX12_pass 143 = .ok (.ifCond .le 5, 3) := by decide +kernel
theorem dX12_pass_146 : decode cX12_pass 146 = .ok (.iconst 0, 1) := by decide +kernel
theorem dX12_pass_147 : decode cX12_pass 147 = .ok (.ireturn, 1) := by decide +kernel
theorem dX12_pass_148 : decode cX12_pass 148 = .ok (.aload_n 0, 1) := by decide +kernel
theorem dX12_pass_149 : decode cX12_pass 149 = .ok (.iconst 0, 1) := by decide +kernel
theorem dX12_pass_150 : decode cX12_pass 150 = .ok (.invokevirtual 72, 3) := by decide +kernel
theorem dX12_pass_153 : decode cX12_pass 153 = .ok (.astore_n 2, 1) := by decide +kernel
theorem dX12_pass_154 : decode cX12_pass 154 = .ok (.aload_n 0, 1) := by decide +kernel
theorem dX12_pass_155 : decode cX12_pass 155 = .ok (.dup, 1) := by decide +kernel
theorem dX12_pass_156 : decode cX12_pass 156 = .ok (.getfield 45, 3) := by decide +kernel
theorem dX12_pass_159 : decode cX12_pass 159 = .ok (.iconst 1, 1) := by decide +kernel
theorem dX12_pass_160 : decode cX12_pass 160 = .ok (.iadd, 1) := by decide +kernel
theorem dX12_pass_161 : decode cX12_pass 161 = .ok (.putfield 45, 3) := by decide +kernel
theorem dX12_pass_164 : decode cX12_pass 164 = .ok (.aload_n 2, 1) := by decide +kernel
theorem dX12_pass_165 : decode cX12_pass 165 = .ok (.iconst 0, 1) := by decide +kernel
theorem dX12_pass_166 : decode cX12_pass 166 = .ok (.iaload, 1) := by decide +kernel
theorem dX12_pass_167 : decode cX12_pass 167 = .ok (.ifCond .ne 34, 3) := by decide +kernel
theorem dX12_pass_170 : decode cX12_pass 170 = .ok (.aload_n 1, 1) := by decide +kernel
theorem dX12_pass_171 : decode cX12_pass 171 = .ok (.iconst 0, 1) := by decide +kernel
theorem dX12_pass_172 : decode cX12_pass 172 = .ok (.iaload, 1) := by decide +kernel
theorem dX12_pass_173 : decode cX12_pass 173 = .ok (.aload_n 1, 1) := by decide +kernel
theorem dX12_pass_174 : decode cX12_pass 174 = .ok (.iconst 1, 1) := by decide +kernel
theorem dX12_pass_175 : decode cX12_pass 175 = .ok (.iaload, 1) := by decide +kernel
theorem dX12_pass_176 : decode cX12_pass 176 = .ok (.if_icmp .ge 9, 3) := by decide +kernel
theorem dX12_pass_179 : decode cX12_pass 179 = .ok (.aload_n 1, 1) := by decide +kernel
theorem dX12_pass_180 : decode cX12_pass 180 = .ok (.iconst 0, 1) := by decide +kernel
theorem dX12_pass_181 : decode cX12_pass 181 = .ok (.aload_n 1, 1) := by decide +kernel
theorem dX12_pass_182 : decode cX12_pass 182 = .ok (.iconst 1, 1) := by decide +kernel
theorem dX12_pass_183 : decode cX12_pass 183 = .ok (.iaload, 1) := by decide +kernel
theorem dX12_pass_184 : decode cX12_pass 184 = .ok (.iastore, 1) := by decide +kernel
theorem dX12_pass_185 : decode cX12_pass 185 = .ok (.aload_n 1, 1) := by decide +kernel
theorem dX12_pass_186 : decode cX12_pass 186 = .ok (.iconst 1, 1) := by decide +kernel
theorem dX12_pass_187 : decode cX12_pass 187 = .ok (.iaload, 1) := by decide +kernel
theorem dX12_pass_188 : decode cX12_pass 188 = .ok (.ifCond .le 17, 3) := by decide +kernel
theorem dX12_pass_191 : decode cX12_pass 191 = .ok (.aload_n 1, 1) := by decide +kernel
theorem dX12_pass_192 : decode cX12_pass 192 = .ok (.iconst 1, 1) := by decide +kernel
theorem dX12_pass_193 : decode cX12_pass 193 = .ok (.dup2, 1) := by decide +kernel
theorem dX12_pass_194 : decode cX12_pass 194 = .ok (.iaload, 1) := by decide +kernel
theorem dX12_pass_195 : decode cX12_pass 195 = .ok (.iconst 1, 1) := by decide +kernel
theorem dX12_pass_196 : decode cX12_pass 196 = .ok (.isub, 1) := by decide +kernel
theorem dX12_pass_197 : decode cX12_pass 197 = .ok (.iastore, 1) := by decide +kernel
theorem dX12_pass_198 : decode cX12_pass 198 = .ok (.goto 7, 3) := by decide +kernel
theorem dX12_pass_201 : decode cX12_pass 201 = .ok (.aload_n 1, 1) := by decide +kernel
theorem dX12_pass_202 : decode cX12_pass 202 = .ok (.iconst 2, 1) := by decide +kernel
theorem dX12_pass_203 : decode cX12_pass 203 = .ok (.iconst 0, 1) := by decide +kernel
theorem dX12_pass_204 : decode cX12_pass 204 = .ok (.iastore, 1) := by decide +kernel
theorem dX12_pass_205 : decode cX12_pass 205 = .ok (.aload_n 2, 1) := by decide +kernel
theorem dX12_pass_206 : decode cX12_pass 206 = .ok (.iconst 0, 1) := by decide +kernel
theorem dX12_pass_207 : decode cX12_pass 207 = .ok (.iaload, 1) := by decide +kernel
theorem dX12_pass_208 : decode cX12_pass 208 = .ok (.iconst 2, 1) := by decide +kernel
theorem dX12_pass_209 : decode cX12_pass 209 = .ok (.if_icmp .ne 13, 3) := by decide +kernel
theorem dX12_pass_212 : decode cX12_pass 212 = .ok (.aload_n 1, 1) := by decide +kernel
theorem dX12_pass_213 : decode cX12_pass 213 = .ok (.iconst 0, 1) := by decide +kernel
theorem dX12_pass_214 : decode cX12_pass 214 = .ok (.bipush 100, 2) := by decide +kernel
theorem dX12_pass_216 : decode cX12_pass 216 = .ok (.iastore, 1) := by decide +kernel
theorem dX12_pass_217 : decode cX12_pass 217 = .ok (.aload_n 1, 1) := by decide +kernel
theorem dX12_pass_218 : decode cX12_pass 218 = .ok (.iconst 1, 1) := by decide +kernel
theorem dX12_pass_219 : decode cX12_pass 219 = .ok (.bipush 100, 2) := by decide +kernel
theorem dX12_pass_221 : decode cX12_pass 221 = .ok (.iastore, 1) := by decide +kernel
theorem dX12_pass_222 : decode cX12_pass 222 = .ok (.iconst 1, 1) := by decide +kernel
theorem dX12_pass_223 : decode cX12_pass 223 = .ok (.ireturn, 1) := by decide +kernel
theorem dX12_pass__0 : decode cX12_pass_ 0 = .ok (.iconst 0, 1) := by decide +kernel
theorem dX12_pass__1 : decode cX12_pass_ 1 = .ok (.istore_n 2, 1) := by decide +kernel
theorem dX12_pass__2 : decode cX12_pass_ 2 = .ok (.iconst 0, 1) := by decide +kernel
theorem dX12_pass__3 : decode cX12_pass_ 3 = .ok (.istore_n 3, 1) := by decide +kernel
theorem dX12_pass__4 : decode cX12_pass_ 4 = .ok (.iload_n 3, 1) := by decide +kernel
theorem dX12_pass__5 : decode cX12_pass_ 5 = .ok (.iload_n 1, 1) := by decide +kernel
theorem dX12_pass__6 : decode cX12_pass_ 6 = .ok (.if_icmp .ge 16, 3) := by decide +kernel
theorem dX12_pass__9 : decode cX12_pass_ 9 = .ok (.iload_n 2, 1) := by decide +kernel
theorem dX12_pass__10 : decode cX12_pass_ 10 = .ok (.aload_n 0, 1) := by decide +kernel
theorem dX12_pass__11 : decode cX12_pass_ 11 = .ok (.invokevirtual 76, 3) := by decide +kernel
theorem dX12_pass__14 : decode cX12_pass_ 14 = .ok (.iadd, 1) := by decide +kernel
theorem dX12_pass__15 : decode cX12_pass_ 15 = .ok (.istore_n 2, 1) := by decide +kernel
theorem dX12_pass__16 : decode cX12_pass_ 16 = .ok (.iinc 3 1, 3) := by decide +kernel
theorem dX12_pass__19 : decode cX12_pass_ 19 = .ok (.goto (-15), 3) := by decide +kernel
theorem dX12_pass__22 : decode cX12_pass_ 22 = .ok (.iload_n 2, 1) := by decide +kernel
theorem dX12_pass__23 : decode cX12_pass_ 23 = .ok (.ireturn, 1) := by decide +kernel
theorem dX12_isSame_0 : decode cX12_isSame 0 = .ok (.iconst 0, 1) := by decide +kernel
theorem dX12_isSame_1 : decode cX12_isSame 1 = .ok (.istore_n 2, 1) := by decide +kernel
theorem dX12_isSame_2 : decode cX12_isSame 2 = .ok (.iconst (-1), 1) := by decide +kernel
theorem dX12_isSame_3 : decode cX12_isSame 3 = .ok (.istore_n 3, 1) := by decide +kernel
theorem dX12_isSame_4 : decode cX12_isSame 4 = .ok (.iconst (-1), 1) := by decide +kernel
theorem dX12_isSame_5 : decode cX12_isSame 5 = .ok (.istore 4, 2) := by decide +kernel
theorem dX12_isSame_7 : decode cX12_isSame 7 = .ok (.iconst 0, 1) := by decide +kernel
theorem dX12_isSame_8 : decode cX12_isSame 8 = .ok (.istore 5, 2) := by decide +kernel
theorem dX12_isSame_10 : decode cX12_isSame 10 = .ok (.iload 5, 2) := by decide +kernel
theorem dX12_isSame_12 : decode cX12_isSame 12 = .ok (.aload_n 0, 1) := by decide +kernel
theorem dX12_isSame_13 : decode cX12_isSame 13 = .ok (.getfield 22, 3) := by decide +kernel
theorem dX12_isSame_16 : decode cX12_isSame 16 = .ok (.arraylength, 1) := by decide +kernel
theorem dX12_isSame_17 : decode cX12_isSame 17 = .ok (.if_icmp .ge 195, 3) := by decide +kernel
theorem dX12_isSame_20 : decode cX12_isSame 20 = .ok (.aload_n 0, 1) := by decide +kernel
theorem dX12_isSame_21 : decode cX12_isSame 21 = .ok (.getfield 22, 3) := by decide +kernel
theorem dX12_isSame_24 : decode cX12_isSame 24 = .ok (.iload 5, 2) := by decide +kernel
theorem dX12_isSame_26 : decode cX12_isSame 26 = .ok (.iaload, 1) := by decide +kernel
theorem dX12_isSame_27 : decode cX12_isSame 27 = .ok (.istore 6, 2) := by decide +kernel
theorem dX12_isSame_29 : decode cX12_isSame 29 = .ok (.aload_n 0, 1) := by decide +kernel
theorem dX12_isSame_30 : decode cX12_isSame 30 = .ok (.getfield 18, 3) := by decide +kernel
theorem dX12_isSame_33 : decode cX12_isSame 33 = .ok (.iload 6, 2) := by decide +kernel
theorem dX12_isSame_35 : decode cX12_isSame 35 = .ok (.aaload, 1) := by decide +kernel
theorem dX12_isSame_36 : decode cX12_isSame 36 = .ok (.astore 7, 2) := by decide +kernel
theorem dX12_isSame_38 : decode cX12_isSame 38 = .ok (.aload_n 0, 1) := by decide +kernel
theorem dX12_isSame_39 : decode cX12_isSame 39 = .ok (.iload 5, 2) := by decide +kernel
theorem dX12_isSame_41 : decode cX12_isSame 41 = .ok (.invokevirtual 52, 3) := by decide +kernel
theorem dX12_isSame_44 : decode cX12_isSame 44 = .ok (.istore 8, 2) := by decide +kernel
theorem dX12_isSame_46 : decode cX12_isSame 46 = .ok (.aload_n 0, 1) := by decide +kernel
theorem dX12_isSame_47 : decode cX12_isSame 47 = .ok (.iload 5, 2) := by decide +kernel
theorem dX12_isSame_49 : decode cX12_isSame 49 = .ok (.iconst 1, 1) := by decide +kernel
theorem dX12_isSame_50 : decode cX12_isSame 50 = .ok (.iadd, 1) := by decide +kernel
theorem dX12_isSame_51 : decode cX12_isSame 51 = .ok (.invokevirtual 52, 3) := by decide +kernel
theorem dX12_isSame_54 : decode cX12_isSame 54 = .ok (.istore 9, 2) := by decide +kernel
theorem dX12_isSame_56 : decode cX12_isSame 56 = .ok (.aload_n 1, 1) := by decide +kernel
theorem dX12_isSame_57 : decode cX12_isSame 57 = .ok (.iload 5, 2) := by decide +kernel
theorem dX12_isSame_59 : decode cX12_isSame 59 = .ok (.invokevirtual 79, 3) := by decide +kernel
theorem dX12_isSame_62 : decode cX12_isSame 62 = .ok (.iload 6, 2) := by decide +kernel
theorem dX12_isSame_64 : decode cX12_isSame 64 = .ok (.if_icmp .ne 110, 3) := by decide +kernel
theorem dX12_isSame_67 : decode cX12_isSame 67 = .ok (.aload_n 1, 1) := by decide +kernel
theorem dX12_isSame_68 : decode cX12_isSame 68 = .ok (.iload 6, 2) := by decide +kernel
theorem dX12_isSame_70 : decode cX12_isSame 70 = .ok (.invokevirtual 84, 3) := by decide +kernel
theorem dX12_isSame_73 : decode cX12_isSame 73 = .ok (.iload 5, 2) := by decide +kernel
theorem dX12_isSame_75 : decode cX12_isSame 75 = .ok (.if_icmp .ne 99, 3) := by decide +kernel
theorem dX12_isSame_78 : decode cX12_isSame 78 = .ok (.aload_n 1, 1) := by decide +kernel
theorem dX12_isSame_79 : decode cX12_isSame 79 = .ok (.iload 6, 2) := by decide +kernel
theorem dX12_isSame_81 : decode cX12_isSame 81 = .ok (.invokevirtual 87, 3) := by decide +kernel
theorem dX12_isSame_84 : decode cX12_isSame 84 = .ok (.aload 7, 2) := by decide +kernel
theorem dX12_isSame_86 : decode cX12_isSame 86 = .ok (.iconst 0, 1) := by decide +kernel
theorem dX12_isSame_87 : decode cX12_isSame 87 = .ok (.iaload, 1) := by decide +kernel
theorem dX12_isSame_88 : decode cX12_isSame 88 = .ok (.if_icmp .ne 86, 3) := by decide +kernel
theorem dX12_isSame_91 : decode cX12_isSame 91 = .ok (.aload_n 1, 1) := by decide +kernel
theorem dX12_isSame_92 : decode cX12_isSame 92 = .ok (.iload 6, 2) := by decide +kernel
theorem dX12_isSame_94 : decode cX12_isSame 94 = .ok (.invokevirtual 90, 3) := by decide +kernel
theorem dX12_isSame_97 : decode cX12_isSame 97 = .ok (.aload 7, 2) := by decide +kernel
theorem dX12_isSame_99 : decode cX12_isSame 99 = .ok (.iconst 1, 1) := by decide +kernel
theorem dX12_isSame_100 : decode cX12_isSame 100 = .ok (.iaload, 1) := by decide +kernel
theorem dX12_isSame_101 : decode cX12_isSame 101 = .ok (.if_icmp .ne 73, 3) := by decide +kernel
theorem dX12_isSame_104 : decode cX12_isSame 104 = .ok (.aload_n 1, 1) := by decide +kernel
theorem dX12_isSame_105 : decode cX12_isSame 105 = .ok (.iload 6, 2) := by decide +kernel
theorem dX12_isSame_107 : decode cX12_isSame 107 = .ok (.invokevirtual 93, 3) := by decide +kernel
theorem dX12_isSame_110 : decode cX12_isSame 110 = .ok (.aload 7, 2) := by decide +kernel
theorem dX12_isSame_112 : decode cX12_isSame 112 = .ok (.iconst 2, 1) := by decide +kernel
theorem dX12_isSame_113 : decode cX12_isSame 113 = .ok (.iaload, 1) := by decide +kernel
theorem dX12_isSame_114 : decode cX12_isSame 114 = .ok (.if_icmp .ne 60, 3) := by decide +kernel
theorem dX12_isSame_117 : decode cX12_isSame 117 = .ok (.aload_n 1, 1) := by decide +kernel
theorem dX12_isSame_118 : decode cX12_isSame 118 = .ok (.iload 6, 2) := by decide +kernel
theorem dX12_isSame_120 : decode cX12_isSame 120 = .ok (.invokevirtual 96, 3) := by decide +kernel
theorem dX12_isSame_123 : decode cX12_isSame 123 = .ok (.iload 9, 2) := by decide +kernel
theorem dX12_isSame_125 : decode cX12_isSame 125 = .ok (.if_icmp .ne 49, 3) := by decide +kernel
theorem dX12_isSame_128 : decode cX12_isSame 128 = .ok (.aload_n 1, 1) := by decide +kernel
theorem dX12_isSame_129 : decode cX12_isSame 129 = .ok (.iload 6, 2) := by decide +kernel
theorem dX12_isSame_131 : decode cX12_isSame 131 = .ok (.invokevirtual 99, 3) := by decide +kernel
theorem dX12_isSame_134 : decode cX12_isSame 134 = .ok (.iload 8, 2) := by decide +kernel
theorem dX12_isSame_136 : decode cX12_isSame 136 = .ok (.iload 9, 2) := by decide +kernel
theorem dX12_isSame_138 : decode cX12_isSame 138 = .ok (.isub, 1) := by decide +kernel
theorem dX12_isSame_139 : decode cX12_isSame 139 = .ok (.if_icmp .ne 35, 3) := by decide +kernel
theorem dX12_isSame_142 : decode cX12_isSame 142 = .ok (.aload_n 1, 1) := by decide +kernel
theorem dX12_isSame_143 : decode cX12_isSame 143 = .ok (.iload 6, 2) := by decide +kernel
theorem dX12_isSame_145 : decode cX12_isSame 145 = .ok (.invokevirtual 102, 3) := by decide +kernel
theorem dX12_isSame_148 : decode cX12_isSame 148 = .ok (.aload_n 0, 1) := by decide +kernel
theorem dX12_isSame_149 : decode cX12_isSame 149 = .ok (.iload 5, 2) := by decide +kernel
theorem dX12_isSame_151 : decode cX12_isSame 151 = .ok (.iconst 1, 1) := by decide +kernel
theorem dX12_isSame_152 : decode cX12_isSame 152 = .ok (.iadd, 1) := by decide +kernel
theorem dX12_isSame_153 : decode cX12_isSame 153 = .ok (.invokevirtual 60, 3) := by decide +kernel
theorem dX12_isSame_156 : decode cX12_isSame 156 = .ok (.if_icmp .ne 18, 3) := by decide +kernel
theorem dX12_isSame_159 : decode cX12_isSame 159 = .ok (.aload_n 1, 1) := by decide +kernel
theorem dX12_isSame_160 : decode cX12_isSame 160 = .ok (.iload 6, 2) := by decide +kernel
theorem dX12_isSame_162 : decode cX12_isSame 162 = .ok (.invokevirtual 105, 3) := by decide +kernel
theorem dX12_isSame_165 : decode cX12_isSame 165 = .ok (.aload_n 0, 1) := by decide +kernel
theorem dX12_isSame_166 : decode cX12_isSame 166 = .ok (.iload 6, 2) := by decide +kernel
theorem dX12_isSame_168 : decode cX12_isSame 168 = .ok (.invokevirtual 48, 3) := by decide +kernel
theorem dX12_isSame_171 : decode cX12_isSame 171 = .ok (.if_icmp .eq 5, 3) := by decide +kernel
theorem dX12_isSame_174 : decode cX12_isSame 174 = .ok (.iconst 0, 1) := by decide +kernel
theorem dX12_isSame_175 : decode cX12_isSame 175 = .ok (.ireturn, 1) := by decide +kernel
theorem dX12_isSame_176 : decode cX12_isSame 176 = .ok (.iload_n 2, 1) := by decide +kernel
theorem dX12_isSame_177 : decode cX12_isSame 177 = .ok (.aload 7, 2) := by decide +kernel
theorem dX12_isSame_179 : decode cX12_isSame 179 = .ok (.iconst 0, 1) := by decide +kernel
theorem dX12_isSame_180 : decode cX12_isSame 180 = .ok (.iaload, 1) := by decide +kernel
theorem dX12_isSame_181 : decode cX12_isSame 181 = .ok (.iadd, 1) := by decide +kernel
theorem dX12_isSame_182 : decode cX12_isSame 182 = .ok (.istore_n 2, 1) := by decide +kernel
theorem dX12_isSame_183 : decode cX12_isSame 183 = .ok (.iload 8, 2) := by decide +kernel
theorem dX12_isSame_185 : decode cX12_isSame 185 = .ok (.iload 9, 2) := by decide +kernel
theorem dX12_isSame_187 : decode cX12_isSame 187 = .ok (.isub, 1) := by decide +kernel
theorem dX12_isSame_188 : decode cX12_isSame 188 = .ok (.iload 4, 2) := by decide +kernel
theorem dX12_isSame_190 : decode cX12_isSame 190 = .ok (.if_icmp .gt 6, 3) := by decide +kernel
theorem dX12_isSame_193 : decode cX12_isSame 193 = .ok (.goto 13, 3) := by decide +kernel
theorem dX12_isSame_196 : decode cX12_isSame 196 = .ok (.iload 8, 2) := by decide +kernel
theorem dX12_isSame_198 : decode cX12_isSame 198 = .ok (.iload 9, 2) := by decide +kernel
theorem dX12_isSame_200 : decode cX12_isSame 200 = .ok (.isub, 1) := by decide +kernel
theorem dX12_isSame_201 : decode cX12_isSame 201 = .ok (.istore 4, 2) := by decide +kernel
theorem dX12_isSame_203 : decode cX12_isSame 203 = .ok (.iload 6, 2) := by decide +kernel
theorem dX12_isSame_205 : decode cX12_isSame 205 = .ok (.istore_n 3, 1) := by decide +kernel
theorem dX12_isSame_206 : decode cX12_isSame 206 = .ok (.iinc 5 1, 3) := by decide +kernel
theorem dX12_isSame_209 : decode cX12_isSame 209 = .ok (.goto (-199), 3) := by decide +kernel
theorem dX12_isSame_212 : decode cX12_isSame 212 = .ok (.iconst 0, 1) := by decide +kernel
theorem dX12_isSame_213 : decode cX12_isSame 213 = .ok (.istore 5, 2) := by decide +kernel
theorem dX12_isSame_215 : decode cX12_isSame 215 = .ok (.iload 5, 2) := by decide +kernel
theorem dX12_isSame_217 : decode cX12_isSame 217 = .ok (.aload_n 0, 1) := by decide +kernel
theorem dX12_isSame_218 : decode cX12_isSame 218 = .ok (.getfield 25, 3) := by decide +kernel
theorem dX12_isSame_221 : decode cX12_isSame 221 = .ok (.arraylength, 1) := by decide +kernel
theorem dX12_isSame_222 : decode cX12_isSame 222 = .ok (.if_icmp .ge 47, 3) := by decide +kernel
theorem dX12_isSame_225 : decode cX12_isSame 225 = .ok (.aload_n 1, 1) := by decide +kernel
theorem dX12_isSame_226 : decode cX12_isSame 226 = .ok (.iload 5, 2) := by decide +kernel
theorem dX12_isSame_228 : decode cX12_isSame 228 = .ok (.invokevirtual 106, 3) := by decide +kernel
theorem dX12_isSame_231 : decode cX12_isSame 231 = .ok (.aload_n 0, 1) := by decide +kernel
theorem dX12_isSame_232 : decode cX12_isSame 232 = .ok (.getfield 25, 3) := by decide +kernel
theorem dX12_isSame_235 : decode cX12_isSame 235 = .ok (.iload 5, 2) := by decide +kernel
theorem dX12_isSame_237 : decode cX12_isSame 237 = .ok (.aaload, 1) := by decide +kernel
theorem dX12_isSame_238 : decode cX12_isSame 238 = .ok (.iconst 0, 1) := by decide +kernel
theorem dX12_isSame_239 : decode cX12_isSame 239 = .ok (.iaload, 1) := by decide +kernel
theorem dX12_isSame_240 : decode cX12_isSame 240 = .ok (.if_icmp .ne 21, 3) := by decide +kernel
theorem dX12_isSame_243 : decode cX12_isSame 243 = .ok (.aload_n 1, 1) := by decide +kernel
theorem dX12_isSame_244 : decode cX12_isSame 244 = .ok (.iload 5, 2) := by decide +kernel
theorem dX12_isSame_246 : decode cX12_isSame 246 = .ok (.invokevirtual 109, 3) := by decide +kernel
theorem dX12_isSame_249 : decode cX12_isSame 249 = .ok (.aload_n 0, 1) := by decide +kernel
theorem dX12_isSame_250 : decode cX12_isSame 250 = .ok (.getfield 25, 3) := by decide +kernel
theorem dX12_isSame_253 : decode cX12_isSame 253 = .ok (.iload 5, 2) := by decide +kernel
theorem dX12_isSame_255 : decode cX12_isSame 255 = .ok (.aaload, 1) := by decide +kernel
theorem dX12_isSame_256 : decode cX12_isSame 256 = .ok (.iconst 1, 1) := by decide +kernel
theorem dX12_isSame_257 : decode cX12_isSame 257 = .ok (.iaload, 1) := by decide +kernel
theorem dX12_isSame_258 : decode cX12_isSame 258 = .ok (.if_icmp .eq 5, 3) := by decide +kernel
theorem dX12_isSame_261 : decode cX12_isSame 261 = .ok (.iconst 0, 1) := by decide +kernel
theorem dX12_isSame_262 : decode cX12_isSame 262 = .ok (.ireturn, 1) := by decide +kernel
theorem dX12_isSame_263 : decode cX12_isSame 263 = .ok (.iinc 5 1, 3) := by decide +kernel
theorem dX12_isSame_266 : decode cX12_isSame 266 = .ok (.goto (-51), 3) := by decide +kernel
theorem dX12_isSame_269 : decode cX12_isSame 269 = .ok (.aload_n 1, 1) := by decide +kernel
theorem dX12_isSame_270 : decode cX12_isSame 270 = .ok (.invokevirtual 112, 3) := by decide +kernel
theorem dX12_isSame_273 : decode cX12_isSame 273 = .ok (.aload_n 0, 1) := by decide +kernel
theorem dX12_isSame_274 : decode cX12_isSame 274 = .ok (.getfield 22, 3) := by decide +kernel
theorem dX12_isSame_277 : decode cX12_isSame 277 = .ok (.arraylength, 1) := by decide +kernel
theorem dX12_isSame_278 : decode cX12_isSame 278 = .ok (.if_icmp .ne 150, 3) := by decide +kernel
theorem dX12_isSame_281 : decode cX12_isSame 281 = .ok (.aload_n 1, 1) := by decide +kernel
theorem dX12_isSame_282 : decode cX12_isSame 282 = .ok (.invokevirtual 114, 3) := by decide +kernel
theorem dX12_isSame_285 : decode cX12_isSame 285 = .ok (.aload_n 0, 1) := by decide +kernel
theorem dX12_isSame_286 : decode cX12_isSame 286 = .ok (.getfield 30, 3) := by decide +kernel
theorem dX12_isSame_289 : decode cX12_isSame 289 = .ok (.arraylength, 1) := by decide +kernel
theorem dX12_isSame_290 : decode cX12_isSame 290 = .ok (.if_icmp .ne 138, 3) := by decide +kernel
theorem dX12_isSame_293 : decode cX12_isSame 293 = .ok (.aload_n 1, 1) := by decide +kernel
theorem dX12_isSame_294 : decode cX12_isSame 294 = .ok (.invokevirtual 116, 3) := by decide +kernel
theorem dX12_isSame_297 : decode cX12_isSame 297 = .ok (.aload_n 0, 1) := by decide +kernel
theorem dX12_isSame_298 : decode cX12_isSame 298 = .ok (.getfield 42, 3) := by decide +kernel
theorem dX12_isSame_301 : decode cX12_isSame 301 = .ok (.if_icmp .ne 127, 3) := by decide +kernel
theorem dX12_isSame_304 : decode cX12_isSame 304 = .ok (.aload_n 1, 1) := by decide +kernel
theorem dX12_isSame_305 : decode cX12_isSame 305 = .ok (.invokevirtual 118, 3) := by decide +kernel
theorem dX12_isSame_308 : decode cX12_isSame 308 = .ok (.ifCond .ne 120, 3) := by decide +kernel
theorem dX12_isSame_311 : decode cX12_isSame 311 = .ok (.aload_n 1, 1) := by decide +kernel
theorem dX12_isSame_312 : decode cX12_isSame 312 = .ok (.invokevirtual 121, 3) := by decide +kernel
theorem dX12_isSame_315 : decode cX12_isSame 315 = .ok (.aload_n 0, 1) := by decide +kernel
theorem dX12_isSame_316 : decode cX12_isSame 316 = .ok (.invokevirtual 56, 3) := by decide +kernel
theorem dX12_isSame_319 : decode cX12_isSame 319 = .ok (.if_icmp .ne 109, 3) := by decide +kernel
theorem dX12_isSame_322 : decode cX12_isSame 322 = .ok (.aload_n 1, 1) := by decide +kernel
theorem dX12_isSame_323 : decode cX12_isSame 323 = .ok (.invokevirtual 124, 3) := by decide +kernel
theorem dX12_isSame_326 : decode cX12_isSame 326 = .ok (.aload_n 0, 1) := by decide +kernel
theorem dX12_isSame_327 : decode cX12_isSame 327 = .ok (.aload_n 0, 1) := by decide +kernel
theorem dX12_isSame_328 : decode cX12_isSame 328 = .ok (.getfield 22, 3) := by decide +kernel
theorem dX12_isSame_331 : decode cX12_isSame 331 = .ok (.arraylength, 1) := by decide +kernel
theorem dX12_isSame_332 : decode cX12_isSame 332 = .ok (.invokevirtual 60, 3) := by decide +kernel
theorem dX12_isSame_335 : decode cX12_isSame 335 = .ok (.if_icmp .ne 93, 3) := by decide +kernel
theorem dX12_isSame_338 : decode cX12_isSame 338 = .ok (.aload_n 1, 1) := by decide +kernel
theorem dX12_isSame_339 : decode cX12_isSame 339 = .ok (.invokevirtual 127, 3) := by decide +kernel
theorem dX12_isSame_342 : decode cX12_isSame 342 = .ok (.aload_n 0, 1) := by decide +kernel
theorem dX12_isSame_343 : decode cX12_isSame 343 = .ok (.invokevirtual 131, 3) := by decide +kernel
theorem dX12_isSame_346 : decode cX12_isSame 346 = .ok (.if_icmp .ne 82, 3) := by decide +kernel
theorem dX12_isSame_349 : decode cX12_isSame 349 = .ok (.aload_n 1, 1) := by decide +kernel
theorem dX12_isSame_350 : decode cX12_isSame 350 = .ok (.invokevirtual 132, 3) := by decide +kernel
theorem dX12_isSame_353 : decode cX12_isSame 353 = .ok (.aload_n 0, 1) := by decide +kernel
theorem dX12_isSame_354 : decode cX12_isSame 354 = .ok (.getfield 25, 3) := by decide +kernel
theorem dX12_isSame_357 : decode cX12_isSame 357 = .ok (.arraylength, 1) := by decide +kernel
theorem dX12_isSame_358 : decode cX12_isSame 358 = .ok (.if_icmp .ne 70, 3) := by decide +kernel
theorem dX12_isSame_361 : decode cX12_isSame 361 = .ok (.aload_n 1, 1) := by decide +kernel
theorem dX12_isSame_362 : decode cX12_isSame 362 = .ok (.invokevirtual 134, 3) := by decide +kernel
theorem dX12_isSame_365 : decode cX12_isSame 365 = .ok (.aload_n 0, 1) := by decide +kernel
theorem dX12_isSame_366 : decode cX12_isSame 366 = .ok (.getfield 45, 3) := by decide +kernel
theorem dX12_isSame_369 : decode cX12_isSame 369 = .ok (.if_icmp .ne 59, 3) := by decide +kernel
theorem dX12_isSame_372 : decode cX12_isSame 372 = .ok (.aload_n 1, 1) := by decide +kernel
theorem dX12_isSame_373 : decode cX12_isSame 373 = .ok (.invokevirtual 137, 3) := by decide +kernel
theorem dX12_isSame_376 : decode cX12_isSame 376 = .ok (.aload_n 0, 1) := by decide +kernel
theorem dX12_isSame_377 : decode cX12_isSame 377 = .ok (.getfield 39, 3) := by decide +kernel
theorem dX12_isSame_380 : decode cX12_isSame 380 = .ok (.if_icmp .ne 48, 3) := by decide +kernel
theorem dX12_isSame_383 : decode cX12_isSame 383 = .ok (.iload_n 3, 1) := by decide +kernel
theorem dX12_isSame_384 : decode cX12_isSame 384 = .ok (.ifCond .lt 11, 3) := by decide +kernel
theorem dX12_isSame_387 : decode cX12_isSame 387 = .ok (.aload_n 1, 1) := by decide +kernel
theorem dX12_isSame_388 : decode cX12_isSame 388 = .ok (.invokevirtual 140, 3) := by decide +kernel
theorem dX12_isSame_391 : decode cX12_isSame 391 = .ok (.iload_n 3, 1) := by decide +kernel
theorem dX12_isSame_392 : decode cX12_isSame 392 = .ok (.if_icmp .ne 36, 3) := by decide +kernel
theorem dX12_isSame_395 : decode cX12_isSame 395 = .ok (.aload_n 1, 1) := by decide +kernel
theorem dX12_isSame_396 : decode cX12_isSame 396 = .ok (.invokevirtual 143, 3) := by decide +kernel
theorem dX12_isSame_399 : decode cX12_isSame 399 = .ok (.aload_n 0, 1) := by decide +kernel
theorem dX12_isSame_400 : decode cX12_isSame 400 = .ok (.getfield 22, 3) := by decide +kernel
theorem dX12_isSame_403 : decode cX12_isSame 403 = .ok (.arraylength, 1) := by decide +kernel
theorem dX12_isSame_404 : decode cX12_isSame 404 = .ok (.ifCond .ne 7, 3) := by decide +kernel
theorem dX12_isSame_407 : decode cX12_isSame 407 = .ok (.dconst 0, 1) := by decide +kernel
theorem dX12_isSame_408 : decode cX12_isSame 408 = .ok (.goto 12, 3) := by decide +kernel
theorem dX12_isSame_411 : decode cX12_isSame 411 = .ok (.iload_n 2, 1) := by decide +kernel
theorem dX12_isSame_412 : decode cX12_isSame 412 = .ok (.i2d, 1) := by decide +kernel
theorem dX12_isSame_413 : decode cX12_isSame 413 = .ok (.aload_n 0, 1) := by decide +kernel
theorem dX12_isSame_414 : decode cX12_isSame 414 = .ok (.getfield 22, 3) := by decide +kernel
theorem dX12_isSame_417 : decode cX12_isSame 417 = .ok (.arraylength, 1) := by decide +kernel
theorem dX12_isSame_418 : decode cX12_isSame 418 = .ok (.i2d, 1) := by decide +kernel
theorem dX12_isSame_419 : decode cX12_isSame 419 = .ok (.ddiv, 1) := by decide +kernel
theorem dX12_isSame_420 : decode cX12_isSame 420 = .ok (.dcmp .l, 1) := by decide +kernel
theorem dX12_isSame_421 : decode cX12_isSame 421 = .ok (.ifCond .ne 7, 3) := by decide +kernel
theorem dX12_isSame_424 : decode cX12_isSame 424 = .ok (.iconst 1, 1) := by decide +kernel
theorem dX12_isSame_425 : decode cX12_isSame 425 = .ok (.goto 4, 3) := by decide +kernel
theorem dX12_isSame_428 : decode cX12_isSame 428 = .ok (.iconst 0, 1) := by decide +kernel
theorem dX12_isSame_429 : decode cX12_isSame 429 = .ok (.ireturn, 1) := by decide +kernel
