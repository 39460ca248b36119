theorem dL_below_0 : decode cL_below 0 = .ok (.iload_n 0, 1) := by decide +kernel
theorem dL_below_1 : decode cL_below 1 = .ok (.ldc 7, 2) := by decide +kernel
theorem dL_below_3 : decode cL_below 3 = .ok (.iand, 1) := by decide +kernel
theorem dL_below_4 : decode cL_below 4 = .ok (.iload_n 1, 1) := by decide +kernel
theorem dL_below_5 : decode cL_below 5 = .ok (.irem, 1) := by decide +kernel
theorem dL_below_6 : decode cL_below 6 = .ok (.ireturn, 1) := by decide +kernel
theorem dL_cell_0 : decode cL_cell 0 = .ok (.iload_n 1, 1) := by decide +kernel
theorem dL_cell_1 : decode cL_cell 1 = .ok (.aload_n 0, 1) := by decide +kernel
theorem dL_cell_2 : decode cL_cell 2 = .ok (.arraylength, 1) := by decide +kernel
theorem dL_cell_3 : decode cL_cell 3 = .ok (.if_icmp .ge 9, 3) := by decide +kernel
theorem dL_cell_6 : decode cL_cell 6 = .ok (.aload_n 0, 1) := by decide +kernel
theorem dL_cell_7 : decode cL_cell 7 = .ok (.iload_n 1, 1) := by decide +kernel
theorem dL_cell_8 : decode cL_cell 8 = .ok (.iaload, 1) := by decide +kernel
theorem dL_cell_9 : decode cL_cell 9 = .ok (.goto 9, 3) := by decide +kernel
theorem dL_cell_12 : decode cL_cell 12 = .ok (.ldc 8, 2) := by decide +kernel
theorem dL_cell_14 : decode cL_cell 14 = .ok (.iload_n 1, 1) := by decide +kernel
theorem dL_cell_15 : decode cL_cell 15 = .ok (.iconst 3, 1) := by decide +kernel
theorem dL_cell_16 : decode cL_cell 16 = .ok (.iadd, 1) := by decide +kernel
theorem dL_cell_17 : decode cL_cell 17 = .ok (.imul, 1) := by decide +kernel
theorem dL_cell_18 : decode cL_cell 18 = .ok (.ireturn, 1) := by decide +kernel
theorem dL_taught_0 : decode cL_taught 0 = .ok (.iconst 5, 1) := by decide +kernel
theorem dL_taught_1 : decode cL_taught 1 = .ok (.newarray .int, 2) := by decide +kernel
theorem dL_taught_3 : decode cL_taught 3 = .ok (.astore_n 2, 1) := by decide +kernel
theorem dL_taught_4 : decode cL_taught 4 = .ok (.iconst 0, 1) := by decide +kernel
theorem dL_taught_5 : decode cL_taught 5 = .ok (.istore_n 3, 1) := by decide +kernel
theorem dL_taught_6 : decode cL_taught 6 = .ok (.iload_n 3, 1) := by decide +kernel
theorem dL_taught_7 : decode cL_taught 7 = .ok (.aload_n 1, 1) := by decide +kernel
theorem dL_taught_8 : decode cL_taught 8 = .ok (.invokevirtual 9, 3) := by decide +kernel
theorem dL_taught_11 : decode cL_taught 11 = .ok (.if_icmp .ge 108, 3) := by decide +kernel
theorem dL_taught_14 : decode cL_taught 14 = .ok (.iconst 0, 1) := by decide +kernel
theorem dL_taught_15 : decode cL_taught 15 = .ok (.istore 4, 2) := by decide +kernel
theorem dL_taught_17 : decode cL_taught 17 = .ok (.iload 4, 2) := by decide +kernel
theorem dL_taught_19 : decode cL_taught 19 = .ok (.iconst 5, 1) := by decide +kernel
theorem dL_taught_20 : decode cL_taught 20 = .ok (.if_icmp .ge 73, 3) := by decide +kernel
theorem dL_taught_23 : decode cL_taught 23 = .ok (.aload_n 2, 1) := by decide +kernel
theorem dL_taught_24 : decode cL_taught 24 = .ok (.iload 4, 2) := by decide +kernel
theorem dL_taught_26 : decode cL_taught 26 = .ok (.iconst 0, 1) := by decide +kernel
theorem dL_taught_27 : decode cL_taught 27 = .ok (.iastore, 1) := by decide +kernel
theorem dL_taught_28 : decode cL_taught 28 = .ok (.iload_n 3, 1) := by decide +kernel
theorem dL_taught_29 : decode cL_taught 29 = .ok (.iconst 4, 1) := by decide +kernel
theorem dL_taught_30 : decode cL_taught 30 = .ok (.iload 4, 2) := by decide +kernel
theorem dL_taught_32 : decode cL_taught 32 = .ok (.imul, 1) := by decide +kernel
theorem dL_taught_33 : decode cL_taught 33 = .ok (.iadd, 1) := by decide +kernel
theorem dL_taught_34 : decode cL_taught 34 = .ok (.istore 5, 2) := by decide +kernel
theorem dL_taught_36 : decode cL_taught 36 = .ok (.iload 5, 2) := by decide +kernel
theorem dL_taught_38 : decode cL_taught 38 = .ok (.iload_n 3, 1) := by decide +kernel
theorem dL_taught_39 : decode cL_taught 39 = .ok (.iconst 4, 1) := by decide +kernel
theorem dL_taught_40 : decode cL_taught 40 = .ok (.iload 4, 2) := by decide +kernel
theorem dL_taught_42 : decode cL_taught 42 = .ok (.imul, 1) := by decide +kernel
theorem dL_taught_43 : decode cL_taught 43 = .ok (.iadd, 1) := by decide +kernel
theorem dL_taught_44 : decode cL_taught 44 = .ok (.iconst 4, 1) := by decide +kernel
theorem dL_taught_45 : decode cL_taught 45 = .ok (.iadd, 1) := by decide +kernel
theorem dL_taught_46 : decode cL_taught 46 = .ok (.if_icmp .ge 41, 3) := by decide +kernel
theorem dL_taught_49 : decode cL_taught 49 = .ok (.aload_n 2, 1) := by decide +kernel
theorem dL_taught_50 : decode cL_taught 50 = .ok (.iload 4, 2) := by decide +kernel
theorem dL_taught_52 : decode cL_taught 52 = .ok (.aload_n 2, 1) := by decide +kernel
theorem dL_taught_53 : decode cL_taught 53 = .ok (.iload 4, 2) := by decide +kernel
theorem dL_taught_55 : decode cL_taught 55 = .ok (.iaload, 1) := by decide +kernel
theorem dL_taught_56 : decode cL_taught 56 = .ok (.bipush 8, 2) := by decide +kernel
theorem dL_taught_58 : decode cL_taught 58 = .ok (.ishl, 1) := by decide +kernel
theorem dL_taught_59 : decode cL_taught 59 = .ok (.iload 5, 2) := by decide +kernel
theorem dL_taught_61 : decode cL_taught 61 = .ok (.aload_n 1, 1) := by decide +kernel
theorem dL_taught_62 : decode cL_taught 62 = .ok (.invokevirtual 9, 3) := by decide +kernel
theorem dL_taught_65 : decode cL_taught 65 = .ok (.if_icmp .ge 12, 3) := by decide +kernel
theorem dL_taught_68 : decode cL_taught 68 = .ok (.aload_n 1, 1) := by decide +kernel
theorem dL_taught_69 : decode cL_taught 69 = .ok (.iload 5, 2) := by decide +kernel
theorem dL_taught_71 : decode cL_taught 71 = .ok (.invokevirtual 15, 3) := by decide +kernel
theorem dL_taught_74 : decode cL_taught 74 = .ok (.goto 5, 3) := by decide +kernel
theorem dL_taught_77 : decode cL_taught 77 = .ok (.bipush 32, 2) := by decide +kernel
theorem dL_taught_79 : decode cL_taught 79 = .ok (.ior, 1) := by decide +kernel
theorem dL_taught_80 : decode cL_taught 80 = .ok (.iastore, 1) := by decide +kernel
theorem dL_taught_81 : decode cL_taught 81 = .ok (.iinc 5 1, 3) := by decide +kernel
theorem dL_taught_84 : decode cL_taught 84 = .ok (.goto (-48), 3) := by decide +kernel
theorem dL_taught_87 : decode cL_taught 87 = .ok (.iinc 4 1, 3) := by decide +kernel
theorem dL_taught_90 : decode cL_taught 90 = .ok (.goto (-73), 3) := by decide +kernel
theorem dL_taught_93 : decode cL_taught 93 = .ok (.aload_n 0, 1) := by decide +kernel
theorem dL_taught_94 : decode cL_taught 94 = .ok (.aload_n 2, 1) := by decide +kernel
theorem dL_taught_95 : decode cL_taught 95 = .ok (.iconst 0, 1) := by decide +kernel
theorem dL_taught_96 : decode cL_taught 96 = .ok (.iaload, 1) := by decide +kernel
theorem dL_taught_97 : decode cL_taught 97 = .ok (.aload_n 2, 1) := by decide +kernel
theorem dL_taught_98 : decode cL_taught 98 = .ok (.iconst 1, 1) := by decide +kernel
theorem dL_taught_99 : decode cL_taught 99 = .ok (.iaload, 1) := by decide +kernel
theorem dL_taught_100 : decode cL_taught 100 = .ok (.aload_n 2, 1) := by decide +kernel
theorem dL_taught_101 : decode cL_taught 101 = .ok (.iconst 2, 1) := by decide +kernel
theorem dL_taught_102 : decode cL_taught 102 = .ok (.iaload, 1) := by decide +kernel
theorem dL_taught_103 : decode cL_taught 103 = .ok (.aload_n 2, 1) := by decide +kernel
theorem dL_taught_104 : decode cL_taught 104 = .ok (.iconst 3, 1) := by decide +kernel
theorem dL_taught_105 : decode cL_taught 105 = .ok (.iaload, 1) := by decide +kernel
theorem dL_taught_106 : decode cL_taught 106 = .ok (.aload_n 2, 1) := by decide +kernel
theorem dL_taught_107 : decode cL_taught 107 = .ok (.iconst 4, 1) := by decide +kernel
theorem dL_taught_108 : decode cL_taught 108 = .ok (.iaload, 1) := by decide +kernel
theorem dL_taught_109 : decode cL_taught 109 = .ok (.invokevirtual 19, 3) := by decide +kernel
theorem dL_taught_112 : decode cL_taught 112 = .ok (.pop, 1) := by decide +kernel
theorem dL_taught_113 : decode cL_taught 113 = .ok (.iinc 3 20, 3) := by decide +kernel
theorem dL_taught_116 : decode cL_taught 116 = .ok (.goto (-110), 3) := by decide +kernel
theorem dL_taught_119 : decode cL_taught 119 = .ok (.aload_n 0, 1) := by decide +kernel
theorem dL_taught_120 : decode cL_taught 120 = .ok (.aload_n 1, 1) := by decide +kernel
theorem dL_taught_121 : decode cL_taught 121 = .ok (.invokevirtual 9, 3) := by decide +kernel
theorem dL_taught_124 : decode cL_taught 124 = .ok (.invokevirtual 25, 3) := by decide +kernel
theorem dL_taught_127 : decode cL_taught 127 = .ok (.pop, 1) := by decide +kernel
theorem dL_taught_128 : decode cL_taught 128 = .ok (.aload_n 0, 1) := by decide +kernel
theorem dL_taught_129 : decode cL_taught 129 = .ok (.invokevirtual 29, 3) := by decide +kernel
theorem dL_taught_132 : decode cL_taught 132 = .ok (.ireturn, 1) := by decide +kernel
theorem dL_drawn_0 : decode cL_drawn 0 = .ok (.new 32, 3) := by decide +kernel
theorem dL_drawn_3 : decode cL_drawn 3 = .ok (.dup, 1) := by decide +kernel
theorem dL_drawn_4 : decode cL_drawn 4 = .ok (.invokespecial 34, 3) := by decide +kernel
theorem dL_drawn_7 : decode cL_drawn 7 = .ok (.astore 4, 2) := by decide +kernel
theorem dL_drawn_9 : decode cL_drawn 9 = .ok (.aload_n 0, 1) := by decide +kernel
theorem dL_drawn_10 : decode cL_drawn 10 = .ok (.iconst 2, 1) := by decide +kernel
theorem dL_drawn_11 : decode cL_drawn 11 = .ok (.invokevirtual 35, 3) := by decide +kernel
theorem dL_drawn_14 : decode cL_drawn 14 = .ok (.ifCond .ne 35, 3) := by decide +kernel
theorem dL_drawn_17 : decode cL_drawn 17 = .ok (.aload 4, 2) := by decide +kernel
theorem dL_drawn_19 : decode cL_drawn 19 = .ok (.aload_n 0, 1) := by decide +kernel
theorem dL_drawn_20 : decode cL_drawn 20 = .ok (.sipush 181, 3) := by decide +kernel
theorem dL_drawn_23 : decode cL_drawn 23 = .ok (.invokevirtual 35, 3) := by decide +kernel
theorem dL_drawn_26 : decode cL_drawn 26 = .ok (.putfield 40, 3) := by decide +kernel
theorem dL_drawn_29 : decode cL_drawn 29 = .ok (.aload_n 1, 1) := by decide +kernel
theorem dL_drawn_30 : decode cL_drawn 30 = .ok (.ldc 44, 2) := by decide +kernel
theorem dL_drawn_32 : decode cL_drawn 32 = .ok (.invokevirtual 46, 3) := by decide +kernel
theorem dL_drawn_35 : decode cL_drawn 35 = .ok (.aload 4, 2) := by decide +kernel
theorem dL_drawn_37 : decode cL_drawn 37 = .ok (.getfield 40, 3) := by decide +kernel
theorem dL_drawn_40 : decode cL_drawn 40 = .ok (.invokevirtual 52, 3) := by decide +kernel
theorem dL_drawn_43 : decode cL_drawn 43 = .ok (.ldc 55, 2) := by decide +kernel
theorem dL_drawn_45 : decode cL_drawn 45 = .ok (.invokevirtual 46, 3) := by decide +kernel
theorem dL_drawn_48 : decode cL_drawn 48 = .ok (.pop, 1) := by decide +kernel
theorem dL_drawn_49 : decode cL_drawn 49 = .ok (.aload_n 0, 1) := by decide +kernel
theorem dL_drawn_50 : decode cL_drawn 50 = .ok (.iconst 2, 1) := by decide +kernel
theorem dL_drawn_51 : decode cL_drawn 51 = .ok (.invokevirtual 35, 3) := by decide +kernel
theorem dL_drawn_54 : decode cL_drawn 54 = .ok (.ifCond .ne 49, 3) := by decide +kernel
theorem dL_drawn_57 : decode cL_drawn 57 = .ok (.aload 4, 2) := by decide +kernel
theorem dL_drawn_59 : decode cL_drawn 59 = .ok (.aload_n 0, 1) := by decide +kernel
theorem dL_drawn_60 : decode cL_drawn 60 = .ok (.aload_n 0, 1) := by decide +kernel
theorem dL_drawn_61 : decode cL_drawn 61 = .ok (.iconst 2, 1) := by decide +kernel
theorem dL_drawn_62 : decode cL_drawn 62 = .ok (.invokevirtual 35, 3) := by decide +kernel
theorem dL_drawn_65 : decode cL_drawn 65 = .ok (.ifCond .ne 9, 3) := by decide +kernel
theorem dL_drawn_68 : decode cL_drawn 68 = .ok (.sipush 10001, 3) := by decide +kernel
theorem dL_drawn_71 : decode cL_drawn 71 = .ok (.goto 6, 3) := by decide +kernel
theorem dL_drawn_74 : decode cL_drawn 74 = .ok (.sipush 3000, 3) := by decide +kernel
theorem dL_drawn_77 : decode cL_drawn 77 = .ok (.invokevirtual 35, 3) := by decide +kernel
theorem dL_drawn_80 : decode cL_drawn 80 = .ok (.putfield 57, 3) := by decide +kernel
theorem dL_drawn_83 : decode cL_drawn 83 = .ok (.aload_n 1, 1) := by decide +kernel
theorem dL_drawn_84 : decode cL_drawn 84 = .ok (.ldc 60, 2) := by decide +kernel
theorem dL_drawn_86 : decode cL_drawn 86 = .ok (.invokevirtual 46, 3) := by decide +kernel
theorem dL_drawn_89 : decode cL_drawn 89 = .ok (.aload 4, 2) := by decide +kernel
theorem dL_drawn_91 : decode cL_drawn 91 = .ok (.getfield 57, 3) := by decide +kernel
theorem dL_drawn_94 : decode cL_drawn 94 = .ok (.invokevirtual 52, 3) := by decide +kernel
theorem dL_drawn_97 : decode cL_drawn 97 = .ok (.ldc 62, 2) := by decide +kernel
theorem dL_drawn_99 : decode cL_drawn 99 = .ok (.invokevirtual 46, 3) := by decide +kernel
theorem dL_drawn_102 : decode cL_drawn 102 = .ok (.pop, 1) := by decide +kernel
theorem dL_drawn_103 : decode cL_drawn 103 = .ok (.iload_n 2, 1) := by decide +kernel
theorem dL_drawn_104 : decode cL_drawn 104 = .ok (.aload_n 0, 1) := by decide +kernel
theorem dL_drawn_105 : decode cL_drawn 105 = .ok (.bipush 8, 2) := by decide +kernel
theorem dL_drawn_107 : decode cL_drawn 107 = .ok (.iload_n 2, 1) := by decide +kernel
theorem dL_drawn_108 : decode cL_drawn 108 = .ok (.isub, 1) := by decide +kernel
theorem dL_drawn_109 : decode cL_drawn 109 = .ok (.invokevirtual 35, 3) := by decide +kernel
theorem dL_drawn_112 : decode cL_drawn 112 = .ok (.iadd, 1) := by decide +kernel
theorem dL_drawn_113 : decode cL_drawn 113 = .ok (.istore 5, 2) := by decide +kernel
theorem dL_drawn_115 : decode cL_drawn 115 = .ok (.iconst 0, 1) := by decide +kernel
theorem dL_drawn_116 : decode cL_drawn 116 = .ok (.istore 6, 2) := by decide +kernel
theorem dL_drawn_118 : decode cL_drawn 118 = .ok (.iload 6, 2) := by decide +kernel
theorem dL_drawn_120 : decode cL_drawn 120 = .ok (.iload 5, 2) := by decide +kernel
theorem dL_drawn_122 : decode cL_drawn 122 = .ok (.if_icmp .ge 141, 3) := by decide +kernel
theorem dL_drawn_125 : decode cL_drawn 125 = .ok (.aload_n 0, 1) := by decide +kernel
theorem dL_drawn_126 : decode cL_drawn 126 = .ok (.iconst 3, 1) := by decide +kernel
theorem dL_drawn_127 : decode cL_drawn 127 = .ok (.invokevirtual 35, 3) := by decide +kernel
theorem dL_drawn_130 : decode cL_drawn 130 = .ok (.ifCond .ne 12, 3) := by decide +kernel
theorem dL_drawn_133 : decode cL_drawn 133 = .ok (.aload_n 0, 1) := by decide +kernel
theorem dL_drawn_134 : decode cL_drawn 134 = .ok (.bipush 101, 2) := by decide +kernel
theorem dL_drawn_136 : decode cL_drawn 136 = .ok (.invokevirtual 35, 3) := by decide +kernel
theorem dL_drawn_139 : decode cL_drawn 139 = .ok (.goto 12, 3) := by decide +kernel
theorem dL_drawn_142 : decode cL_drawn 142 = .ok (.bipush 80, 2) := by decide +kernel
theorem dL_drawn_144 : decode cL_drawn 144 = .ok (.aload_n 0, 1) := by decide +kernel
theorem dL_drawn_145 : decode cL_drawn 145 = .ok (.bipush 21, 2) := by decide +kernel
theorem dL_drawn_147 : decode cL_drawn 147 = .ok (.invokevirtual 35, 3) := by decide +kernel
theorem dL_drawn_150 : decode cL_drawn 150 = .ok (.iadd, 1) := by decide +kernel
theorem dL_drawn_151 : decode cL_drawn 151 = .ok (.istore 7, 2) := by decide +kernel
theorem dL_drawn_153 : decode cL_drawn 153 = .ok (.aload_n 0, 1) := by decide +kernel
theorem dL_drawn_154 : decode cL_drawn 154 = .ok (.iconst 2, 1) := by decide +kernel
theorem dL_drawn_155 : decode cL_drawn 155 = .ok (.invokevirtual 35, 3) := by decide +kernel
theorem dL_drawn_158 : decode cL_drawn 158 = .ok (.ifCond .ne 12, 3) := by decide +kernel
theorem dL_drawn_161 : decode cL_drawn 161 = .ok (.aload_n 0, 1) := by decide +kernel
theorem dL_drawn_162 : decode cL_drawn 162 = .ok (.bipush 10, 2) := by decide +kernel
theorem dL_drawn_164 : decode cL_drawn 164 = .ok (.invokevirtual 35, 3) := by decide +kernel
theorem dL_drawn_167 : decode cL_drawn 167 = .ok (.goto 13, 3) := by decide +kernel
theorem dL_drawn_170 : decode cL_drawn 170 = .ok (.aload_n 0, 1) := by decide +kernel
theorem dL_drawn_171 : decode cL_drawn 171 = .ok (.sipush 181, 3) := by decide +kernel
theorem dL_drawn_174 : decode cL_drawn 174 = .ok (.invokevirtual 35, 3) := by decide +kernel
theorem dL_drawn_177 : decode cL_drawn 177 = .ok (.bipush 90, 2) := by decide +kernel
theorem dL_drawn_179 : decode cL_drawn 179 = .ok (.isub, 1) := by decide +kernel
theorem dL_drawn_180 : decode cL_drawn 180 = .ok (.istore 8, 2) := by decide +kernel
theorem dL_drawn_182 : decode cL_drawn 182 = .ok (.aload_n 0, 1) := by decide +kernel
theorem dL_drawn_183 : decode cL_drawn 183 = .ok (.iconst 3, 1) := by decide +kernel
theorem dL_drawn_184 : decode cL_drawn 184 = .ok (.invokevirtual 35, 3) := by decide +kernel
theorem dL_drawn_187 : decode cL_drawn 187 = .ok (.ifCond .ne 6, 3) := by decide +kernel
theorem dL_drawn_190 : decode cL_drawn 190 = .ok (.iconst 0, 1) := by decide +kernel
theorem dL_drawn_191 : decode cL_drawn 191 = .ok (.istore 8, 2) := by decide +kernel
theorem dL_drawn_193 : decode cL_drawn 193 = .ok (.aload 4, 2) := by decide +kernel
theorem dL_drawn_195 : decode cL_drawn 195 = .ok (.iload 7, 2) := by decide +kernel
theorem dL_drawn_197 : decode cL_drawn 197 = .ok (.iload 8, 2) := by decide +kernel
theorem dL_drawn_199 : decode cL_drawn 199 = .ok (.invokevirtual 64, 3) := by decide +kernel
theorem dL_drawn_202 : decode cL_drawn 202 = .ok (.aload_n 1, 1) := by decide +kernel
theorem dL_drawn_203 : decode cL_drawn 203 = .ok (.ldc 68, 2) := by decide +kernel
theorem dL_drawn_205 : decode cL_drawn 205 = .ok (.invokevirtual 46, 3) := by decide +kernel
theorem dL_drawn_208 : decode cL_drawn 208 = .ok (.iload 6, 2) := by decide +kernel
theorem dL_drawn_210 : decode cL_drawn 210 = .ok (.invokevirtual 52, 3) := by decide +kernel
theorem dL_drawn_213 : decode cL_drawn 213 = .ok (.ldc 70, 2) := by decide +kernel
theorem dL_drawn_215 : decode cL_drawn 215 = .ok (.invokevirtual 46, 3) := by decide +kernel
theorem dL_drawn_218 : decode cL_drawn 218 = .ok (.iload 7, 2) := by decide +kernel
theorem dL_drawn_220 : decode cL_drawn 220 = .ok (.invokevirtual 52, 3) := by decide +kernel
theorem dL_drawn_223 : decode cL_drawn 223 = .ok (.ldc 72, 2) := by decide +kernel
theorem dL_drawn_225 : decode cL_drawn 225 = .ok (.invokevirtual 46, 3) := by decide +kernel
theorem dL_drawn_228 : decode cL_drawn 228 = .ok (.iload 8, 2) := by decide +kernel
theorem dL_drawn_230 : decode cL_drawn 230 = .ok (.ifCond .ge 8, 3) := by decide +kernel
theorem dL_drawn_233 : decode cL_drawn 233 = .ok (.ldc 74, 2) := by decide +kernel
theorem dL_drawn_235 : decode cL_drawn 235 = .ok (.goto 5, 3) := by decide +kernel
theorem dL_drawn_238 : decode cL_drawn 238 = .ok (.ldc 76, 2) := by decide +kernel
theorem dL_drawn_240 : decode cL_drawn 240 = .ok (.invokevirtual 46, 3) := by decide +kernel
theorem dL_drawn_243 : decode cL_drawn 243 = .ok (.iload 8, 2) := by decide +kernel
theorem dL_drawn_245 : decode cL_drawn 245 = .ok (.invokestatic 78, 3) := by decide +kernel
theorem dL_drawn_248 : decode cL_drawn 248 = .ok (.invokevirtual 52, 3) := by decide +kernel
theorem dL_drawn_251 : decode cL_drawn 251 = .ok (.ldc 83, 2) := by decide +kernel
theorem dL_drawn_253 : decode cL_drawn 253 = .ok (.invokevirtual 46, 3) := by decide +kernel
theorem dL_drawn_256 : decode cL_drawn 256 = .ok (.pop, 1) := by decide +kernel
theorem dL_drawn_257 : decode cL_drawn 257 = .ok (.iinc 6 1, 3) := by decide +kernel
theorem dL_drawn_260 : decode cL_drawn 260 = .ok (.goto (-142), 3) := by decide +kernel
theorem dL_drawn_263 : decode cL_drawn 263 = .ok (.iload 5, 2) := by decide +kernel
theorem dL_drawn_265 : decode cL_drawn 265 = .ok (.ifCond .ne 7, 3) := by decide +kernel
theorem dL_drawn_268 : decode cL_drawn 268 = .ok (.iconst 0, 1) := by decide +kernel
theorem dL_drawn_269 : decode cL_drawn 269 = .ok (.goto 10, 3) := by decide +kernel
theorem dL_drawn_272 : decode cL_drawn 272 = .ok (.aload_n 0, 1) := by decide +kernel
theorem dL_drawn_273 : decode cL_drawn 273 = .ok (.iload_n 3, 1) := by decide +kernel
theorem dL_drawn_274 : decode cL_drawn 274 = .ok (.iconst 1, 1) := by decide +kernel
theorem dL_drawn_275 : decode cL_drawn 275 = .ok (.iadd, 1) := by decide +kernel
theorem dL_drawn_276 : decode cL_drawn 276 = .ok (.invokevirtual 35, 3) := by decide +kernel
theorem dL_drawn_279 : decode cL_drawn 279 = .ok (.istore 6, 2) := by decide +kernel
theorem dL_drawn_281 : decode cL_drawn 281 = .ok (.aload 4, 2) := by decide +kernel
theorem dL_drawn_283 : decode cL_drawn 283 = .ok (.iload 6, 2) := by decide +kernel
theorem dL_drawn_285 : decode cL_drawn 285 = .ok (.anewarray 85, 3) := by decide +kernel
theorem dL_drawn_288 : decode cL_drawn 288 = .ok (.putfield 87, 3) := by decide +kernel
theorem dL_drawn_291 : decode cL_drawn 291 = .ok (.iconst 0, 1) := by decide +kernel
theorem dL_drawn_292 : decode cL_drawn 292 = .ok (.istore 7, 2) := by decide +kernel
theorem dL_drawn_294 : decode cL_drawn 294 = .ok (.iload 7, 2) := by decide +kernel
theorem dL_drawn_296 : decode cL_drawn 296 = .ok (.iload 6, 2) := by decide +kernel
theorem dL_drawn_298 : decode cL_drawn 298 = .ok (.if_icmp .ge 43, 3) := by decide +kernel
theorem dL_drawn_301 : decode cL_drawn 301 = .ok (.aload 4, 2) := by decide +kernel
theorem dL_drawn_303 : decode cL_drawn 303 = .ok (.getfield 87, 3) := by decide +kernel
theorem dL_drawn_306 : decode cL_drawn 306 = .ok (.iload 7, 2) := by decide +kernel
theorem dL_drawn_308 : decode cL_drawn 308 = .ok (.new 85, 3) := by decide +kernel
theorem dL_drawn_311 : decode cL_drawn 311 = .ok (.dup, 1) := by decide +kernel
theorem dL_drawn_312 : decode cL_drawn 312 = .ok (.aload_n 0, 1) := by decide +kernel
theorem dL_drawn_313 : decode cL_drawn 313 = .ok (.iload 5, 2) := by decide +kernel
theorem dL_drawn_315 : decode cL_drawn 315 = .ok (.invokespecial 91, 3) := by decide +kernel
theorem dL_drawn_318 : decode cL_drawn 318 = .ok (.aastore, 1) := by decide +kernel
theorem dL_drawn_319 : decode cL_drawn 319 = .ok (.aload_n 1, 1) := by decide +kernel
theorem dL_drawn_320 : decode cL_drawn 320 = .ok (.aload 4, 2) := by decide +kernel
theorem dL_drawn_322 : decode cL_drawn 322 = .ok (.getfield 87, 3) := by decide +kernel
theorem dL_drawn_325 : decode cL_drawn 325 = .ok (.iload 7, 2) := by decide +kernel
theorem dL_drawn_327 : decode cL_drawn 327 = .ok (.aaload, 1) := by decide +kernel
theorem dL_drawn_328 : decode cL_drawn 328 = .ok (.invokevirtual 94, 3) := by decide +kernel
theorem dL_drawn_331 : decode cL_drawn 331 = .ok (.invokevirtual 46, 3) := by decide +kernel
theorem dL_drawn_334 : decode cL_drawn 334 = .ok (.pop, 1) := by decide +kernel
theorem dL_drawn_335 : decode cL_drawn 335 = .ok (.iinc 7 1, 3) := by decide +kernel
theorem dL_drawn_338 : decode cL_drawn 338 = .ok (.goto (-44), 3) := by decide +kernel
theorem dL_drawn_341 : decode cL_drawn 341 = .ok (.aload 4, 2) := by decide +kernel
theorem dL_drawn_343 : decode cL_drawn 343 = .ok (.areturn, 1) := by decide +kernel
theorem dL_act_0 : decode cL_act 0 = .ok (.aload_n 1, 1) := by decide +kernel
theorem dL_act_1 : decode cL_act 1 = .ok (.getfield 98, 3) := by decide +kernel
theorem dL_act_4 : decode cL_act 4 = .ok (.arraylength, 1) := by decide +kernel
theorem dL_act_5 : decode cL_act 5 = .ok (.istore_n 3, 1) := by decide +kernel
theorem dL_act_6 : decode cL_act 6 = .ok (.aload_n 2, 1) := by decide +kernel
theorem dL_act_7 : decode cL_act 7 = .ok (.bipush 9, 2) := by decide +kernel
theorem dL_act_9 : decode cL_act 9 = .ok (.invokevirtual 35, 3) := by decide +kernel
theorem dL_act_12 : decode cL_act 12 = .ok (.istore 4, 2) := by decide +kernel
theorem dL_act_14 : decode cL_act 14 = .ok (.iload_n 3, 1) := by decide +kernel
theorem dL_act_15 : decode cL_act 15 = .ok (.ifCond .ne 7, 3) := by decide +kernel
theorem dL_act_18 : decode cL_act 18 = .ok (.iconst 0, 1) := by decide +kernel
theorem dL_act_19 : decode cL_act 19 = .ok (.goto 8, 3) := by decide +kernel
theorem dL_act_22 : decode cL_act 22 = .ok (.aload_n 2, 1) := by decide +kernel
theorem dL_act_23 : decode cL_act 23 = .ok (.iload_n 3, 1) := by decide +kernel
theorem dL_act_24 : decode cL_act 24 = .ok (.invokevirtual 35, 3) := by decide +kernel
theorem dL_act_27 : decode cL_act 27 = .ok (.istore 5, 2) := by decide +kernel
theorem dL_act_29 : decode cL_act 29 = .ok (.iload_n 3, 1) := by decide +kernel
theorem dL_act_30 : decode cL_act 30 = .ok (.ifCond .eq 9, 3) := by decide +kernel
theorem dL_act_33 : decode cL_act 33 = .ok (.iload 4, 2) := by decide +kernel
theorem dL_act_35 : decode cL_act 35 = .ok (.iconst 5, 1) := by decide +kernel
theorem dL_act_36 : decode cL_act 36 = .ok (.if_icmp .le 46, 3) := by decide +kernel
theorem dL_act_39 : decode cL_act 39 = .ok (.iconst 1, 1) := by decide +kernel
theorem dL_act_40 : decode cL_act 40 = .ok (.aload_n 2, 1) := by decide +kernel
theorem dL_act_41 : decode cL_act 41 = .ok (.aload_n 2, 1) := by decide +kernel
theorem dL_act_42 : decode cL_act 42 = .ok (.iconst 4, 1) := by decide +kernel
theorem dL_act_43 : decode cL_act 43 = .ok (.invokevirtual 35, 3) := by decide +kernel
theorem dL_act_46 : decode cL_act 46 = .ok (.ifCond .ne 8, 3) := by decide +kernel
theorem dL_act_49 : decode cL_act 49 = .ok (.bipush 30, 2) := by decide +kernel
theorem dL_act_51 : decode cL_act 51 = .ok (.goto 4, 3) := by decide +kernel
theorem dL_act_54 : decode cL_act 54 = .ok (.iconst 5, 1) := by decide +kernel
theorem dL_act_55 : decode cL_act 55 = .ok (.invokevirtual 35, 3) := by decide +kernel
theorem dL_act_58 : decode cL_act 58 = .ok (.iadd, 1) := by decide +kernel
theorem dL_act_59 : decode cL_act 59 = .ok (.istore 6, 2) := by decide +kernel
theorem dL_act_61 : decode cL_act 61 = .ok (.aload_n 0, 1) := by decide +kernel
theorem dL_act_62 : decode cL_act 62 = .ok (.iload 6, 2) := by decide +kernel
theorem dL_act_64 : decode cL_act 64 = .ok (.invokevirtual 102, 3) := by decide +kernel
theorem dL_act_67 : decode cL_act 67 = .ok (.aload_n 1, 1) := by decide +kernel
theorem dL_act_68 : decode cL_act 68 = .ok (.iload 6, 2) := by decide +kernel
theorem dL_act_70 : decode cL_act 70 = .ok (.invokevirtual 105, 3) := by decide +kernel
theorem dL_act_73 : decode cL_act 73 = .ok (.if_icmp .ne 7, 3) := by decide +kernel
theorem dL_act_76 : decode cL_act 76 = .ok (.iconst 1, 1) := by decide +kernel
theorem dL_act_77 : decode cL_act 77 = .ok (.goto 4, 3) := by decide +kernel
theorem dL_act_80 : decode cL_act 80 = .ok (.iconst 0, 1) := by decide +kernel
theorem dL_act_81 : decode cL_act 81 = .ok (.ireturn, 1) := by decide +kernel
theorem dL_act_82 : decode cL_act 82 = .ok (.iload 4, 2) := by decide +kernel
theorem dL_act_84 : decode cL_act 84 = .ok (.tableswitch 257 0 4 #[36, 36, 98, 142, 198], 36) := by decide +kernel
theorem dL_act_120 : decode cL_act 120 = .ok (.aload_n 2, 1) := by decide +kernel
theorem dL_act_121 : decode cL_act 121 = .ok (.iconst 3, 1) := by decide +kernel
theorem dL_act_122 : decode cL_act 122 = .ok (.invokevirtual 35, 3) := by decide +kernel
theorem dL_act_125 : decode cL_act 125 = .ok (.istore 6, 2) := by decide +kernel
theorem dL_act_127 : decode cL_act 127 = .ok (.aload_n 1, 1) := by decide +kernel
theorem dL_act_128 : decode cL_act 128 = .ok (.iload 6, 2) := by decide +kernel
theorem dL_act_130 : decode cL_act 130 = .ok (.iload 5, 2) := by decide +kernel
theorem dL_act_132 : decode cL_act 132 = .ok (.invokevirtual 108, 3) := by decide +kernel
theorem dL_act_135 : decode cL_act 135 = .ok (.ifCond .eq 11, 3) := by decide +kernel
theorem dL_act_138 : decode cL_act 138 = .ok (.aload_n 1, 1) := by decide +kernel
theorem dL_act_139 : decode cL_act 139 = .ok (.getfield 112, 3) := by decide +kernel
theorem dL_act_142 : decode cL_act 142 = .ok (.arraylength, 1) := by decide +kernel
theorem dL_act_143 : decode cL_act 143 = .ok (.goto 5, 3) := by decide +kernel
theorem dL_act_146 : decode cL_act 146 = .ok (.bipush (-9), 2) := by decide +kernel
theorem dL_act_148 : decode cL_act 148 = .ok (.istore 7, 2) := by decide +kernel
theorem dL_act_150 : decode cL_act 150 = .ok (.aload_n 0, 1) := by decide +kernel
theorem dL_act_151 : decode cL_act 151 = .ok (.iload 5, 2) := by decide +kernel
theorem dL_act_153 : decode cL_act 153 = .ok (.iload 6, 2) := by decide +kernel
theorem dL_act_155 : decode cL_act 155 = .ok (.invokevirtual 116, 3) := by decide +kernel
theorem dL_act_158 : decode cL_act 158 = .ok (.istore 8, 2) := by decide +kernel
theorem dL_act_160 : decode cL_act 160 = .ok (.goto 9, 3) := by decide +kernel
theorem dL_act_163 : decode cL_act 163 = .ok (.astore 9, 2) := by decide +kernel
theorem dL_act_165 : decode cL_act 165 = .ok (.bipush (-9), 2) := by decide +kernel
theorem dL_act_167 : decode cL_act 167 = .ok (.istore 8, 2) := by decide +kernel
theorem dL_act_169 : decode cL_act 169 = .ok (.iload 8, 2) := by decide +kernel
theorem dL_act_171 : decode cL_act 171 = .ok (.iload 7, 2) := by decide +kernel
theorem dL_act_173 : decode cL_act 173 = .ok (.if_icmp .ne 7, 3) := by decide +kernel
theorem dL_act_176 : decode cL_act 176 = .ok (.iconst 1, 1) := by decide +kernel
theorem dL_act_177 : decode cL_act 177 = .ok (.goto 4, 3) := by decide +kernel
theorem dL_act_180 : decode cL_act 180 = .ok (.iconst 0, 1) := by decide +kernel
theorem dL_act_181 : decode cL_act 181 = .ok (.ireturn, 1) := by decide +kernel
theorem dL_act_182 : decode cL_act 182 = .ok (.aload_n 1, 1) := by decide +kernel
theorem dL_act_183 : decode cL_act 183 = .ok (.getfield 112, 3) := by decide +kernel
theorem dL_act_186 : decode cL_act 186 = .ok (.arraylength, 1) := by decide +kernel
theorem dL_act_187 : decode cL_act 187 = .ok (.ifCond .ne 5, 3) := by decide +kernel
theorem dL_act_190 : decode cL_act 190 = .ok (.iconst 1, 1) := by decide +kernel
theorem dL_act_191 : decode cL_act 191 = .ok (.ireturn, 1) := by decide +kernel
theorem dL_act_192 : decode cL_act 192 = .ok (.aload_n 2, 1) := by decide +kernel
theorem dL_act_193 : decode cL_act 193 = .ok (.aload_n 1, 1) := by decide +kernel
theorem dL_act_194 : decode cL_act 194 = .ok (.getfield 112, 3) := by decide +kernel
theorem dL_act_197 : decode cL_act 197 = .ok (.arraylength, 1) := by decide +kernel
theorem dL_act_198 : decode cL_act 198 = .ok (.invokevirtual 35, 3) := by decide +kernel
theorem dL_act_201 : decode cL_act 201 = .ok (.istore 6, 2) := by decide +kernel
theorem dL_act_203 : decode cL_act 203 = .ok (.aload_n 0, 1) := by decide +kernel
theorem dL_act_204 : decode cL_act 204 = .ok (.iload 6, 2) := by decide +kernel
theorem dL_act_206 : decode cL_act 206 = .ok (.invokevirtual 122, 3) := by decide +kernel
theorem dL_act_209 : decode cL_act 209 = .ok (.aload_n 1, 1) := by decide +kernel
theorem dL_act_210 : decode cL_act 210 = .ok (.iload 6, 2) := by decide +kernel
theorem dL_act_212 : decode cL_act 212 = .ok (.invokevirtual 125, 3) := by decide +kernel
theorem dL_act_215 : decode cL_act 215 = .ok (.iconst 1, 1) := by decide +kernel
theorem dL_act_216 : decode cL_act 216 = .ok (.iaload, 1) := by decide +kernel
theorem dL_act_217 : decode cL_act 217 = .ok (.if_icmp .ne 7, 3) := by decide +kernel
theorem dL_act_220 : decode cL_act 220 = .ok (.iconst 1, 1) := by decide +kernel
theorem dL_act_221 : decode cL_act 221 = .ok (.goto 4, 3) := by decide +kernel
theorem dL_act_224 : decode cL_act 224 = .ok (.iconst 0, 1) := by decide +kernel
theorem dL_act_225 : decode cL_act 225 = .ok (.ireturn, 1) := by decide +kernel
theorem dL_act_226 : decode cL_act 226 = .ok (.aload_n 1, 1) := by decide +kernel
theorem dL_act_227 : decode cL_act 227 = .ok (.getfield 129, 3) := by decide +kernel
theorem dL_act_230 : decode cL_act 230 = .ok (.iload 5, 2) := by decide +kernel
theorem dL_act_232 : decode cL_act 232 = .ok (.aaload, 1) := by decide +kernel
theorem dL_act_233 : decode cL_act 233 = .ok (.iconst 2, 1) := by decide +kernel
theorem dL_act_234 : decode cL_act 234 = .ok (.iaload, 1) := by decide +kernel
theorem dL_act_235 : decode cL_act 235 = .ok (.istore 6, 2) := by decide +kernel
theorem dL_act_237 : decode cL_act 237 = .ok (.aload_n 1, 1) := by decide +kernel
theorem dL_act_238 : decode cL_act 238 = .ok (.getfield 129, 3) := by decide +kernel
theorem dL_act_241 : decode cL_act 241 = .ok (.iload 5, 2) := by decide +kernel
theorem dL_act_243 : decode cL_act 243 = .ok (.aaload, 1) := by decide +kernel
theorem dL_act_244 : decode cL_act 244 = .ok (.iconst 2, 1) := by decide +kernel
theorem dL_act_245 : decode cL_act 245 = .ok (.aload_n 2, 1) := by decide +kernel
theorem dL_act_246 : decode cL_act 246 = .ok (.sipush 181, 3) := by decide +kernel
theorem dL_act_249 : decode cL_act 249 = .ok (.invokevirtual 35, 3) := by decide +kernel
theorem dL_act_252 : decode cL_act 252 = .ok (.bipush 90, 2) := by decide +kernel
theorem dL_act_254 : decode cL_act 254 = .ok (.isub, 1) := by decide +kernel
theorem dL_act_255 : decode cL_act 255 = .ok (.iastore, 1) := by decide +kernel
theorem dL_act_256 : decode cL_act 256 = .ok (.aload_n 0, 1) := by decide +kernel
theorem dL_act_257 : decode cL_act 257 = .ok (.iload 5, 2) := by decide +kernel
theorem dL_act_259 : decode cL_act 259 = .ok (.aload_n 1, 1) := by decide +kernel
theorem dL_act_260 : decode cL_act 260 = .ok (.getfield 129, 3) := by decide +kernel
theorem dL_act_263 : decode cL_act 263 = .ok (.iload 5, 2) := by decide +kernel
theorem dL_act_265 : decode cL_act 265 = .ok (.aaload, 1) := by decide +kernel
theorem dL_act_266 : decode cL_act 266 = .ok (.iconst 2, 1) := by decide +kernel
theorem dL_act_267 : decode cL_act 267 = .ok (.iaload, 1) := by decide +kernel
theorem dL_act_268 : decode cL_act 268 = .ok (.invokevirtual 132, 3) := by decide +kernel
theorem dL_act_271 : decode cL_act 271 = .ok (.iload 6, 2) := by decide +kernel
theorem dL_act_273 : decode cL_act 273 = .ok (.if_icmp .ne 7, 3) := by decide +kernel
theorem dL_act_276 : decode cL_act 276 = .ok (.iconst 1, 1) := by decide +kernel
theorem dL_act_277 : decode cL_act 277 = .ok (.goto 4, 3) := by decide +kernel
theorem dL_act_280 : decode cL_act 280 = .ok (.iconst 0, 1) := by decide +kernel
theorem dL_act_281 : decode cL_act 281 = .ok (.ireturn, 1) := by decide +kernel
theorem dL_act_282 : decode cL_act 282 = .ok (.aload_n 2, 1) := by decide +kernel
theorem dL_act_283 : decode cL_act 283 = .ok (.bipush 101, 2) := by decide +kernel
theorem dL_act_285 : decode cL_act 285 = .ok (.invokevirtual 35, 3) := by decide +kernel
theorem dL_act_288 : decode cL_act 288 = .ok (.istore 6, 2) := by decide +kernel
theorem dL_act_290 : decode cL_act 290 = .ok (.aload_n 1, 1) := by decide +kernel
theorem dL_act_291 : decode cL_act 291 = .ok (.getfield 129, 3) := by decide +kernel
theorem dL_act_294 : decode cL_act 294 = .ok (.iload 5, 2) := by decide +kernel
theorem dL_act_296 : decode cL_act 296 = .ok (.aaload, 1) := by decide +kernel
theorem dL_act_297 : decode cL_act 297 = .ok (.iconst 0, 1) := by decide +kernel
theorem dL_act_298 : decode cL_act 298 = .ok (.iconst 0, 1) := by decide +kernel
theorem dL_act_299 : decode cL_act 299 = .ok (.aload_n 1, 1) := by decide +kernel
theorem dL_act_300 : decode cL_act 300 = .ok (.getfield 129, 3) := by decide +kernel
theorem dL_act_303 : decode cL_act 303 = .ok (.iload 5, 2) := by decide +kernel
theorem dL_act_305 : decode cL_act 305 = .ok (.aaload, 1) := by decide +kernel
theorem dL_act_306 : decode cL_act 306 = .ok (.iconst 0, 1) := by decide +kernel
theorem dL_act_307 : decode cL_act 307 = .ok (.iaload, 1) := by decide +kernel
theorem dL_act_308 : decode cL_act 308 = .ok (.iload 6, 2) := by decide +kernel
theorem dL_act_310 : decode cL_act 310 = .ok (.isub, 1) := by decide +kernel
theorem dL_act_311 : decode cL_act 311 = .ok (.invokestatic 135, 3) := by decide +kernel
theorem dL_act_314 : decode cL_act 314 = .ok (.iastore, 1) := by decide +kernel
theorem dL_act_315 : decode cL_act 315 = .ok (.aload_n 0, 1) := by decide +kernel
theorem dL_act_316 : decode cL_act 316 = .ok (.iload 5, 2) := by decide +kernel
theorem dL_act_318 : decode cL_act 318 = .ok (.iload 6, 2) := by decide +kernel
theorem dL_act_320 : decode cL_act 320 = .ok (.invokevirtual 138, 3) := by decide +kernel
theorem dL_act_323 : decode cL_act 323 = .ok (.aload_n 1, 1) := by decide +kernel
theorem dL_act_324 : decode cL_act 324 = .ok (.getfield 129, 3) := by decide +kernel
theorem dL_act_327 : decode cL_act 327 = .ok (.iload 5, 2) := by decide +kernel
theorem dL_act_329 : decode cL_act 329 = .ok (.aaload, 1) := by decide +kernel
theorem dL_act_330 : decode cL_act 330 = .ok (.iconst 0, 1) := by decide +kernel
theorem dL_act_331 : decode cL_act 331 = .ok (.iaload, 1) := by decide +kernel
theorem dL_act_332 : decode cL_act 332 = .ok (.if_icmp .ne 7, 3) := by decide +kernel
theorem dL_act_335 : decode cL_act 335 = .ok (.iconst 1, 1) := by decide +kernel
theorem dL_act_336 : decode cL_act 336 = .ok (.goto 4, 3) := by decide +kernel
theorem dL_act_339 : decode cL_act 339 = .ok (.iconst 0, 1) := by decide +kernel
theorem dL_act_340 : decode cL_act 340 = .ok (.ireturn, 1) := by decide +kernel
theorem dL_act_341 : decode cL_act 341 = .ok (.aload_n 2, 1) := by decide +kernel
theorem dL_act_342 : decode cL_act 342 = .ok (.iload_n 3, 1) := by decide +kernel
theorem dL_act_343 : decode cL_act 343 = .ok (.invokevirtual 35, 3) := by decide +kernel
theorem dL_act_346 : decode cL_act 346 = .ok (.istore 6, 2) := by decide +kernel
theorem dL_act_348 : decode cL_act 348 = .ok (.aload_n 1, 1) := by decide +kernel
theorem dL_act_349 : decode cL_act 349 = .ok (.iload 5, 2) := by decide +kernel
theorem dL_act_351 : decode cL_act 351 = .ok (.invokevirtual 141, 3) := by decide +kernel
theorem dL_act_354 : decode cL_act 354 = .ok (.istore 7, 2) := by decide +kernel
theorem dL_act_356 : decode cL_act 356 = .ok (.aload_n 1, 1) := by decide +kernel
theorem dL_act_357 : decode cL_act 357 = .ok (.iload 5, 2) := by decide +kernel
theorem dL_act_359 : decode cL_act 359 = .ok (.iload 6, 2) := by decide +kernel
theorem dL_act_361 : decode cL_act 361 = .ok (.invokevirtual 144, 3) := by decide +kernel
theorem dL_act_364 : decode cL_act 364 = .ok (.aload_n 0, 1) := by decide +kernel
theorem dL_act_365 : decode cL_act 365 = .ok (.iload 5, 2) := by decide +kernel
theorem dL_act_367 : decode cL_act 367 = .ok (.iload 6, 2) := by decide +kernel
theorem dL_act_369 : decode cL_act 369 = .ok (.invokevirtual 147, 3) := by decide +kernel
theorem dL_act_372 : decode cL_act 372 = .ok (.iload 7, 2) := by decide +kernel
theorem dL_act_374 : decode cL_act 374 = .ok (.if_icmp .ne 7, 3) := by decide +kernel
theorem dL_act_377 : decode cL_act 377 = .ok (.iconst 1, 1) := by decide +kernel
theorem dL_act_378 : decode cL_act 378 = .ok (.goto 4, 3) := by decide +kernel
theorem dL_act_381 : decode cL_act 381 = .ok (.iconst 0, 1) := by decide +kernel
theorem dL_act_382 : decode cL_act 382 = .ok (.ireturn, 1) := by decide +kernel
theorem dL_law_0 : decode cL_law 0 = .ok (.new 20, 3) := by decide +kernel
theorem dL_law_3 : decode cL_law 3 = .ok (.dup, 1) := by decide +kernel
theorem dL_law_4 : decode cL_law 4 = .ok (.invokespecial 150, 3) := by decide +kernel
theorem dL_law_7 : decode cL_law 7 = .ok (.astore_n 1, 1) := by decide +kernel
theorem dL_law_8 : decode cL_law 8 = .ok (.iconst 0, 1) := by decide +kernel
theorem dL_law_9 : decode cL_law 9 = .ok (.istore_n 2, 1) := by decide +kernel
theorem dL_law_10 : decode cL_law 10 = .ok (.iload_n 2, 1) := by decide +kernel
theorem dL_law_11 : decode cL_law 11 = .ok (.iconst 2, 1) := by decide +kernel
theorem dL_law_12 : decode cL_law 12 = .ok (.if_icmp .ge 1131, 3) := by decide +kernel
theorem dL_law_15 : decode cL_law 15 = .ok (.new 36, 3) := by decide +kernel
theorem dL_law_18 : decode cL_law 18 = .ok (.dup, 1) := by decide +kernel
theorem dL_law_19 : decode cL_law 19 = .ok (.aload_n 0, 1) := by decide +kernel
theorem dL_law_20 : decode cL_law 20 = .ok (.iload_n 2, 1) := by decide +kernel
theorem dL_law_21 : decode cL_law 21 = .ok (.invokestatic 151, 3) := by decide +kernel
theorem dL_law_24 : decode cL_law 24 = .ok (.aload_n 0, 1) := by decide +kernel
theorem dL_law_25 : decode cL_law 25 = .ok (.iload_n 2, 1) := by decide +kernel
theorem dL_law_26 : decode cL_law 26 = .ok (.iconst 3, 1) := by decide +kernel
theorem dL_law_27 : decode cL_law 27 = .ok (.iadd, 1) := by decide +kernel
theorem dL_law_28 : decode cL_law 28 = .ok (.invokestatic 151, 3) := by decide +kernel
theorem dL_law_31 : decode cL_law 31 = .ok (.bipush 31, 2) := by decide +kernel
theorem dL_law_33 : decode cL_law 33 = .ok (.imul, 1) := by decide +kernel
theorem dL_law_34 : decode cL_law 34 = .ok (.ixor, 1) := by decide +kernel
theorem dL_law_35 : decode cL_law 35 = .ok (.aload_n 0, 1) := by decide +kernel
theorem dL_law_36 : decode cL_law 36 = .ok (.iload_n 2, 1) := by decide +kernel
theorem dL_law_37 : decode cL_law 37 = .ok (.bipush 6, 2) := by decide +kernel
theorem dL_law_39 : decode cL_law 39 = .ok (.iadd, 1) := by decide +kernel
theorem dL_law_40 : decode cL_law 40 = .ok (.invokestatic 151, 3) := by decide +kernel
theorem dL_law_43 : decode cL_law 43 = .ok (.sipush 1009, 3) := by decide +kernel
theorem dL_law_46 : decode cL_law 46 = .ok (.imul, 1) := by decide +kernel
theorem dL_law_47 : decode cL_law 47 = .ok (.ixor, 1) := by decide +kernel
theorem dL_law_48 : decode cL_law 48 = .ok (.invokespecial 157, 3) := by decide +kernel
theorem dL_law_51 : decode cL_law 51 = .ok (.astore_n 3, 1) := by decide +kernel
theorem dL_law_52 : decode cL_law 52 = .ok (.new 47, 3) := by decide +kernel
theorem dL_law_55 : decode cL_law 55 = .ok (.dup, 1) := by decide +kernel
theorem dL_law_56 : decode cL_law 56 = .ok (.invokespecial 160, 3) := by decide +kernel
theorem dL_law_59 : decode cL_law 59 = .ok (.astore 4, 2) := by decide +kernel
theorem dL_law_61 : decode cL_law 61 = .ok (.aload_n 3, 1) := by decide +kernel
theorem dL_law_62 : decode cL_law 62 = .ok (.aload 4, 2) := by decide +kernel
theorem dL_law_64 : decode cL_law 64 = .ok (.iconst 1, 1) := by decide +kernel
theorem dL_law_65 : decode cL_law 65 = .ok (.iconst 4, 1) := by decide +kernel
theorem dL_law_66 : decode cL_law 66 = .ok (.invokestatic 161, 3) := by decide +kernel
theorem dL_law_69 : decode cL_law 69 = .ok (.astore 5, 2) := by decide +kernel
theorem dL_law_71 : decode cL_law 71 = .ok (.aload_n 1, 1) := by decide +kernel
theorem dL_law_72 : decode cL_law 72 = .ok (.aload 4, 2) := by decide +kernel
theorem dL_law_74 : decode cL_law 74 = .ok (.invokevirtual 165, 3) := by decide +kernel
theorem dL_law_77 : decode cL_law 77 = .ok (.invokestatic 168, 3) := by decide +kernel
theorem dL_law_80 : decode cL_law 80 = .ok (.ifCond .eq 5, 3) := by decide +kernel
theorem dL_law_83 : decode cL_law 83 = .ok (.iconst 0, 1) := by decide +kernel
theorem dL_law_84 : decode cL_law 84 = .ok (.ireturn, 1) := by decide +kernel
theorem dL_law_85 : decode cL_law 85 = .ok (.iconst 0, 1) := by decide +kernel
theorem dL_law_86 : decode cL_law 86 = .ok (.istore 6, 2) := by decide +kernel
theorem dL_law_88 : decode cL_law 88 = .ok (.iload 6, 2) := by decide +kernel
theorem dL_law_90 : decode cL_law 90 = .ok (.bipush 8, 2) := by decide +kernel
theorem dL_law_92 : decode cL_law 92 = .ok (.if_icmp .ge 889, 3) := by decide +kernel
theorem dL_law_95 : decode cL_law 95 = .ok (.iconst 0, 1) := by decide +kernel
theorem dL_law_96 : decode cL_law 96 = .ok (.istore 7, 2) := by decide +kernel
theorem dL_law_98 : decode cL_law 98 = .ok (.iload 7, 2) := by decide +kernel
theorem dL_law_100 : decode cL_law 100 = .ok (.iconst 2, 1) := by decide +kernel
theorem dL_law_101 : decode cL_law 101 = .ok (.if_icmp .ge 21, 3) := by decide +kernel
theorem dL_law_104 : decode cL_law 104 = .ok (.aload_n 1, 1) := by decide +kernel
theorem dL_law_105 : decode cL_law 105 = .ok (.aload 5, 2) := by decide +kernel
theorem dL_law_107 : decode cL_law 107 = .ok (.aload_n 3, 1) := by decide +kernel
theorem dL_law_108 : decode cL_law 108 = .ok (.invokestatic 172, 3) := by decide +kernel
theorem dL_law_111 : decode cL_law 111 = .ok (.ifCond .ne 5, 3) := by decide +kernel
theorem dL_law_114 : decode cL_law 114 = .ok (.iconst 0, 1) := by decide +kernel
theorem dL_law_115 : decode cL_law 115 = .ok (.ireturn, 1) := by decide +kernel
theorem dL_law_116 : decode cL_law 116 = .ok (.iinc 7 1, 3) := by decide +kernel
theorem dL_law_119 : decode cL_law 119 = .ok (.goto (-21), 3) := by decide +kernel
theorem dL_law_122 : decode cL_law 122 = .ok (.aload_n 1, 1) := by decide +kernel
theorem dL_law_123 : decode cL_law 123 = .ok (.invokevirtual 176, 3) := by decide +kernel
theorem dL_law_126 : decode cL_law 126 = .ok (.lstore 7, 2) := by decide +kernel
theorem dL_law_128 : decode cL_law 128 = .ok (.aload_n 1, 1) := by decide +kernel
theorem dL_law_129 : decode cL_law 129 = .ok (.invokevirtual 180, 3) := by decide +kernel
theorem dL_law_132 : decode cL_law 132 = .ok (.istore 9, 2) := by decide +kernel
theorem dL_law_134 : decode cL_law 134 = .ok (.iconst 0, 1) := by decide +kernel
theorem dL_law_135 : decode cL_law 135 = .ok (.istore 10, 2) := by decide +kernel
theorem dL_law_137 : decode cL_law 137 = .ok (.iconst 0, 1) := by decide +kernel
theorem dL_law_138 : decode cL_law 138 = .ok (.istore 11, 2) := by decide +kernel
theorem dL_law_140 : decode cL_law 140 = .ok (.iload 9, 2) := by decide +kernel
theorem dL_law_142 : decode cL_law 142 = .ok (.newarray .boolean, 2) := by decide +kernel
theorem dL_law_144 : decode cL_law 144 = .ok (.astore 12, 2) := by decide +kernel
theorem dL_law_146 : decode cL_law 146 = .ok (.sipush 10000, 3) := by decide +kernel
theorem dL_law_149 : decode cL_law 149 = .ok (.istore 13, 2) := by decide +kernel
theorem dL_law_151 : decode cL_law 151 = .ok (.iconst 0, 1) := by decide +kernel
theorem dL_law_152 : decode cL_law 152 = .ok (.istore 14, 2) := by decide +kernel
theorem dL_law_154 : decode cL_law 154 = .ok (.iload 14, 2) := by decide +kernel
theorem dL_law_156 : decode cL_law 156 = .ok (.iload 9, 2) := by decide +kernel
theorem dL_law_158 : decode cL_law 158 = .ok (.if_icmp .ge 243, 3) := by decide +kernel
theorem dL_law_161 : decode cL_law 161 = .ok (.aload_n 1, 1) := by decide +kernel
theorem dL_law_162 : decode cL_law 162 = .ok (.iload 14, 2) := by decide +kernel
theorem dL_law_164 : decode cL_law 164 = .ok (.invokevirtual 182, 3) := by decide +kernel
theorem dL_law_167 : decode cL_law 167 = .ok (.istore 15, 2) := by decide +kernel
theorem dL_law_169 : decode cL_law 169 = .ok (.aload 12, 2) := by decide +kernel
theorem dL_law_171 : decode cL_law 171 = .ok (.iload 15, 2) := by decide +kernel
theorem dL_law_173 : decode cL_law 173 = .ok (.baload, 1) := by decide +kernel
theorem dL_law_174 : decode cL_law 174 = .ok (.ifCond .ne 14, 3) := by decide +kernel
theorem dL_law_177 : decode cL_law 177 = .ok (.aload_n 1, 1) := by decide +kernel
theorem dL_law_178 : decode cL_law 178 = .ok (.iload 15, 2) := by decide +kernel
theorem dL_law_180 : decode cL_law 180 = .ok (.invokevirtual 185, 3) := by decide +kernel
theorem dL_law_183 : decode cL_law 183 = .ok (.iload 14, 2) := by decide +kernel
theorem dL_law_185 : decode cL_law 185 = .ok (.if_icmp .eq 5, 3) := by decide +kernel
theorem dL_law_188 : decode cL_law 188 = .ok (.iconst 0, 1) := by decide +kernel
theorem dL_law_189 : decode cL_law 189 = .ok (.ireturn, 1) := by decide +kernel
theorem dL_law_190 : decode cL_law 190 = .ok (.aload 12, 2) := by decide +kernel
theorem dL_law_192 : decode cL_law 192 = .ok (.iload 15, 2) := by decide +kernel
theorem dL_law_194 : decode cL_law 194 = .ok (.iconst 1, 1) := by decide +kernel
theorem dL_law_195 : decode cL_law 195 = .ok (.bastore, 1) := by decide +kernel
theorem dL_law_196 : decode cL_law 196 = .ok (.aload_n 1, 1) := by decide +kernel
theorem dL_law_197 : decode cL_law 197 = .ok (.iload 15, 2) := by decide +kernel
theorem dL_law_199 : decode cL_law 199 = .ok (.invokevirtual 188, 3) := by decide +kernel
theorem dL_law_202 : decode cL_law 202 = .ok (.istore 16, 2) := by decide +kernel
theorem dL_law_204 : decode cL_law 204 = .ok (.iload 10, 2) := by decide +kernel
theorem dL_law_206 : decode cL_law 206 = .ok (.aload_n 1, 1) := by decide +kernel
theorem dL_law_207 : decode cL_law 207 = .ok (.iload 15, 2) := by decide +kernel
theorem dL_law_209 : decode cL_law 209 = .ok (.invokevirtual 191, 3) := by decide +kernel
theorem dL_law_212 : decode cL_law 212 = .ok (.iadd, 1) := by decide +kernel
theorem dL_law_213 : decode cL_law 213 = .ok (.istore 10, 2) := by decide +kernel
theorem dL_law_215 : decode cL_law 215 = .ok (.iload 11, 2) := by decide +kernel
theorem dL_law_217 : decode cL_law 217 = .ok (.aload_n 1, 1) := by decide +kernel
theorem dL_law_218 : decode cL_law 218 = .ok (.iload 15, 2) := by decide +kernel
theorem dL_law_220 : decode cL_law 220 = .ok (.invokevirtual 194, 3) := by decide +kernel
theorem dL_law_223 : decode cL_law 223 = .ok (.iadd, 1) := by decide +kernel
theorem dL_law_224 : decode cL_law 224 = .ok (.istore 11, 2) := by decide +kernel
theorem dL_law_226 : decode cL_law 226 = .ok (.iload 16, 2) := by decide +kernel
theorem dL_law_228 : decode cL_law 228 = .ok (.ifCond .lt 161, 3) := by decide +kernel
theorem dL_law_231 : decode cL_law 231 = .ok (.iload 16, 2) := by decide +kernel
theorem dL_law_233 : decode cL_law 233 = .ok (.iload 13, 2) := by decide +kernel
theorem dL_law_235 : decode cL_law 235 = .ok (.if_icmp .gt 154, 3) := by decide +kernel
theorem dL_law_238 : decode cL_law 238 = .ok (.aload_n 1, 1) := by decide +kernel
theorem dL_law_239 : decode cL_law 239 = .ok (.iload 15, 2) := by decide +kernel
theorem dL_law_241 : decode cL_law 241 = .ok (.invokevirtual 191, 3) := by decide +kernel
theorem dL_law_244 : decode cL_law 244 = .ok (.iload 13, 2) := by decide +kernel
theorem dL_law_246 : decode cL_law 246 = .ok (.iload 16, 2) := by decide +kernel
theorem dL_law_248 : decode cL_law 248 = .ok (.isub, 1) := by decide +kernel
theorem dL_law_249 : decode cL_law 249 = .ok (.if_icmp .ne 140, 3) := by decide +kernel
theorem dL_law_252 : decode cL_law 252 = .ok (.aload_n 1, 1) := by decide +kernel
theorem dL_law_253 : decode cL_law 253 = .ok (.iload 15, 2) := by decide +kernel
theorem dL_law_255 : decode cL_law 255 = .ok (.invokevirtual 191, 3) := by decide +kernel
theorem dL_law_258 : decode cL_law 258 = .ok (.aload_n 1, 1) := by decide +kernel
theorem dL_law_259 : decode cL_law 259 = .ok (.aload_n 1, 1) := by decide +kernel
theorem dL_law_260 : decode cL_law 260 = .ok (.invokevirtual 197, 3) := by decide +kernel
theorem dL_law_263 : decode cL_law 263 = .ok (.invokevirtual 191, 3) := by decide +kernel
theorem dL_law_266 : decode cL_law 266 = .ok (.if_icmp .gt 123, 3) := by decide +kernel
theorem dL_law_269 : decode cL_law 269 = .ok (.aload_n 1, 1) := by decide +kernel
theorem dL_law_270 : decode cL_law 270 = .ok (.iload 15, 2) := by decide +kernel
theorem dL_law_272 : decode cL_law 272 = .ok (.invokevirtual 200, 3) := by decide +kernel
theorem dL_law_275 : decode cL_law 275 = .ok (.ifCond .eq 8, 3) := by decide +kernel
theorem dL_law_278 : decode cL_law 278 = .ok (.iload 16, 2) := by decide +kernel
theorem dL_law_280 : decode cL_law 280 = .ok (.ifCond .gt 109, 3) := by decide +kernel
theorem dL_law_283 : decode cL_law 283 = .ok (.aload_n 1, 1) := by decide +kernel
theorem dL_law_284 : decode cL_law 284 = .ok (.iload 15, 2) := by decide +kernel
theorem dL_law_286 : decode cL_law 286 = .ok (.invokevirtual 200, 3) := by decide +kernel
theorem dL_law_289 : decode cL_law 289 = .ok (.aload_n 1, 1) := by decide +kernel
theorem dL_law_290 : decode cL_law 290 = .ok (.invokevirtual 204, 3) := by decide +kernel
theorem dL_law_293 : decode cL_law 293 = .ok (.ifCond .le 17, 3) := by decide +kernel
theorem dL_law_296 : decode cL_law 296 = .ok (.aload_n 1, 1) := by decide +kernel
theorem dL_law_297 : decode cL_law 297 = .ok (.iconst 0, 1) := by decide +kernel
theorem dL_law_298 : decode cL_law 298 = .ok (.invokevirtual 207, 3) := by decide +kernel
theorem dL_law_301 : decode cL_law 301 = .ok (.iload 15, 2) := by decide +kernel
theorem dL_law_303 : decode cL_law 303 = .ok (.if_icmp .ne 7, 3) := by decide +kernel
theorem dL_law_306 : decode cL_law 306 = .ok (.iconst 1, 1) := by decide +kernel
theorem dL_law_307 : decode cL_law 307 = .ok (.goto 4, 3) := by decide +kernel
theorem dL_law_310 : decode cL_law 310 = .ok (.iconst 0, 1) := by decide +kernel
theorem dL_law_311 : decode cL_law 311 = .ok (.if_icmp .ne 78, 3) := by decide +kernel
theorem dL_law_314 : decode cL_law 314 = .ok (.aload_n 1, 1) := by decide +kernel
theorem dL_law_315 : decode cL_law 315 = .ok (.iload 15, 2) := by decide +kernel
theorem dL_law_317 : decode cL_law 317 = .ok (.invokevirtual 210, 3) := by decide +kernel
theorem dL_law_320 : decode cL_law 320 = .ok (.ifCond .lt 69, 3) := by decide +kernel
theorem dL_law_323 : decode cL_law 323 = .ok (.aload_n 1, 1) := by decide +kernel
theorem dL_law_324 : decode cL_law 324 = .ok (.iload 15, 2) := by decide +kernel
theorem dL_law_326 : decode cL_law 326 = .ok (.invokevirtual 210, 3) := by decide +kernel
theorem dL_law_329 : decode cL_law 329 = .ok (.bipush 100, 2) := by decide +kernel
theorem dL_law_331 : decode cL_law 331 = .ok (.if_icmp .gt 58, 3) := by decide +kernel
theorem dL_law_334 : decode cL_law 334 = .ok (.aload_n 1, 1) := by decide +kernel
theorem dL_law_335 : decode cL_law 335 = .ok (.iload 15, 2) := by decide +kernel
theorem dL_law_337 : decode cL_law 337 = .ok (.invokevirtual 213, 3) := by decide +kernel
theorem dL_law_340 : decode cL_law 340 = .ok (.ifCond .lt 49, 3) := by decide +kernel
theorem dL_law_343 : decode cL_law 343 = .ok (.aload_n 1, 1) := by decide +kernel
theorem dL_law_344 : decode cL_law 344 = .ok (.iload 15, 2) := by decide +kernel
theorem dL_law_346 : decode cL_law 346 = .ok (.invokevirtual 213, 3) := by decide +kernel
theorem dL_law_349 : decode cL_law 349 = .ok (.bipush 100, 2) := by decide +kernel
theorem dL_law_351 : decode cL_law 351 = .ok (.if_icmp .gt 38, 3) := by decide +kernel
theorem dL_law_354 : decode cL_law 354 = .ok (.aload_n 1, 1) := by decide +kernel
theorem dL_law_355 : decode cL_law 355 = .ok (.iload 15, 2) := by decide +kernel
theorem dL_law_357 : decode cL_law 357 = .ok (.invokevirtual 194, 3) := by decide +kernel
theorem dL_law_360 : decode cL_law 360 = .ok (.bipush (-90), 2) := by decide +kernel
theorem dL_law_362 : decode cL_law 362 = .ok (.if_icmp .lt 27, 3) := by decide +kernel
theorem dL_law_365 : decode cL_law 365 = .ok (.aload_n 1, 1) := by decide +kernel
theorem dL_law_366 : decode cL_law 366 = .ok (.iload 15, 2) := by decide +kernel
theorem dL_law_368 : decode cL_law 368 = .ok (.invokevirtual 194, 3) := by decide +kernel
theorem dL_law_371 : decode cL_law 371 = .ok (.bipush 90, 2) := by decide +kernel
theorem dL_law_373 : decode cL_law 373 = .ok (.if_icmp .gt 16, 3) := by decide +kernel
theorem dL_law_376 : decode cL_law 376 = .ok (.aload_n 1, 1) := by decide +kernel
theorem dL_law_377 : decode cL_law 377 = .ok (.iload 15, 2) := by decide +kernel
theorem dL_law_379 : decode cL_law 379 = .ok (.invokevirtual 216, 3) := by decide +kernel
theorem dL_law_382 : decode cL_law 382 = .ok (.iconst 2, 1) := by decide +kernel
theorem dL_law_383 : decode cL_law 383 = .ok (.iload 11, 2) := by decide +kernel
theorem dL_law_385 : decode cL_law 385 = .ok (.imul, 1) := by decide +kernel
theorem dL_law_386 : decode cL_law 386 = .ok (.if_icmp .eq 5, 3) := by decide +kernel
theorem dL_law_389 : decode cL_law 389 = .ok (.iconst 0, 1) := by decide +kernel
theorem dL_law_390 : decode cL_law 390 = .ok (.ireturn, 1) := by decide +kernel
theorem dL_law_391 : decode cL_law 391 = .ok (.iload 16, 2) := by decide +kernel
theorem dL_law_393 : decode cL_law 393 = .ok (.istore 13, 2) := by decide +kernel
theorem dL_law_395 : decode cL_law 395 = .ok (.iinc 14 1, 3) := by decide +kernel
theorem dL_law_398 : decode cL_law 398 = .ok (.goto (-244), 3) := by decide +kernel
theorem dL_law_401 : decode cL_law 401 = .ok (.aload_n 1, 1) := by decide +kernel
theorem dL_law_402 : decode cL_law 402 = .ok (.invokevirtual 219, 3) := by decide +kernel
theorem dL_law_405 : decode cL_law 405 = .ok (.istore 14, 2) := by decide +kernel
theorem dL_law_407 : decode cL_law 407 = .ok (.iload 10, 2) := by decide +kernel
theorem dL_law_409 : decode cL_law 409 = .ok (.aload_n 1, 1) := by decide +kernel
theorem dL_law_410 : decode cL_law 410 = .ok (.invokevirtual 221, 3) := by decide +kernel
theorem dL_law_413 : decode cL_law 413 = .ok (.iadd, 1) := by decide +kernel
theorem dL_law_414 : decode cL_law 414 = .ok (.sipush 10000, 3) := by decide +kernel
theorem dL_law_417 : decode cL_law 417 = .ok (.if_icmp .ne 96, 3) := by decide +kernel
theorem dL_law_420 : decode cL_law 420 = .ok (.aload_n 1, 1) := by decide +kernel
theorem dL_law_421 : decode cL_law 421 = .ok (.invokevirtual 224, 3) := by decide +kernel
theorem dL_law_424 : decode cL_law 424 = .ok (.iconst 2, 1) := by decide +kernel
theorem dL_law_425 : decode cL_law 425 = .ok (.iload 11, 2) := by decide +kernel
theorem dL_law_427 : decode cL_law 427 = .ok (.imul, 1) := by decide +kernel
theorem dL_law_428 : decode cL_law 428 = .ok (.if_icmp .ne 85, 3) := by decide +kernel
theorem dL_law_431 : decode cL_law 431 = .ok (.iload 14, 2) := by decide +kernel
theorem dL_law_433 : decode cL_law 433 = .ok (.ifCond .lt 80, 3) := by decide +kernel
theorem dL_law_436 : decode cL_law 436 = .ok (.iload 14, 2) := by decide +kernel
theorem dL_law_438 : decode cL_law 438 = .ok (.bipush 12, 2) := by decide +kernel
theorem dL_law_440 : decode cL_law 440 = .ok (.if_icmp .gt 73, 3) := by decide +kernel
theorem dL_law_443 : decode cL_law 443 = .ok (.aload_n 1, 1) := by decide +kernel
theorem dL_law_444 : decode cL_law 444 = .ok (.invokevirtual 204, 3) := by decide +kernel
theorem dL_law_447 : decode cL_law 447 = .ok (.ifCond .le 8, 3) := by decide +kernel
theorem dL_law_450 : decode cL_law 450 = .ok (.iload 14, 2) := by decide +kernel
theorem dL_law_452 : decode cL_law 452 = .ok (.ifCond .eq 61, 3) := by decide +kernel
theorem dL_law_455 : decode cL_law 455 = .ok (.aload_n 1, 1) := by decide +kernel
theorem dL_law_456 : decode cL_law 456 = .ok (.invokevirtual 227, 3) := by decide +kernel
theorem dL_law_459 : decode cL_law 459 = .ok (.aload_n 1, 1) := by decide +kernel
theorem dL_law_460 : decode cL_law 460 = .ok (.invokevirtual 221, 3) := by decide +kernel
theorem dL_law_463 : decode cL_law 463 = .ok (.aload 5, 2) := by decide +kernel
theorem dL_law_465 : decode cL_law 465 = .ok (.getfield 57, 3) := by decide +kernel
theorem dL_law_468 : decode cL_law 468 = .ok (.if_icmp .lt 22, 3) := by decide +kernel
theorem dL_law_471 : decode cL_law 471 = .ok (.aload_n 1, 1) := by decide +kernel
theorem dL_law_472 : decode cL_law 472 = .ok (.invokevirtual 224, 3) := by decide +kernel
theorem dL_law_475 : decode cL_law 475 = .ok (.invokestatic 78, 3) := by decide +kernel
theorem dL_law_478 : decode cL_law 478 = .ok (.aload 5, 2) := by decide +kernel
theorem dL_law_480 : decode cL_law 480 = .ok (.getfield 40, 3) := by decide +kernel
theorem dL_law_483 : decode cL_law 483 = .ok (.if_icmp .gt 7, 3) := by decide +kernel
theorem dL_law_486 : decode cL_law 486 = .ok (.iconst 1, 1) := by decide +kernel
theorem dL_law_487 : decode cL_law 487 = .ok (.goto 4, 3) := by decide +kernel
theorem dL_law_490 : decode cL_law 490 = .ok (.iconst 0, 1) := by decide +kernel
theorem dL_law_491 : decode cL_law 491 = .ok (.if_icmp .ne 22, 3) := by decide +kernel
theorem dL_law_494 : decode cL_law 494 = .ok (.aload_n 1, 1) := by decide +kernel
theorem dL_law_495 : decode cL_law 495 = .ok (.invokevirtual 231, 3) := by decide +kernel
theorem dL_law_498 : decode cL_law 498 = .ok (.ifCond .ne 7, 3) := by decide +kernel
theorem dL_law_501 : decode cL_law 501 = .ok (.iconst 1, 1) := by decide +kernel
theorem dL_law_502 : decode cL_law 502 = .ok (.goto 4, 3) := by decide +kernel
theorem dL_law_505 : decode cL_law 505 = .ok (.iconst 0, 1) := by decide +kernel
theorem dL_law_506 : decode cL_law 506 = .ok (.aload_n 1, 1) := by decide +kernel
theorem dL_law_507 : decode cL_law 507 = .ok (.invokevirtual 227, 3) := by decide +kernel
theorem dL_law_510 : decode cL_law 510 = .ok (.if_icmp .eq 5, 3) := by decide +kernel
theorem dL_law_513 : decode cL_law 513 = .ok (.iconst 0, 1) := by decide +kernel
theorem dL_law_514 : decode cL_law 514 = .ok (.ireturn, 1) := by decide +kernel
theorem dL_law_515 : decode cL_law 515 = .ok (.iconst 0, 1) := by decide +kernel
theorem dL_law_516 : decode cL_law 516 = .ok (.istore 15, 2) := by decide +kernel
theorem dL_law_518 : decode cL_law 518 = .ok (.iload 15, 2) := by decide +kernel
theorem dL_law_520 : decode cL_law 520 = .ok (.iload 14, 2) := by decide +kernel
theorem dL_law_522 : decode cL_law 522 = .ok (.if_icmp .ge 57, 3) := by decide +kernel
theorem dL_law_525 : decode cL_law 525 = .ok (.iconst 0, 1) := by decide +kernel
theorem dL_law_526 : decode cL_law 526 = .ok (.istore 16, 2) := by decide +kernel
theorem dL_law_528 : decode cL_law 528 = .ok (.iload 16, 2) := by decide +kernel
theorem dL_law_530 : decode cL_law 530 = .ok (.iload 15, 2) := by decide +kernel
theorem dL_law_532 : decode cL_law 532 = .ok (.if_icmp .ge 41, 3) := by decide +kernel
theorem dL_law_535 : decode cL_law 535 = .ok (.aload_n 1, 1) := by decide +kernel
theorem dL_law_536 : decode cL_law 536 = .ok (.iload 15, 2) := by decide +kernel
theorem dL_law_538 : decode cL_law 538 = .ok (.invokevirtual 234, 3) := by decide +kernel
theorem dL_law_541 : decode cL_law 541 = .ok (.aload_n 1, 1) := by decide +kernel
theorem dL_law_542 : decode cL_law 542 = .ok (.iload 16, 2) := by decide +kernel
theorem dL_law_544 : decode cL_law 544 = .ok (.invokevirtual 234, 3) := by decide +kernel
theorem dL_law_547 : decode cL_law 547 = .ok (.if_icmp .ne 20, 3) := by decide +kernel
theorem dL_law_550 : decode cL_law 550 = .ok (.aload_n 1, 1) := by decide +kernel
theorem dL_law_551 : decode cL_law 551 = .ok (.iload 15, 2) := by decide +kernel
theorem dL_law_553 : decode cL_law 553 = .ok (.invokevirtual 207, 3) := by decide +kernel
theorem dL_law_556 : decode cL_law 556 = .ok (.aload_n 1, 1) := by decide +kernel
theorem dL_law_557 : decode cL_law 557 = .ok (.iload 16, 2) := by decide +kernel
theorem dL_law_559 : decode cL_law 559 = .ok (.invokevirtual 207, 3) := by decide +kernel
theorem dL_law_562 : decode cL_law 562 = .ok (.if_icmp .ne 5, 3) := by decide +kernel
theorem dL_law_565 : decode cL_law 565 = .ok (.iconst 0, 1) := by decide +kernel
theorem dL_law_566 : decode cL_law 566 = .ok (.ireturn, 1) := by decide +kernel
theorem dL_law_567 : decode cL_law 567 = .ok (.iinc 16 1, 3) := by decide +kernel
theorem dL_law_570 : decode cL_law 570 = .ok (.goto (-42), 3) := by decide +kernel
theorem dL_law_573 : decode cL_law 573 = .ok (.iinc 15 1, 3) := by decide +kernel
theorem dL_law_576 : decode cL_law 576 = .ok (.goto (-58), 3) := by decide +kernel
theorem dL_law_579 : decode cL_law 579 = .ok (.aload_n 3, 1) := by decide +kernel
theorem dL_law_580 : decode cL_law 580 = .ok (.iload 9, 2) := by decide +kernel
theorem dL_law_582 : decode cL_law 582 = .ok (.invokevirtual 35, 3) := by decide +kernel
theorem dL_law_585 : decode cL_law 585 = .ok (.istore 15, 2) := by decide +kernel
theorem dL_law_587 : decode cL_law 587 = .ok (.aload_n 1, 1) := by decide +kernel
theorem dL_law_588 : decode cL_law 588 = .ok (.iload 15, 2) := by decide +kernel
theorem dL_law_590 : decode cL_law 590 = .ok (.invokevirtual 194, 3) := by decide +kernel
theorem dL_law_593 : decode cL_law 593 = .ok (.istore 16, 2) := by decide +kernel
theorem dL_law_595 : decode cL_law 595 = .ok (.aload_n 1, 1) := by decide +kernel
theorem dL_law_596 : decode cL_law 596 = .ok (.invokevirtual 221, 3) := by decide +kernel
theorem dL_law_599 : decode cL_law 599 = .ok (.istore 17, 2) := by decide +kernel
theorem dL_law_601 : decode cL_law 601 = .ok (.aload_n 1, 1) := by decide +kernel
theorem dL_law_602 : decode cL_law 602 = .ok (.iload 15, 2) := by decide +kernel
theorem dL_law_604 : decode cL_law 604 = .ok (.invokevirtual 237, 3) := by decide +kernel
theorem dL_law_607 : decode cL_law 607 = .ok (.istore 18, 2) := by decide +kernel
theorem dL_law_609 : decode cL_law 609 = .ok (.aload_n 1, 1) := by decide +kernel
theorem dL_law_610 : decode cL_law 610 = .ok (.iload 15, 2) := by decide +kernel
theorem dL_law_612 : decode cL_law 612 = .ok (.iload 18, 2) := by decide +kernel
theorem dL_law_614 : decode cL_law 614 = .ok (.invokevirtual 132, 3) := by decide +kernel
theorem dL_law_617 : decode cL_law 617 = .ok (.iload 16, 2) := by decide +kernel
theorem dL_law_619 : decode cL_law 619 = .ok (.if_icmp .ne 46, 3) := by decide +kernel
theorem dL_law_622 : decode cL_law 622 = .ok (.aload_n 1, 1) := by decide +kernel
theorem dL_law_623 : decode cL_law 623 = .ok (.invokevirtual 221, 3) := by decide +kernel
theorem dL_law_626 : decode cL_law 626 = .ok (.iload 17, 2) := by decide +kernel
theorem dL_law_628 : decode cL_law 628 = .ok (.if_icmp .lt 37, 3) := by decide +kernel
theorem dL_law_631 : decode cL_law 631 = .ok (.aload_n 1, 1) := by decide +kernel
theorem dL_law_632 : decode cL_law 632 = .ok (.iload 15, 2) := by decide +kernel
theorem dL_law_634 : decode cL_law 634 = .ok (.invokevirtual 237, 3) := by decide +kernel
theorem dL_law_637 : decode cL_law 637 = .ok (.iload 18, 2) := by decide +kernel
theorem dL_law_639 : decode cL_law 639 = .ok (.if_icmp .ne 26, 3) := by decide +kernel
theorem dL_law_642 : decode cL_law 642 = .ok (.aload_n 1, 1) := by decide +kernel
theorem dL_law_643 : decode cL_law 643 = .ok (.iload 15, 2) := by decide +kernel
theorem dL_law_645 : decode cL_law 645 = .ok (.iload 16, 2) := by decide +kernel
theorem dL_law_647 : decode cL_law 647 = .ok (.invokevirtual 132, 3) := by decide +kernel
theorem dL_law_650 : decode cL_law 650 = .ok (.iload 18, 2) := by decide +kernel
theorem dL_law_652 : decode cL_law 652 = .ok (.if_icmp .ne 13, 3) := by decide +kernel
theorem dL_law_655 : decode cL_law 655 = .ok (.aload_n 1, 1) := by decide +kernel
theorem dL_law_656 : decode cL_law 656 = .ok (.invokevirtual 176, 3) := by decide +kernel
theorem dL_law_659 : decode cL_law 659 = .ok (.lload 7, 2) := by decide +kernel
theorem dL_law_661 : decode cL_law 661 = .ok (.lcmp, 1) := by decide +kernel
theorem dL_law_662 : decode cL_law 662 = .ok (.ifCond .eq 5, 3) := by decide +kernel
theorem dL_law_665 : decode cL_law 665 = .ok (.iconst 0, 1) := by decide +kernel
theorem dL_law_666 : decode cL_law 666 = .ok (.ireturn, 1) := by decide +kernel
theorem dL_law_667 : decode cL_law 667 = .ok (.aload_n 1, 1) := by decide +kernel
theorem dL_law_668 : decode cL_law 668 = .ok (.invokevirtual 231, 3) := by decide +kernel
theorem dL_law_671 : decode cL_law 671 = .ok (.istore 19, 2) := by decide +kernel
theorem dL_law_673 : decode cL_law 673 = .ok (.iload 14, 2) := by decide +kernel
theorem dL_law_675 : decode cL_law 675 = .ok (.ifCond .ne 7, 3) := by decide +kernel
theorem dL_law_678 : decode cL_law 678 = .ok (.iconst (-1), 1) := by decide +kernel
theorem dL_law_679 : decode cL_law 679 = .ok (.goto 9, 3) := by decide +kernel
theorem dL_law_682 : decode cL_law 682 = .ok (.aload_n 3, 1) := by decide +kernel
theorem dL_law_683 : decode cL_law 683 = .ok (.iload 14, 2) := by decide +kernel
theorem dL_law_685 : decode cL_law 685 = .ok (.invokevirtual 35, 3) := by decide +kernel
theorem dL_law_688 : decode cL_law 688 = .ok (.istore 20, 2) := by decide +kernel
theorem dL_law_690 : decode cL_law 690 = .ok (.iload 20, 2) := by decide +kernel
theorem dL_law_692 : decode cL_law 692 = .ok (.ifCond .ge 7, 3) := by decide +kernel
theorem dL_law_695 : decode cL_law 695 = .ok (.iconst (-1), 1) := by decide +kernel
theorem dL_law_696 : decode cL_law 696 = .ok (.goto 9, 3) := by decide +kernel
theorem dL_law_699 : decode cL_law 699 = .ok (.aload_n 1, 1) := by decide +kernel
theorem dL_law_700 : decode cL_law 700 = .ok (.iload 20, 2) := by decide +kernel
theorem dL_law_702 : decode cL_law 702 = .ok (.invokevirtual 240, 3) := by decide +kernel
theorem dL_law_705 : decode cL_law 705 = .ok (.istore 21, 2) := by decide +kernel
theorem dL_law_707 : decode cL_law 707 = .ok (.aload_n 1, 1) := by decide +kernel
theorem dL_law_708 : decode cL_law 708 = .ok (.invokevirtual 243, 3) := by decide +kernel
theorem dL_law_711 : decode cL_law 711 = .ok (.istore 22, 2) := by decide +kernel
theorem dL_law_713 : decode cL_law 713 = .ok (.iconst 1, 1) := by decide +kernel
theorem dL_law_714 : decode cL_law 714 = .ok (.aload_n 3, 1) := by decide +kernel
theorem dL_law_715 : decode cL_law 715 = .ok (.bipush 25, 2) := by decide +kernel
theorem dL_law_717 : decode cL_law 717 = .ok (.invokevirtual 35, 3) := by decide +kernel
theorem dL_law_720 : decode cL_law 720 = .ok (.iadd, 1) := by decide +kernel
theorem dL_law_721 : decode cL_law 721 = .ok (.istore 23, 2) := by decide +kernel
theorem dL_law_723 : decode cL_law 723 = .ok (.aload_n 1, 1) := by decide +kernel
theorem dL_law_724 : decode cL_law 724 = .ok (.iload 23, 2) := by decide +kernel
theorem dL_law_726 : decode cL_law 726 = .ok (.invokevirtual 246, 3) := by decide +kernel
theorem dL_law_729 : decode cL_law 729 = .ok (.istore 24, 2) := by decide +kernel
theorem dL_law_731 : decode cL_law 731 = .ok (.aload_n 1, 1) := by decide +kernel
theorem dL_law_732 : decode cL_law 732 = .ok (.invokevirtual 176, 3) := by decide +kernel
theorem dL_law_735 : decode cL_law 735 = .ok (.lload 7, 2) := by decide +kernel
theorem dL_law_737 : decode cL_law 737 = .ok (.lcmp, 1) := by decide +kernel
theorem dL_law_738 : decode cL_law 738 = .ok (.ifCond .ne 28, 3) := by decide +kernel
theorem dL_law_741 : decode cL_law 741 = .ok (.iload 21, 2) := by decide +kernel
theorem dL_law_743 : decode cL_law 743 = .ok (.ifCond .eq 23, 3) := by decide +kernel
theorem dL_law_746 : decode cL_law 746 = .ok (.iload 20, 2) := by decide +kernel
theorem dL_law_748 : decode cL_law 748 = .ok (.ifCond .le 20, 3) := by decide +kernel
theorem dL_law_751 : decode cL_law 751 = .ok (.iload 21, 2) := by decide +kernel
theorem dL_law_753 : decode cL_law 753 = .ok (.ifCond .le 15, 3) := by decide +kernel
theorem dL_law_756 : decode cL_law 756 = .ok (.aload_n 1, 1) := by decide +kernel
theorem dL_law_757 : decode cL_law 757 = .ok (.iconst 0, 1) := by decide +kernel
theorem dL_law_758 : decode cL_law 758 = .ok (.invokevirtual 240, 3) := by decide +kernel
theorem dL_law_761 : decode cL_law 761 = .ok (.iload 21, 2) := by decide +kernel
theorem dL_law_763 : decode cL_law 763 = .ok (.if_icmp .lt 5, 3) := by decide +kernel
theorem dL_law_766 : decode cL_law 766 = .ok (.iconst 0, 1) := by decide +kernel
theorem dL_law_767 : decode cL_law 767 = .ok (.ireturn, 1) := by decide +kernel
theorem dL_law_768 : decode cL_law 768 = .ok (.iconst 1, 1) := by decide +kernel
theorem dL_law_769 : decode cL_law 769 = .ok (.istore 25, 2) := by decide +kernel
theorem dL_law_771 : decode cL_law 771 = .ok (.iload 25, 2) := by decide +kernel
theorem dL_law_773 : decode cL_law 773 = .ok (.iload 23, 2) := by decide +kernel
theorem dL_law_775 : decode cL_law 775 = .ok (.if_icmp .gt 161, 3) := by decide +kernel
theorem dL_law_778 : decode cL_law 778 = .ok (.aload_n 1, 1) := by decide +kernel
theorem dL_law_779 : decode cL_law 779 = .ok (.invokevirtual 243, 3) := by decide +kernel
theorem dL_law_782 : decode cL_law 782 = .ok (.istore 26, 2) := by decide +kernel
theorem dL_law_784 : decode cL_law 784 = .ok (.aload_n 1, 1) := by decide +kernel
theorem dL_law_785 : decode cL_law 785 = .ok (.iconst 1, 1) := by decide +kernel
theorem dL_law_786 : decode cL_law 786 = .ok (.invokevirtual 102, 3) := by decide +kernel
theorem dL_law_789 : decode cL_law 789 = .ok (.istore 27, 2) := by decide +kernel
theorem dL_law_791 : decode cL_law 791 = .ok (.iload 27, 2) := by decide +kernel
theorem dL_law_793 : decode cL_law 793 = .ok (.aload 5, 2) := by decide +kernel
theorem dL_law_795 : decode cL_law 795 = .ok (.invokevirtual 249, 3) := by decide +kernel
theorem dL_law_798 : decode cL_law 798 = .ok (.if_icmp .ne 39, 3) := by decide +kernel
theorem dL_law_801 : decode cL_law 801 = .ok (.iload 27, 2) := by decide +kernel
theorem dL_law_803 : decode cL_law 803 = .ok (.ifCond .lt 34, 3) := by decide +kernel
theorem dL_law_806 : decode cL_law 806 = .ok (.iload 27, 2) := by decide +kernel
theorem dL_law_808 : decode cL_law 808 = .ok (.iconst 1, 1) := by decide +kernel
theorem dL_law_809 : decode cL_law 809 = .ok (.if_icmp .gt 28, 3) := by decide +kernel
theorem dL_law_812 : decode cL_law 812 = .ok (.aload_n 1, 1) := by decide +kernel
theorem dL_law_813 : decode cL_law 813 = .ok (.invokevirtual 243, 3) := by decide +kernel
theorem dL_law_816 : decode cL_law 816 = .ok (.iload 26, 2) := by decide +kernel
theorem dL_law_818 : decode cL_law 818 = .ok (.iload 27, 2) := by decide +kernel
theorem dL_law_820 : decode cL_law 820 = .ok (.iadd, 1) := by decide +kernel
theorem dL_law_821 : decode cL_law 821 = .ok (.if_icmp .ne 16, 3) := by decide +kernel
theorem dL_law_824 : decode cL_law 824 = .ok (.iload 27, 2) := by decide +kernel
theorem dL_law_826 : decode cL_law 826 = .ok (.iconst 1, 1) := by decide +kernel
theorem dL_law_827 : decode cL_law 827 = .ok (.if_icmp .ne 12, 3) := by decide +kernel
theorem dL_law_830 : decode cL_law 830 = .ok (.aload_n 1, 1) := by decide +kernel
theorem dL_law_831 : decode cL_law 831 = .ok (.invokevirtual 204, 3) := by decide +kernel
theorem dL_law_834 : decode cL_law 834 = .ok (.ifCond .le 5, 3) := by decide +kernel
theorem dL_law_837 : decode cL_law 837 = .ok (.iconst 0, 1) := by decide +kernel
theorem dL_law_838 : decode cL_law 838 = .ok (.ireturn, 1) := by decide +kernel
theorem dL_law_839 : decode cL_law 839 = .ok (.iload 19, 2) := by decide +kernel
theorem dL_law_841 : decode cL_law 841 = .ok (.ifCond .le 29, 3) := by decide +kernel
theorem dL_law_844 : decode cL_law 844 = .ok (.iload 25, 2) := by decide +kernel
theorem dL_law_846 : decode cL_law 846 = .ok (.iload 19, 2) := by decide +kernel
theorem dL_law_848 : decode cL_law 848 = .ok (.if_icmp .gt 22, 3) := by decide +kernel
theorem dL_law_851 : decode cL_law 851 = .ok (.aload_n 1, 1) := by decide +kernel
theorem dL_law_852 : decode cL_law 852 = .ok (.invokevirtual 227, 3) := by decide +kernel
theorem dL_law_855 : decode cL_law 855 = .ok (.iload 25, 2) := by decide +kernel
theorem dL_law_857 : decode cL_law 857 = .ok (.iload 19, 2) := by decide +kernel
theorem dL_law_859 : decode cL_law 859 = .ok (.if_icmp .ne 7, 3) := by decide +kernel
theorem dL_law_862 : decode cL_law 862 = .ok (.iconst 1, 1) := by decide +kernel
theorem dL_law_863 : decode cL_law 863 = .ok (.goto 4, 3) := by decide +kernel
theorem dL_law_866 : decode cL_law 866 = .ok (.iconst 0, 1) := by decide +kernel
theorem dL_law_867 : decode cL_law 867 = .ok (.if_icmp .ne 15, 3) := by decide +kernel
theorem dL_law_870 : decode cL_law 870 = .ok (.iload 19, 2) := by decide +kernel
theorem dL_law_872 : decode cL_law 872 = .ok (.ifCond .ge 12, 3) := by decide +kernel
theorem dL_law_875 : decode cL_law 875 = .ok (.aload_n 1, 1) := by decide +kernel
theorem dL_law_876 : decode cL_law 876 = .ok (.invokevirtual 227, 3) := by decide +kernel
theorem dL_law_879 : decode cL_law 879 = .ok (.ifCond .eq 5, 3) := by decide +kernel
theorem dL_law_882 : decode cL_law 882 = .ok (.iconst 0, 1) := by decide +kernel
theorem dL_law_883 : decode cL_law 883 = .ok (.ireturn, 1) := by decide +kernel
theorem dL_law_884 : decode cL_law 884 = .ok (.iload 21, 2) := by decide +kernel
theorem dL_law_886 : decode cL_law 886 = .ok (.ifCond .le 44, 3) := by decide +kernel
theorem dL_law_889 : decode cL_law 889 = .ok (.iload 25, 2) := by decide +kernel
theorem dL_law_891 : decode cL_law 891 = .ok (.iload 21, 2) := by decide +kernel
theorem dL_law_893 : decode cL_law 893 = .ok (.if_icmp .gt 37, 3) := by decide +kernel
theorem dL_law_896 : decode cL_law 896 = .ok (.aload_n 1, 1) := by decide +kernel
theorem dL_law_897 : decode cL_law 897 = .ok (.invokevirtual 243, 3) := by decide +kernel
theorem dL_law_900 : decode cL_law 900 = .ok (.iload 22, 2) := by decide +kernel
theorem dL_law_902 : decode cL_law 902 = .ok (.isub, 1) := by decide +kernel
theorem dL_law_903 : decode cL_law 903 = .ok (.iload 20, 2) := by decide +kernel
theorem dL_law_905 : decode cL_law 905 = .ok (.if_icmp .le 7, 3) := by decide +kernel
theorem dL_law_908 : decode cL_law 908 = .ok (.iconst 1, 1) := by decide +kernel
theorem dL_law_909 : decode cL_law 909 = .ok (.goto 4, 3) := by decide +kernel
theorem dL_law_912 : decode cL_law 912 = .ok (.iconst 0, 1) := by decide +kernel
theorem dL_law_913 : decode cL_law 913 = .ok (.iload 25, 2) := by decide +kernel
theorem dL_law_915 : decode cL_law 915 = .ok (.iload 21, 2) := by decide +kernel
theorem dL_law_917 : decode cL_law 917 = .ok (.if_icmp .ne 7, 3) := by decide +kernel
theorem dL_law_920 : decode cL_law 920 = .ok (.iconst 1, 1) := by decide +kernel
theorem dL_law_921 : decode cL_law 921 = .ok (.goto 4, 3) := by decide +kernel
theorem dL_law_924 : decode cL_law 924 = .ok (.iconst 0, 1) := by decide +kernel
theorem dL_law_925 : decode cL_law 925 = .ok (.if_icmp .eq 5, 3) := by decide +kernel
theorem dL_law_928 : decode cL_law 928 = .ok (.iconst 0, 1) := by decide +kernel
theorem dL_law_929 : decode cL_law 929 = .ok (.ireturn, 1) := by decide +kernel
theorem dL_law_930 : decode cL_law 930 = .ok (.iinc 25 1, 3) := by decide +kernel
theorem dL_law_933 : decode cL_law 933 = .ok (.goto (-162), 3) := by decide +kernel
theorem dL_law_936 : decode cL_law 936 = .ok (.aload_n 1, 1) := by decide +kernel
theorem dL_law_937 : decode cL_law 937 = .ok (.invokevirtual 221, 3) := by decide +kernel
theorem dL_law_940 : decode cL_law 940 = .ok (.iload 24, 2) := by decide +kernel
theorem dL_law_942 : decode cL_law 942 = .ok (.if_icmp .eq 5, 3) := by decide +kernel
theorem dL_law_945 : decode cL_law 945 = .ok (.iconst 0, 1) := by decide +kernel
theorem dL_law_946 : decode cL_law 946 = .ok (.ireturn, 1) := by decide +kernel
theorem dL_law_947 : decode cL_law 947 = .ok (.aload_n 1, 1) := by decide +kernel
theorem dL_law_948 : decode cL_law 948 = .ok (.invokevirtual 251, 3) := by decide +kernel
theorem dL_law_951 : decode cL_law 951 = .ok (.istore 25, 2) := by decide +kernel
theorem dL_law_953 : decode cL_law 953 = .ok (.iload 25, 2) := by decide +kernel
theorem dL_law_955 : decode cL_law 955 = .ok (.ifCond .lt 20, 3) := by decide +kernel
theorem dL_law_958 : decode cL_law 958 = .ok (.aload_n 1, 1) := by decide +kernel
theorem dL_law_959 : decode cL_law 959 = .ok (.iload 25, 2) := by decide +kernel
theorem dL_law_961 : decode cL_law 961 = .ok (.invokevirtual 210, 3) := by decide +kernel
theorem dL_law_964 : decode cL_law 964 = .ok (.aload_n 1, 1) := by decide +kernel
theorem dL_law_965 : decode cL_law 965 = .ok (.iload 25, 2) := by decide +kernel
theorem dL_law_967 : decode cL_law 967 = .ok (.invokevirtual 213, 3) := by decide +kernel
theorem dL_law_970 : decode cL_law 970 = .ok (.if_icmp .lt 5, 3) := by decide +kernel
theorem dL_law_973 : decode cL_law 973 = .ok (.iconst 0, 1) := by decide +kernel
theorem dL_law_974 : decode cL_law 974 = .ok (.ireturn, 1) := by decide +kernel
theorem dL_law_975 : decode cL_law 975 = .ok (.iinc 6 1, 3) := by decide +kernel
theorem dL_law_978 : decode cL_law 978 = .ok (.goto (-890), 3) := by decide +kernel
theorem dL_law_981 : decode cL_law 981 = .ok (.aload 5, 2) := by decide +kernel
theorem dL_law_983 : decode cL_law 983 = .ok (.aload_n 1, 1) := by decide +kernel
theorem dL_law_984 : decode cL_law 984 = .ok (.invokevirtual 254, 3) := by decide +kernel
theorem dL_law_987 : decode cL_law 987 = .ok (.ifCond .ne 5, 3) := by decide +kernel
theorem dL_law_990 : decode cL_law 990 = .ok (.iconst 0, 1) := by decide +kernel
theorem dL_law_991 : decode cL_law 991 = .ok (.ireturn, 1) := by decide +kernel
theorem dL_law_992 : decode cL_law 992 = .ok (.aload_n 3, 1) := by decide +kernel
theorem dL_law_993 : decode cL_law 993 = .ok (.bipush 101, 2) := by decide +kernel
theorem dL_law_995 : decode cL_law 995 = .ok (.invokevirtual 35, 3) := by decide +kernel
theorem dL_law_998 : decode cL_law 998 = .ok (.istore 6, 2) := by decide +kernel
theorem dL_law_1000 : decode cL_law 1000 = .ok (.iconst 1, 1) := by decide +kernel
theorem dL_law_1001 : decode cL_law 1001 = .ok (.aload_n 3, 1) := by decide +kernel
theorem dL_law_1002 : decode cL_law 1002 = .ok (.bipush 99, 2) := by decide +kernel
theorem dL_law_1004 : decode cL_law 1004 = .ok (.invokevirtual 35, 3) := by decide +kernel
theorem dL_law_1007 : decode cL_law 1007 = .ok (.iadd, 1) := by decide +kernel
theorem dL_law_1008 : decode cL_law 1008 = .ok (.istore 7, 2) := by decide +kernel
theorem dL_law_1010 : decode cL_law 1010 = .ok (.aload_n 1, 1) := by decide +kernel
theorem dL_law_1011 : decode cL_law 1011 = .ok (.new 47, 3) := by decide +kernel
theorem dL_law_1014 : decode cL_law 1014 = .ok (.dup, 1) := by decide +kernel
theorem dL_law_1015 : decode cL_law 1015 = .ok (.invokespecial 160, 3) := by decide +kernel
theorem dL_law_1018 : decode cL_law 1018 = .ok (.ldc_w 258, 3) := by decide +kernel
theorem dL_law_1021 : decode cL_law 1021 = .ok (.invokevirtual 46, 3) := by decide +kernel
theorem dL_law_1024 : decode cL_law 1024 = .ok (.iload 6, 2) := by decide +kernel
theorem dL_law_1026 : decode cL_law 1026 = .ok (.invokevirtual 52, 3) := by decide +kernel
theorem dL_law_1029 : decode cL_law 1029 = .ok (.ldc_w 260, 3) := by decide +kernel
theorem dL_law_1032 : decode cL_law 1032 = .ok (.invokevirtual 46, 3) := by decide +kernel
theorem dL_law_1035 : decode cL_law 1035 = .ok (.iload 7, 2) := by decide +kernel
theorem dL_law_1037 : decode cL_law 1037 = .ok (.invokevirtual 52, 3) := by decide +kernel
theorem dL_law_1040 : decode cL_law 1040 = .ok (.ldc_w 262, 3) := by decide +kernel
theorem dL_law_1043 : decode cL_law 1043 = .ok (.invokevirtual 46, 3) := by decide +kernel
theorem dL_law_1046 : decode cL_law 1046 = .ok (.invokevirtual 165, 3) := by decide +kernel
theorem dL_law_1049 : decode cL_law 1049 = .ok (.invokestatic 168, 3) := by decide +kernel
theorem dL_law_1052 : decode cL_law 1052 = .ok (.ifCond .eq 5, 3) := by decide +kernel
theorem dL_law_1055 : decode cL_law 1055 = .ok (.iconst 0, 1) := by decide +kernel
theorem dL_law_1056 : decode cL_law 1056 = .ok (.ireturn, 1) := by decide +kernel
theorem dL_law_1057 : decode cL_law 1057 = .ok (.aload_n 1, 1) := by decide +kernel
theorem dL_law_1058 : decode cL_law 1058 = .ok (.invokevirtual 251, 3) := by decide +kernel
theorem dL_law_1061 : decode cL_law 1061 = .ok (.istore 8, 2) := by decide +kernel
theorem dL_law_1063 : decode cL_law 1063 = .ok (.aload_n 1, 1) := by decide +kernel
theorem dL_law_1064 : decode cL_law 1064 = .ok (.invokevirtual 221, 3) := by decide +kernel
theorem dL_law_1067 : decode cL_law 1067 = .ok (.istore 9, 2) := by decide +kernel
theorem dL_law_1069 : decode cL_law 1069 = .ok (.iload 8, 2) := by decide +kernel
theorem dL_law_1071 : decode cL_law 1071 = .ok (.ifCond .lt 47, 3) := by decide +kernel
theorem dL_law_1074 : decode cL_law 1074 = .ok (.aload_n 1, 1) := by decide +kernel
theorem dL_law_1075 : decode cL_law 1075 = .ok (.iload 8, 2) := by decide +kernel
theorem dL_law_1077 : decode cL_law 1077 = .ok (.iconst 0, 1) := by decide +kernel
theorem dL_law_1078 : decode cL_law 1078 = .ok (.invokevirtual 116, 3) := by decide +kernel
theorem dL_law_1081 : decode cL_law 1081 = .ok (.iconst 1, 1) := by decide +kernel
theorem dL_law_1082 : decode cL_law 1082 = .ok (.if_icmp .ne 53, 3) := by decide +kernel
theorem dL_law_1085 : decode cL_law 1085 = .ok (.aload_n 1, 1) := by decide +kernel
theorem dL_law_1086 : decode cL_law 1086 = .ok (.aload_n 1, 1) := by decide +kernel
theorem dL_law_1087 : decode cL_law 1087 = .ok (.iconst 0, 1) := by decide +kernel
theorem dL_law_1088 : decode cL_law 1088 = .ok (.invokevirtual 240, 3) := by decide +kernel
theorem dL_law_1091 : decode cL_law 1091 = .ok (.invokevirtual 102, 3) := by decide +kernel
theorem dL_law_1094 : decode cL_law 1094 = .ok (.iconst 1, 1) := by decide +kernel
theorem dL_law_1095 : decode cL_law 1095 = .ok (.if_icmp .ne 40, 3) := by decide +kernel
theorem dL_law_1098 : decode cL_law 1098 = .ok (.aload_n 1, 1) := by decide +kernel
theorem dL_law_1099 : decode cL_law 1099 = .ok (.invokevirtual 221, 3) := by decide +kernel
theorem dL_law_1102 : decode cL_law 1102 = .ok (.iload 9, 2) := by decide +kernel
theorem dL_law_1104 : decode cL_law 1104 = .ok (.if_icmp .le 31, 3) := by decide +kernel
theorem dL_law_1107 : decode cL_law 1107 = .ok (.aload_n 1, 1) := by decide +kernel
theorem dL_law_1108 : decode cL_law 1108 = .ok (.iload 8, 2) := by decide +kernel
theorem dL_law_1110 : decode cL_law 1110 = .ok (.invokevirtual 210, 3) := by decide +kernel
theorem dL_law_1113 : decode cL_law 1113 = .ok (.bipush 100, 2) := by decide +kernel
theorem dL_law_1115 : decode cL_law 1115 = .ok (.if_icmp .ne 20, 3) := by decide +kernel
theorem dL_law_1118 : decode cL_law 1118 = .ok (.iload 8, 2) := by decide +kernel
theorem dL_law_1120 : decode cL_law 1120 = .ok (.ifCond .ge 17, 3) := by decide +kernel
theorem dL_law_1123 : decode cL_law 1123 = .ok (.iload 9, 2) := by decide +kernel
theorem dL_law_1125 : decode cL_law 1125 = .ok (.ifCond .le 12, 3) := by decide +kernel
theorem dL_law_1128 : decode cL_law 1128 = .ok (.iload 6, 2) := by decide +kernel
theorem dL_law_1130 : decode cL_law 1130 = .ok (.bipush 100, 2) := by decide +kernel
theorem dL_law_1132 : decode cL_law 1132 = .ok (.if_icmp .ge 5, 3) := by decide +kernel
theorem dL_law_1135 : decode cL_law 1135 = .ok (.iconst 0, 1) := by decide +kernel
theorem dL_law_1136 : decode cL_law 1136 = .ok (.ireturn, 1) := by decide +kernel
theorem dL_law_1137 : decode cL_law 1137 = .ok (.iinc 2 1, 3) := by decide +kernel
theorem dL_law_1140 : decode cL_law 1140 = .ok (.goto (-1130), 3) := by decide +kernel
theorem dL_law_1143 : decode cL_law 1143 = .ok (.iconst 1, 1) := by decide +kernel
theorem dL_law_1144 : decode cL_law 1144 = .ok (.ireturn, 1) := by decide +kernel
