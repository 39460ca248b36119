theorem dX4_init_0 : decode cX4_init 0 = .ok (.aload_n 0, 1) := by decide +kernel
theorem dX4_init_1 : decode cX4_init 1 = .ok (.invokespecial 3, 3) := by decide +kernel
theorem dX4_init_4 : decode cX4_init 4 = .ok (.aload_n 0, 1) := by decide +kernel
theorem dX4_init_5 : decode cX4_init 5 = .ok (.bipush 10, 2) := by decide +kernel
theorem dX4_init_7 : decode cX4_init 7 = .ok (.newarray .int, 2) := by decide +kernel
theorem dX4_init_9 : decode cX4_init 9 = .ok (.putfield 9, 3) := by decide +kernel
theorem dX4_init_12 : decode cX4_init 12 = .ok (.aload_n 0, 1) := by decide +kernel
theorem dX4_init_13 : decode cX4_init 13 = .ok (.bipush 10, 2) := by decide +kernel
theorem dX4_init_15 : decode cX4_init 15 = .ok (.newarray .int, 2) := by decide +kernel
theorem dX4_init_17 : decode cX4_init 17 = .ok (.putfield 15, 3) := by decide +kernel
theorem dX4_init_20 : decode cX4_init 20 = .ok (.aload_n 0, 1) := by decide +kernel
theorem dX4_init_21 : decode cX4_init 21 = .ok (.bipush 10, 2) := by decide +kernel
theorem dX4_init_23 : decode cX4_init 23 = .ok (.newarray .int, 2) := by decide +kernel
theorem dX4_init_25 : decode cX4_init 25 = .ok (.putfield 18, 3) := by decide +kernel
theorem dX4_init_28 : decode cX4_init 28 = .ok (.aload_n 0, 1) := by decide +kernel
theorem dX4_init_29 : decode cX4_init 29 = .ok (.bipush 10, 2) := by decide +kernel
theorem dX4_init_31 : decode cX4_init 31 = .ok (.newarray .int, 2) := by decide +kernel
theorem dX4_init_33 : decode cX4_init 33 = .ok (.putfield 21, 3) := by decide +kernel
theorem dX4_init_36 : decode cX4_init 36 = .ok (.aload_n 0, 1) := by decide +kernel
theorem dX4_init_37 : decode cX4_init 37 = .ok (.bipush 10, 2) := by decide +kernel
theorem dX4_init_39 : decode cX4_init 39 = .ok (.newarray .int, 2) := by decide +kernel
theorem dX4_init_41 : decode cX4_init 41 = .ok (.putfield 24, 3) := by decide +kernel
theorem dX4_init_44 : decode cX4_init 44 = .ok (.aload_n 0, 1) := by decide +kernel
theorem dX4_init_45 : decode cX4_init 45 = .ok (.bipush 10, 2) := by decide +kernel
theorem dX4_init_47 : decode cX4_init 47 = .ok (.newarray .int, 2) := by decide +kernel
theorem dX4_init_49 : decode cX4_init 49 = .ok (.putfield 27, 3) := by decide +kernel
theorem dX4_init_52 : decode cX4_init 52 = .ok (.aload_n 0, 1) := by decide +kernel
theorem dX4_init_53 : decode cX4_init 53 = .ok (.bipush 10, 2) := by decide +kernel
theorem dX4_init_55 : decode cX4_init 55 = .ok (.newarray .int, 2) := by decide +kernel
theorem dX4_init_57 : decode cX4_init 57 = .ok (.putfield 30, 3) := by decide +kernel
theorem dX4_init_60 : decode cX4_init 60 = .ok (.aload_n 0, 1) := by decide +kernel
theorem dX4_init_61 : decode cX4_init 61 = .ok (.bipush 60, 2) := by decide +kernel
theorem dX4_init_63 : decode cX4_init 63 = .ok (.putfield 33, 3) := by decide +kernel
theorem dX4_init_66 : decode cX4_init 66 = .ok (.aload_n 0, 1) := by decide +kernel
theorem dX4_init_67 : decode cX4_init 67 = .ok (.sipush 1000, 3) := by decide +kernel
theorem dX4_init_70 : decode cX4_init 70 = .ok (.putfield 37, 3) := by decide +kernel
theorem dX4_init_73 : decode cX4_init 73 = .ok (.aload_n 0, 1) := by decide +kernel
theorem dX4_init_74 : decode cX4_init 74 = .ok (.iconst (-1), 1) := by decide +kernel
theorem dX4_init_75 : decode cX4_init 75 = .ok (.putfield 40, 3) := by decide +kernel
theorem dX4_init_78 : decode cX4_init 78 = .ok (.return_, 1) := by decide +kernel
theorem dX4_begin_0 : decode cX4_begin 0 = .ok (.aload_n 0, 1) := by decide +kernel
theorem dX4_begin_1 : decode cX4_begin 1 = .ok (.aload_n 1, 1) := by decide +kernel
theorem dX4_begin_2 : decode cX4_begin 2 = .ok (.getfield 43, 3) := by decide +kernel
theorem dX4_begin_5 : decode cX4_begin 5 = .ok (.bipush 10, 2) := by decide +kernel
theorem dX4_begin_7 : decode cX4_begin 7 = .ok (.invokestatic 48, 3) := by decide +kernel
theorem dX4_begin_10 : decode cX4_begin 10 = .ok (.putfield 54, 3) := by decide +kernel
theorem dX4_begin_13 : decode cX4_begin 13 = .ok (.aload_n 0, 1) := by decide +kernel
theorem dX4_begin_14 : decode cX4_begin 14 = .ok (.aload_n 1, 1) := by decide +kernel
theorem dX4_begin_15 : decode cX4_begin 15 = .ok (.getfield 57, 3) := by decide +kernel
theorem dX4_begin_18 : decode cX4_begin 18 = .ok (.putfield 33, 3) := by decide +kernel
theorem dX4_begin_21 : decode cX4_begin 21 = .ok (.aload_n 0, 1) := by decide +kernel
theorem dX4_begin_22 : decode cX4_begin 22 = .ok (.aload_n 1, 1) := by decide +kernel
theorem dX4_begin_23 : decode cX4_begin 23 = .ok (.getfield 58, 3) := by decide +kernel
theorem dX4_begin_26 : decode cX4_begin 26 = .ok (.putfield 37, 3) := by decide +kernel
theorem dX4_begin_29 : decode cX4_begin 29 = .ok (.aload_n 0, 1) := by decide +kernel
theorem dX4_begin_30 : decode cX4_begin 30 = .ok (.iconst (-1), 1) := by decide +kernel
theorem dX4_begin_31 : decode cX4_begin 31 = .ok (.putfield 40, 3) := by decide +kernel
theorem dX4_begin_34 : decode cX4_begin 34 = .ok (.aload_n 0, 1) := by decide +kernel
theorem dX4_begin_35 : decode cX4_begin 35 = .ok (.iconst 0, 1) := by decide +kernel
theorem dX4_begin_36 : decode cX4_begin 36 = .ok (.putfield 59, 3) := by decide +kernel
theorem dX4_begin_39 : decode cX4_begin 39 = .ok (.iconst 0, 1) := by decide +kernel
theorem dX4_begin_40 : decode cX4_begin 40 = .ok (.istore_n 2, 1) := by decide +kernel
theorem dX4_begin_41 : decode cX4_begin 41 = .ok (.iload_n 2, 1) := by decide +kernel
theorem dX4_begin_42 : decode cX4_begin 42 = .ok (.aload_n 0, 1) := by decide +kernel
theorem dX4_begin_43 : decode cX4_begin 43 = .ok (.getfield 54, 3) := by decide +kernel
theorem dX4_begin_46 : decode cX4_begin 46 = .ok (.if_icmp .ge 48, 3) := by decide +kernel
theorem dX4_begin_49 : decode cX4_begin 49 = .ok (.aload_n 0, 1) := by decide +kernel
theorem dX4_begin_50 : decode cX4_begin 50 = .ok (.getfield 9, 3) := by decide +kernel
theorem dX4_begin_53 : decode cX4_begin 53 = .ok (.iload_n 2, 1) := by decide +kernel
theorem dX4_begin_54 : decode cX4_begin 54 = .ok (.aload_n 1, 1) := by decide +kernel
theorem dX4_begin_55 : decode cX4_begin 55 = .ok (.getfield 63, 3) := by decide +kernel
theorem dX4_begin_58 : decode cX4_begin 58 = .ok (.iload_n 2, 1) := by decide +kernel
theorem dX4_begin_59 : decode cX4_begin 59 = .ok (.iaload, 1) := by decide +kernel
theorem dX4_begin_60 : decode cX4_begin 60 = .ok (.iastore, 1) := by decide +kernel
theorem dX4_begin_61 : decode cX4_begin 61 = .ok (.aload_n 0, 1) := by decide +kernel
theorem dX4_begin_62 : decode cX4_begin 62 = .ok (.getfield 15, 3) := by decide +kernel
theorem dX4_begin_65 : decode cX4_begin 65 = .ok (.iload_n 2, 1) := by decide +kernel
theorem dX4_begin_66 : decode cX4_begin 66 = .ok (.bipush 100, 2) := by decide +kernel
theorem dX4_begin_68 : decode cX4_begin 68 = .ok (.iastore, 1) := by decide +kernel
theorem dX4_begin_69 : decode cX4_begin 69 = .ok (.aload_n 0, 1) := by decide +kernel
theorem dX4_begin_70 : decode cX4_begin 70 = .ok (.getfield 18, 3) := by decide +kernel
theorem dX4_begin_73 : decode cX4_begin 73 = .ok (.iload_n 2, 1) := by decide +kernel
theorem dX4_begin_74 : decode cX4_begin 74 = .ok (.aload_n 1, 1) := by decide +kernel
theorem dX4_begin_75 : decode cX4_begin 75 = .ok (.getfield 64, 3) := by decide +kernel
theorem dX4_begin_78 : decode cX4_begin 78 = .ok (.iload_n 2, 1) := by decide +kernel
theorem dX4_begin_79 : decode cX4_begin 79 = .ok (.iaload, 1) := by decide +kernel
theorem dX4_begin_80 : decode cX4_begin 80 = .ok (.iastore, 1) := by decide +kernel
theorem dX4_begin_81 : decode cX4_begin 81 = .ok (.aload_n 0, 1) := by decide +kernel
theorem dX4_begin_82 : decode cX4_begin 82 = .ok (.getfield 21, 3) := by decide +kernel
theorem dX4_begin_85 : decode cX4_begin 85 = .ok (.iload_n 2, 1) := by decide +kernel
theorem dX4_begin_86 : decode cX4_begin 86 = .ok (.iload_n 2, 1) := by decide +kernel
theorem dX4_begin_87 : decode cX4_begin 87 = .ok (.iastore, 1) := by decide +kernel
theorem dX4_begin_88 : decode cX4_begin 88 = .ok (.iinc 2 1, 3) := by decide +kernel
theorem dX4_begin_91 : decode cX4_begin 91 = .ok (.goto (-50), 3) := by decide +kernel
theorem dX4_begin_94 : decode cX4_begin 94 = .ok (.return_, 1) := by decide +kernel
theorem dX4_copy_0 : decode cX4_copy 0 = .ok (.aload_n 1, 1) := by decide +kernel
theorem dX4_copy_1 : decode cX4_copy 1 = .ok (.getfield 9, 3) := by decide +kernel
theorem dX4_copy_4 : decode cX4_copy 4 = .ok (.iconst 0, 1) := by decide +kernel
theorem dX4_copy_5 : decode cX4_copy 5 = .ok (.aload_n 0, 1) := by decide +kernel
theorem dX4_copy_6 : decode cX4_copy 6 = .ok (.getfield 9, 3) := by decide +kernel
theorem dX4_copy_9 : decode cX4_copy 9 = .ok (.iconst 0, 1) := by decide +kernel
theorem dX4_copy_10 : decode cX4_copy 10 = .ok (.bipush 10, 2) := by decide +kernel
theorem dX4_copy_12 : decode cX4_copy 12 = .ok (.invokestatic 65, 3) := by decide +kernel
theorem dX4_copy_15 : decode cX4_copy 15 = .ok (.aload_n 1, 1) := by decide +kernel
theorem dX4_copy_16 : decode cX4_copy 16 = .ok (.getfield 15, 3) := by decide +kernel
theorem dX4_copy_19 : decode cX4_copy 19 = .ok (.iconst 0, 1) := by decide +kernel
theorem dX4_copy_20 : decode cX4_copy 20 = .ok (.aload_n 0, 1) := by decide +kernel
theorem dX4_copy_21 : decode cX4_copy 21 = .ok (.getfield 15, 3) := by decide +kernel
theorem dX4_copy_24 : decode cX4_copy 24 = .ok (.iconst 0, 1) := by decide +kernel
theorem dX4_copy_25 : decode cX4_copy 25 = .ok (.bipush 10, 2) := by decide +kernel
theorem dX4_copy_27 : decode cX4_copy 27 = .ok (.invokestatic 65, 3) := by decide +kernel
theorem dX4_copy_30 : decode cX4_copy 30 = .ok (.aload_n 1, 1) := by decide +kernel
theorem dX4_copy_31 : decode cX4_copy 31 = .ok (.getfield 18, 3) := by decide +kernel
theorem dX4_copy_34 : decode cX4_copy 34 = .ok (.iconst 0, 1) := by decide +kernel
theorem dX4_copy_35 : decode cX4_copy 35 = .ok (.aload_n 0, 1) := by decide +kernel
theorem dX4_copy_36 : decode cX4_copy 36 = .ok (.getfield 18, 3) := by decide +kernel
theorem dX4_copy_39 : decode cX4_copy 39 = .ok (.iconst 0, 1) := by decide +kernel
theorem dX4_copy_40 : decode cX4_copy 40 = .ok (.bipush 10, 2) := by decide +kernel
theorem dX4_copy_42 : decode cX4_copy 42 = .ok (.invokestatic 65, 3) := by decide +kernel
theorem dX4_copy_45 : decode cX4_copy 45 = .ok (.aload_n 1, 1) := by decide +kernel
theorem dX4_copy_46 : decode cX4_copy 46 = .ok (.getfield 21, 3) := by decide +kernel
theorem dX4_copy_49 : decode cX4_copy 49 = .ok (.iconst 0, 1) := by decide +kernel
theorem dX4_copy_50 : decode cX4_copy 50 = .ok (.aload_n 0, 1) := by decide +kernel
theorem dX4_copy_51 : decode cX4_copy 51 = .ok (.getfield 21, 3) := by decide +kernel
theorem dX4_copy_54 : decode cX4_copy 54 = .ok (.iconst 0, 1) := by decide +kernel
theorem dX4_copy_55 : decode cX4_copy 55 = .ok (.bipush 10, 2) := by decide +kernel
theorem dX4_copy_57 : decode cX4_copy 57 = .ok (.invokestatic 65, 3) := by decide +kernel
theorem dX4_copy_60 : decode cX4_copy 60 = .ok (.aload_n 0, 1) := by decide +kernel
theorem dX4_copy_61 : decode cX4_copy 61 = .ok (.aload_n 1, 1) := by decide +kernel
theorem dX4_copy_62 : decode cX4_copy 62 = .ok (.getfield 54, 3) := by decide +kernel
theorem dX4_copy_65 : decode cX4_copy 65 = .ok (.putfield 54, 3) := by decide +kernel
theorem dX4_copy_68 : decode cX4_copy 68 = .ok (.aload_n 0, 1) := by decide +kernel
theorem dX4_copy_69 : decode cX4_copy 69 = .ok (.aload_n 1, 1) := by decide +kernel
theorem dX4_copy_70 : decode cX4_copy 70 = .ok (.getfield 33, 3) := by decide +kernel
theorem dX4_copy_73 : decode cX4_copy 73 = .ok (.putfield 33, 3) := by decide +kernel
theorem dX4_copy_76 : decode cX4_copy 76 = .ok (.aload_n 0, 1) := by decide +kernel
theorem dX4_copy_77 : decode cX4_copy 77 = .ok (.aload_n 1, 1) := by decide +kernel
theorem dX4_copy_78 : decode cX4_copy 78 = .ok (.getfield 37, 3) := by decide +kernel
theorem dX4_copy_81 : decode cX4_copy 81 = .ok (.putfield 37, 3) := by decide +kernel
theorem dX4_copy_84 : decode cX4_copy 84 = .ok (.aload_n 0, 1) := by decide +kernel
theorem dX4_copy_85 : decode cX4_copy 85 = .ok (.aload_n 1, 1) := by decide +kernel
theorem dX4_copy_86 : decode cX4_copy 86 = .ok (.getfield 40, 3) := by decide +kernel
theorem dX4_copy_89 : decode cX4_copy 89 = .ok (.putfield 40, 3) := by decide +kernel
theorem dX4_copy_92 : decode cX4_copy 92 = .ok (.aload_n 0, 1) := by decide +kernel
theorem dX4_copy_93 : decode cX4_copy 93 = .ok (.iconst 0, 1) := by decide +kernel
theorem dX4_copy_94 : decode cX4_copy 94 = .ok (.putfield 59, 3) := by decide +kernel
theorem dX4_copy_97 : decode cX4_copy 97 = .ok (.return_, 1) := by decide +kernel
theorem dX4_has_0 : decode cX4_has 0 = .ok (.iload_n 1, 1) := by decide +kernel
theorem dX4_has_1 : decode cX4_has 1 = .ok (.ifCond .lt 15, 3) := by decide +kernel
theorem dX4_has_4 : decode cX4_has 4 = .ok (.iload_n 1, 1) := by decide +kernel
theorem dX4_has_5 : decode cX4_has 5 = .ok (.aload_n 0, 1) := by decide +kernel
theorem dX4_has_6 : decode cX4_has 6 = .ok (.getfield 54, 3) := by decide +kernel
theorem dX4_has_9 : decode cX4_has 9 = .ok (.if_icmp .ge 7, 3) := by decide +kernel
theorem dX4_has_12 : decode cX4_has 12 = .ok (.iconst 1, 1) := by decide +kernel
theorem dX4_has_13 : decode cX4_has 13 = .ok (.goto 4, 3) := by decide +kernel
theorem dX4_has_16 : decode cX4_has 16 = .ok (.iconst 0, 1) := by decide +kernel
theorem dX4_has_17 : decode cX4_has 17 = .ok (.ireturn, 1) := by decide +kernel
theorem dX4_mirrorIn_0 : decode cX4_mirrorIn 0 = .ok (.iload_n 1, 1) := by decide +kernel
theorem dX4_mirrorIn_1 : decode cX4_mirrorIn 1 = .ok (.ifCond .lt 20, 3) := by decide +kernel
theorem dX4_mirrorIn_4 : decode cX4_mirrorIn 4 = .ok (.iload_n 1, 1) := by decide +kernel
theorem dX4_mirrorIn_5 : decode cX4_mirrorIn 5 = .ok (.aload_n 0, 1) := by decide +kernel
theorem dX4_mirrorIn_6 : decode cX4_mirrorIn 6 = .ok (.getfield 54, 3) := by decide +kernel
theorem dX4_mirrorIn_9 : decode cX4_mirrorIn 9 = .ok (.if_icmp .ge 12, 3) := by decide +kernel
theorem dX4_mirrorIn_12 : decode cX4_mirrorIn 12 = .ok (.aload_n 0, 1) := by decide +kernel
theorem dX4_mirrorIn_13 : decode cX4_mirrorIn 13 = .ok (.getfield 21, 3) := by decide +kernel
theorem dX4_mirrorIn_16 : decode cX4_mirrorIn 16 = .ok (.iload_n 1, 1) := by decide +kernel
theorem dX4_mirrorIn_17 : decode cX4_mirrorIn 17 = .ok (.iaload, 1) := by decide +kernel
theorem dX4_mirrorIn_18 : decode cX4_mirrorIn 18 = .ok (.goto 4, 3) := by decide +kernel
theorem dX4_mirrorIn_21 : decode cX4_mirrorIn 21 = .ok (.iconst (-1), 1) := by decide +kernel
theorem dX4_mirrorIn_22 : decode cX4_mirrorIn 22 = .ok (.ireturn, 1) := by decide +kernel
theorem dX4_findPlace_0 : decode cX4_findPlace 0 = .ok (.iconst 0, 1) := by decide +kernel
theorem dX4_findPlace_1 : decode cX4_findPlace 1 = .ok (.istore_n 2, 1) := by decide +kernel
theorem dX4_findPlace_2 : decode cX4_findPlace 2 = .ok (.iload_n 2, 1) := by decide +kernel
theorem dX4_findPlace_3 : decode cX4_findPlace 3 = .ok (.aload_n 0, 1) := by decide +kernel
theorem dX4_findPlace_4 : decode cX4_findPlace 4 = .ok (.getfield 54, 3) := by decide +kernel
theorem dX4_findPlace_7 : decode cX4_findPlace 7 = .ok (.if_icmp .ge 21, 3) := by decide +kernel
theorem dX4_findPlace_10 : decode cX4_findPlace 10 = .ok (.aload_n 0, 1) := by decide +kernel
theorem dX4_findPlace_11 : decode cX4_findPlace 11 = .ok (.getfield 21, 3) := by decide +kernel
theorem dX4_findPlace_14 : decode cX4_findPlace 14 = .ok (.iload_n 2, 1) := by decide +kernel
theorem dX4_findPlace_15 : decode cX4_findPlace 15 = .ok (.iaload, 1) := by decide +kernel
theorem dX4_findPlace_16 : decode cX4_findPlace 16 = .ok (.iload_n 1, 1) := by decide +kernel
theorem dX4_findPlace_17 : decode cX4_findPlace 17 = .ok (.if_icmp .ne 5, 3) := by decide +kernel
theorem dX4_findPlace_20 : decode cX4_findPlace 20 = .ok (.iload_n 2, 1) := by decide +kernel
theorem dX4_findPlace_21 : decode cX4_findPlace 21 = .ok (.ireturn, 1) := by decide +kernel
theorem dX4_findPlace_22 : decode cX4_findPlace 22 = .ok (.iinc 2 1, 3) := by decide +kernel
theorem dX4_findPlace_25 : decode cX4_findPlace 25 = .ok (.goto (-23), 3) := by decide +kernel
theorem dX4_findPlace_28 : decode cX4_findPlace 28 = .ok (.iconst (-1), 1) := by decide +kernel
theorem dX4_findPlace_29 : decode cX4_findPlace 29 = .ok (.ireturn, 1) := by decide +kernel
theorem dX4_valueOf_0 : decode cX4_valueOf 0 = .ok (.aload_n 0, 1) := by decide +kernel
theorem dX4_valueOf_1 : decode cX4_valueOf 1 = .ok (.iload_n 2, 1) := by decide +kernel
theorem dX4_valueOf_2 : decode cX4_valueOf 2 = .ok (.invokevirtual 71, 3) := by decide +kernel
theorem dX4_valueOf_5 : decode cX4_valueOf 5 = .ok (.ifCond .ne 5, 3) := by decide +kernel
theorem dX4_valueOf_8 : decode cX4_valueOf 8 = .ok (.iconst 0, 1) := by decide +kernel
theorem dX4_valueOf_9 : decode cX4_valueOf 9 = .ok (.ireturn, 1) := by decide +kernel
theorem dX4_valueOf_10 : decode cX4_valueOf 10 = .ok (.aload_n 0, 1) := by decide +kernel
theorem dX4_valueOf_11 : decode cX4_valueOf 11 = .ok (.invokevirtual 75, 3) := by decide +kernel
theorem dX4_valueOf_14 : decode cX4_valueOf 14 = .ok (.iload_n 1, 1) := by decide +kernel
theorem dX4_valueOf_15 : decode cX4_valueOf 15 = .ok (.tableswitch 123 129 145 #[81, 95, 123, 123, 123, 123, 123, 123, 123, 123, 123, 123, 102, 123, 109, 116, 88], 81) := by decide +kernel
theorem dX4_valueOf_96 : decode cX4_valueOf 96 = .ok (.aload_n 0, 1) := by decide +kernel
theorem dX4_valueOf_97 : decode cX4_valueOf 97 = .ok (.getfield 9, 3) := by decide +kernel
theorem dX4_valueOf_100 : decode cX4_valueOf 100 = .ok (.iload_n 2, 1) := by decide +kernel
theorem dX4_valueOf_101 : decode cX4_valueOf 101 = .ok (.iaload, 1) := by decide +kernel
theorem dX4_valueOf_102 : decode cX4_valueOf 102 = .ok (.ireturn, 1) := by decide +kernel
theorem dX4_valueOf_103 : decode cX4_valueOf 103 = .ok (.aload_n 0, 1) := by decide +kernel
theorem dX4_valueOf_104 : decode cX4_valueOf 104 = .ok (.getfield 15, 3) := by decide +kernel
theorem dX4_valueOf_107 : decode cX4_valueOf 107 = .ok (.iload_n 2, 1) := by decide +kernel
theorem dX4_valueOf_108 : decode cX4_valueOf 108 = .ok (.iaload, 1) := by decide +kernel
theorem dX4_valueOf_109 : decode cX4_valueOf 109 = .ok (.ireturn, 1) := by decide +kernel
theorem dX4_valueOf_110 : decode cX4_valueOf 110 = .ok (.aload_n 0, 1) := by decide +kernel
theorem dX4_valueOf_111 : decode cX4_valueOf 111 = .ok (.getfield 18, 3) := by decide +kernel
theorem dX4_valueOf_114 : decode cX4_valueOf 114 = .ok (.iload_n 2, 1) := by decide +kernel
theorem dX4_valueOf_115 : decode cX4_valueOf 115 = .ok (.iaload, 1) := by decide +kernel
theorem dX4_valueOf_116 : decode cX4_valueOf 116 = .ok (.ireturn, 1) := by decide +kernel
theorem dX4_valueOf_117 : decode cX4_valueOf 117 = .ok (.aload_n 0, 1) := by decide +kernel
theorem dX4_valueOf_118 : decode cX4_valueOf 118 = .ok (.getfield 24, 3) := by decide +kernel
theorem dX4_valueOf_121 : decode cX4_valueOf 121 = .ok (.iload_n 2, 1) := by decide +kernel
theorem dX4_valueOf_122 : decode cX4_valueOf 122 = .ok (.iaload, 1) := by decide +kernel
theorem dX4_valueOf_123 : decode cX4_valueOf 123 = .ok (.ireturn, 1) := by decide +kernel
theorem dX4_valueOf_124 : decode cX4_valueOf 124 = .ok (.aload_n 0, 1) := by decide +kernel
theorem dX4_valueOf_125 : decode cX4_valueOf 125 = .ok (.getfield 27, 3) := by decide +kernel
theorem dX4_valueOf_128 : decode cX4_valueOf 128 = .ok (.iload_n 2, 1) := by decide +kernel
theorem dX4_valueOf_129 : decode cX4_valueOf 129 = .ok (.iaload, 1) := by decide +kernel
theorem dX4_valueOf_130 : decode cX4_valueOf 130 = .ok (.ireturn, 1) := by decide +kernel
theorem dX4_valueOf_131 : decode cX4_valueOf 131 = .ok (.aload_n 0, 1) := by decide +kernel
theorem dX4_valueOf_132 : decode cX4_valueOf 132 = .ok (.getfield 30, 3) := by decide +kernel
theorem dX4_valueOf_135 : decode cX4_valueOf 135 = .ok (.iload_n 2, 1) := by decide +kernel
theorem dX4_valueOf_136 : decode cX4_valueOf 136 = .ok (.iaload, 1) := by decide +kernel
theorem dX4_valueOf_137 : decode cX4_valueOf 137 = .ok (.ireturn, 1) := by decide +kernel
theorem dX4_valueOf_138 : decode cX4_valueOf 138 = .ok (.iconst 0, 1) := by decide +kernel
theorem dX4_valueOf_139 : decode cX4_valueOf 139 = .ok (.ireturn, 1) := by decide +kernel
theorem dX4_lastLight_0 : decode cX4_lastLight 0 = .ok (.aload_n 0, 1) := by decide +kernel
theorem dX4_lastLight_1 : decode cX4_lastLight 1 = .ok (.invokevirtual 75, 3) := by decide +kernel
theorem dX4_lastLight_4 : decode cX4_lastLight 4 = .ok (.aload_n 0, 1) := by decide +kernel
theorem dX4_lastLight_5 : decode cX4_lastLight 5 = .ok (.getfield 78, 3) := by decide +kernel
theorem dX4_lastLight_8 : decode cX4_lastLight 8 = .ok (.ireturn, 1) := by decide +kernel
theorem dX4_lastTilt_0 : decode cX4_lastTilt 0 = .ok (.aload_n 0, 1) := by decide +kernel
theorem dX4_lastTilt_1 : decode cX4_lastTilt 1 = .ok (.invokevirtual 75, 3) := by decide +kernel
theorem dX4_lastTilt_4 : decode cX4_lastTilt 4 = .ok (.aload_n 0, 1) := by decide +kernel
theorem dX4_lastTilt_5 : decode cX4_lastTilt 5 = .ok (.getfield 81, 3) := by decide +kernel
theorem dX4_lastTilt_8 : decode cX4_lastTilt 8 = .ok (.ireturn, 1) := by decide +kernel
theorem dX4_showsLight_0 : decode cX4_showsLight 0 = .ok (.aload_n 0, 1) := by decide +kernel
theorem dX4_showsLight_1 : decode cX4_showsLight 1 = .ok (.invokevirtual 75, 3) := by decide +kernel
theorem dX4_showsLight_4 : decode cX4_showsLight 4 = .ok (.aload_n 0, 1) := by decide +kernel
theorem dX4_showsLight_5 : decode cX4_showsLight 5 = .ok (.getfield 78, 3) := by decide +kernel
theorem dX4_showsLight_8 : decode cX4_showsLight 8 = .ok (.aload_n 0, 1) := by decide +kernel
theorem dX4_showsLight_9 : decode cX4_showsLight 9 = .ok (.getfield 37, 3) := by decide +kernel
theorem dX4_showsLight_12 : decode cX4_showsLight 12 = .ok (.if_icmp .lt 18, 3) := by decide +kernel
theorem dX4_showsLight_15 : decode cX4_showsLight 15 = .ok (.aload_n 0, 1) := by decide +kernel
theorem dX4_showsLight_16 : decode cX4_showsLight 16 = .ok (.aload_n 0, 1) := by decide +kernel
theorem dX4_showsLight_17 : decode cX4_showsLight 17 = .ok (.getfield 81, 3) := by decide +kernel
theorem dX4_showsLight_20 : decode cX4_showsLight 20 = .ok (.invokevirtual 84, 3) := by decide +kernel
theorem dX4_showsLight_23 : decode cX4_showsLight 23 = .ok (.ifCond .eq 7, 3) := by decide +kernel
theorem dX4_showsLight_26 : decode cX4_showsLight 26 = .ok (.iconst 1, 1) := by decide +kernel
theorem dX4_showsLight_27 : decode cX4_showsLight 27 = .ok (.goto 4, 3) := by decide +kernel
theorem dX4_showsLight_30 : decode cX4_showsLight 30 = .ok (.iconst 0, 1) := by decide +kernel
theorem dX4_showsLight_31 : decode cX4_showsLight 31 = .ok (.ireturn, 1) := by decide +kernel
theorem dX4_mostLosing_0 : decode cX4_mostLosing 0 = .ok (.aload_n 0, 1) := by decide +kernel
theorem dX4_mostLosing_1 : decode cX4_mostLosing 1 = .ok (.invokevirtual 75, 3) := by decide +kernel
theorem dX4_mostLosing_4 : decode cX4_mostLosing 4 = .ok (.aload_n 0, 1) := by decide +kernel
theorem dX4_mostLosing_5 : decode cX4_mostLosing 5 = .ok (.iconst 0, 1) := by decide +kernel
theorem dX4_mostLosing_6 : decode cX4_mostLosing 6 = .ok (.invokevirtual 87, 3) := by decide +kernel
theorem dX4_mostLosing_9 : decode cX4_mostLosing 9 = .ok (.istore_n 1, 1) := by decide +kernel
theorem dX4_mostLosing_10 : decode cX4_mostLosing 10 = .ok (.iconst 1, 1) := by decide +kernel
theorem dX4_mostLosing_11 : decode cX4_mostLosing 11 = .ok (.istore_n 2, 1) := by decide +kernel
theorem dX4_mostLosing_12 : decode cX4_mostLosing 12 = .ok (.iload_n 2, 1) := by decide +kernel
theorem dX4_mostLosing_13 : decode cX4_mostLosing 13 = .ok (.aload_n 0, 1) := by decide +kernel
theorem dX4_mostLosing_14 : decode cX4_mostLosing 14 = .ok (.getfield 54, 3) := by decide +kernel
theorem dX4_mostLosing_17 : decode cX4_mostLosing 17 = .ok (.if_icmp .ge 48, 3) := by decide +kernel
theorem dX4_mostLosing_20 : decode cX4_mostLosing 20 = .ok (.aload_n 0, 1) := by decide +kernel
theorem dX4_mostLosing_21 : decode cX4_mostLosing 21 = .ok (.iload_n 2, 1) := by decide +kernel
theorem dX4_mostLosing_22 : decode cX4_mostLosing 22 = .ok (.invokevirtual 87, 3) := by decide +kernel
theorem dX4_mostLosing_25 : decode cX4_mostLosing 25 = .ok (.istore_n 3, 1) := by decide +kernel
theorem dX4_mostLosing_26 : decode cX4_mostLosing 26 = .ok (.aload_n 0, 1) := by decide +kernel
theorem dX4_mostLosing_27 : decode cX4_mostLosing 27 = .ok (.iload_n 3, 1) := by decide +kernel
theorem dX4_mostLosing_28 : decode cX4_mostLosing 28 = .ok (.invokevirtual 71, 3) := by decide +kernel
theorem dX4_mostLosing_31 : decode cX4_mostLosing 31 = .ok (.ifCond .eq 28, 3) := by decide +kernel
theorem dX4_mostLosing_34 : decode cX4_mostLosing 34 = .ok (.aload_n 0, 1) := by decide +kernel
theorem dX4_mostLosing_35 : decode cX4_mostLosing 35 = .ok (.iload_n 1, 1) := by decide +kernel
theorem dX4_mostLosing_36 : decode cX4_mostLosing 36 = .ok (.invokevirtual 71, 3) := by decide +kernel
theorem dX4_mostLosing_39 : decode cX4_mostLosing 39 = .ok (.ifCond .eq 20, 3) := by decide +kernel
theorem dX4_mostLosing_42 : decode cX4_mostLosing 42 = .ok (.aload_n 0, 1) := by decide +kernel
theorem dX4_mostLosing_43 : decode cX4_mostLosing 43 = .ok (.getfield 27, 3) := by decide +kernel
theorem dX4_mostLosing_46 : decode cX4_mostLosing 46 = .ok (.iload_n 3, 1) := by decide +kernel
theorem dX4_mostLosing_47 : decode cX4_mostLosing 47 = .ok (.iaload, 1) := by decide +kernel
theorem dX4_mostLosing_48 : decode cX4_mostLosing 48 = .ok (.aload_n 0, 1) := by decide +kernel
theorem dX4_mostLosing_49 : decode cX4_mostLosing 49 = .ok (.getfield 27, 3) := by decide +kernel
theorem dX4_mostLosing_52 : decode cX4_mostLosing 52 = .ok (.iload_n 1, 1) := by decide +kernel
theorem dX4_mostLosing_53 : decode cX4_mostLosing 53 = .ok (.iaload, 1) := by decide +kernel
theorem dX4_mostLosing_54 : decode cX4_mostLosing 54 = .ok (.if_icmp .le 5, 3) := by decide +kernel
theorem dX4_mostLosing_57 : decode cX4_mostLosing 57 = .ok (.iload_n 3, 1) := by decide +kernel
theorem dX4_mostLosing_58 : decode cX4_mostLosing 58 = .ok (.istore_n 1, 1) := by decide +kernel
theorem dX4_mostLosing_59 : decode cX4_mostLosing 59 = .ok (.iinc 2 1, 3) := by decide +kernel
theorem dX4_mostLosing_62 : decode cX4_mostLosing 62 = .ok (.goto (-50), 3) := by decide +kernel
theorem dX4_mostLosing_65 : decode cX4_mostLosing 65 = .ok (.iload_n 1, 1) := by decide +kernel
theorem dX4_mostLosing_66 : decode cX4_mostLosing 66 = .ok (.ireturn, 1) := by decide +kernel
theorem dX4_isWithinWidth_0 : decode cX4_isWithinWidth 0 = .ok (.iload_n 1, 1) := by decide +kernel
theorem dX4_isWithinWidth_1 : decode cX4_isWithinWidth 1 = .ok (.aload_n 0, 1) := by decide +kernel
theorem dX4_isWithinWidth_2 : decode cX4_isWithinWidth 2 = .ok (.getfield 33, 3) := by decide +kernel
theorem dX4_isWithinWidth_5 : decode cX4_isWithinWidth 5 = .ok (.if_icmp .gt 16, 3) := by decide +kernel
theorem dX4_isWithinWidth_8 : decode cX4_isWithinWidth 8 = .ok (.iload_n 1, 1) := by decide +kernel
theorem dX4_isWithinWidth_9 : decode cX4_isWithinWidth 9 = .ok (.aload_n 0, 1) := by decide +kernel
theorem dX4_isWithinWidth_10 : decode cX4_isWithinWidth 10 = .ok (.getfield 33, 3) := by decide +kernel
theorem dX4_isWithinWidth_13 : decode cX4_isWithinWidth 13 = .ok (.ineg, 1) := by decide +kernel
theorem dX4_isWithinWidth_14 : decode cX4_isWithinWidth 14 = .ok (.if_icmp .lt 7, 3) := by decide +kernel
theorem dX4_isWithinWidth_17 : decode cX4_isWithinWidth 17 = .ok (.iconst 1, 1) := by decide +kernel
theorem dX4_isWithinWidth_18 : decode cX4_isWithinWidth 18 = .ok (.goto 4, 3) := by decide +kernel
theorem dX4_isWithinWidth_21 : decode cX4_isWithinWidth 21 = .ok (.iconst 0, 1) := by decide +kernel
theorem dX4_isWithinWidth_22 : decode cX4_isWithinWidth 22 = .ok (.ireturn, 1) := by decide +kernel
theorem dX4_shine_0 : decode cX4_shine 0 = .ok (.aload_n 0, 1) := by decide +kernel
theorem dX4_shine_1 : decode cX4_shine 1 = .ok (.getfield 59, 3) := by decide +kernel
theorem dX4_shine_4 : decode cX4_shine 4 = .ok (.ifCond .eq 4, 3) := by decide +kernel
theorem dX4_shine_7 : decode cX4_shine 7 = .ok (.return_, 1) := by decide +kernel
theorem dX4_shine_8 : decode cX4_shine 8 = .ok (.sipush 10000, 3) := by decide +kernel
theorem dX4_shine_11 : decode cX4_shine 11 = .ok (.istore_n 1, 1) := by decide +kernel
theorem dX4_shine_12 : decode cX4_shine 12 = .ok (.iconst 0, 1) := by decide +kernel
theorem dX4_shine_13 : decode cX4_shine 13 = .ok (.istore_n 2, 1) := by decide +kernel
theorem dX4_shine_14 : decode cX4_shine 14 = .ok (.iconst 0, 1) := by decide +kernel
theorem dX4_shine_15 : decode cX4_shine 15 = .ok (.istore_n 3, 1) := by decide +kernel
theorem dX4_shine_16 : decode cX4_shine 16 = .ok (.iload_n 3, 1) := by decide +kernel
theorem dX4_shine_17 : decode cX4_shine 17 = .ok (.aload_n 0, 1) := by decide +kernel
theorem dX4_shine_18 : decode cX4_shine 18 = .ok (.getfield 54, 3) := by decide +kernel
theorem dX4_shine_21 : decode cX4_shine 21 = .ok (.if_icmp .ge 127, 3) := by decide +kernel
theorem dX4_shine_24 : decode cX4_shine 24 = .ok (.aload_n 0, 1) := by decide +kernel
theorem dX4_shine_25 : decode cX4_shine 25 = .ok (.iload_n 3, 1) := by decide +kernel
theorem dX4_shine_26 : decode cX4_shine 26 = .ok (.invokevirtual 87, 3) := by decide +kernel
theorem dX4_shine_29 : decode cX4_shine 29 = .ok (.istore 4, 2) := by decide +kernel
theorem dX4_shine_31 : decode cX4_shine 31 = .ok (.aload_n 0, 1) := by decide +kernel
theorem dX4_shine_32 : decode cX4_shine 32 = .ok (.iload 4, 2) := by decide +kernel
theorem dX4_shine_34 : decode cX4_shine 34 = .ok (.invokevirtual 71, 3) := by decide +kernel
theorem dX4_shine_37 : decode cX4_shine 37 = .ok (.ifCond .eq 105, 3) := by decide +kernel
theorem dX4_shine_40 : decode cX4_shine 40 = .ok (.iload 4, 2) := by decide +kernel
theorem dX4_shine_42 : decode cX4_shine 42 = .ok (.aload_n 0, 1) := by decide +kernel
theorem dX4_shine_43 : decode cX4_shine 43 = .ok (.getfield 40, 3) := by decide +kernel
theorem dX4_shine_46 : decode cX4_shine 46 = .ok (.if_icmp .eq 11, 3) := by decide +kernel
theorem dX4_shine_49 : decode cX4_shine 49 = .ok (.aload_n 0, 1) := by decide +kernel
theorem dX4_shine_50 : decode cX4_shine 50 = .ok (.iload_n 2, 1) := by decide +kernel
theorem dX4_shine_51 : decode cX4_shine 51 = .ok (.invokevirtual 84, 3) := by decide +kernel
theorem dX4_shine_54 : decode cX4_shine 54 = .ok (.ifCond .ne 7, 3) := by decide +kernel
theorem dX4_shine_57 : decode cX4_shine 57 = .ok (.iconst 1, 1) := by decide +kernel
theorem dX4_shine_58 : decode cX4_shine 58 = .ok (.goto 4, 3) := by decide +kernel
theorem dX4_shine_61 : decode cX4_shine 61 = .ok (.iconst 0, 1) := by decide +kernel
theorem dX4_shine_62 : decode cX4_shine 62 = .ok (.istore 5, 2) := by decide +kernel
theorem dX4_shine_64 : decode cX4_shine 64 = .ok (.aload_n 0, 1) := by decide +kernel
theorem dX4_shine_65 : decode cX4_shine 65 = .ok (.getfield 24, 3) := by decide +kernel
theorem dX4_shine_68 : decode cX4_shine 68 = .ok (.iload 4, 2) := by decide +kernel
theorem dX4_shine_70 : decode cX4_shine 70 = .ok (.iload 5, 2) := by decide +kernel
theorem dX4_shine_72 : decode cX4_shine 72 = .ok (.ifCond .eq 7, 3) := by decide +kernel
theorem dX4_shine_75 : decode cX4_shine 75 = .ok (.iconst 0, 1) := by decide +kernel
theorem dX4_shine_76 : decode cX4_shine 76 = .ok (.goto 15, 3) := by decide +kernel
theorem dX4_shine_79 : decode cX4_shine 79 = .ok (.iload_n 1, 1) := by decide +kernel
theorem dX4_shine_80 : decode cX4_shine 80 = .ok (.aload_n 0, 1) := by decide +kernel
theorem dX4_shine_81 : decode cX4_shine 81 = .ok (.getfield 9, 3) := by decide +kernel
theorem dX4_shine_84 : decode cX4_shine 84 = .ok (.iload 4, 2) := by decide +kernel
theorem dX4_shine_86 : decode cX4_shine 86 = .ok (.iaload, 1) := by decide +kernel
theorem dX4_shine_87 : decode cX4_shine 87 = .ok (.imul, 1) := by decide +kernel
theorem dX4_shine_88 : decode cX4_shine 88 = .ok (.bipush 100, 2) := by decide +kernel
theorem dX4_shine_90 : decode cX4_shine 90 = .ok (.idiv, 1) := by decide +kernel
theorem dX4_shine_91 : decode cX4_shine 91 = .ok (.iastore, 1) := by decide +kernel
theorem dX4_shine_92 : decode cX4_shine 92 = .ok (.aload_n 0, 1) := by decide +kernel
theorem dX4_shine_93 : decode cX4_shine 93 = .ok (.getfield 27, 3) := by decide +kernel
theorem dX4_shine_96 : decode cX4_shine 96 = .ok (.iload 4, 2) := by decide +kernel
theorem dX4_shine_98 : decode cX4_shine 98 = .ok (.iload_n 1, 1) := by decide +kernel
theorem dX4_shine_99 : decode cX4_shine 99 = .ok (.aload_n 0, 1) := by decide +kernel
theorem dX4_shine_100 : decode cX4_shine 100 = .ok (.getfield 24, 3) := by decide +kernel
theorem dX4_shine_103 : decode cX4_shine 103 = .ok (.iload 4, 2) := by decide +kernel
theorem dX4_shine_105 : decode cX4_shine 105 = .ok (.iaload, 1) := by decide +kernel
theorem dX4_shine_106 : decode cX4_shine 106 = .ok (.isub, 1) := by decide +kernel
theorem dX4_shine_107 : decode cX4_shine 107 = .ok (.iastore, 1) := by decide +kernel
theorem dX4_shine_108 : decode cX4_shine 108 = .ok (.aload_n 0, 1) := by decide +kernel
theorem dX4_shine_109 : decode cX4_shine 109 = .ok (.getfield 30, 3) := by decide +kernel
theorem dX4_shine_112 : decode cX4_shine 112 = .ok (.iload 4, 2) := by decide +kernel
theorem dX4_shine_114 : decode cX4_shine 114 = .ok (.iload_n 2, 1) := by decide +kernel
theorem dX4_shine_115 : decode cX4_shine 115 = .ok (.iconst 2, 1) := by decide +kernel
theorem dX4_shine_116 : decode cX4_shine 116 = .ok (.aload_n 0, 1) := by decide +kernel
theorem dX4_shine_117 : decode cX4_shine 117 = .ok (.getfield 18, 3) := by decide +kernel
theorem dX4_shine_120 : decode cX4_shine 120 = .ok (.iload 4, 2) := by decide +kernel
theorem dX4_shine_122 : decode cX4_shine 122 = .ok (.iaload, 1) := by decide +kernel
theorem dX4_shine_123 : decode cX4_shine 123 = .ok (.imul, 1) := by decide +kernel
theorem dX4_shine_124 : decode cX4_shine 124 = .ok (.iadd, 1) := by decide +kernel
theorem dX4_shine_125 : decode cX4_shine 125 = .ok (.iastore, 1) := by decide +kernel
theorem dX4_shine_126 : decode cX4_shine 126 = .ok (.aload_n 0, 1) := by decide +kernel
theorem dX4_shine_127 : decode cX4_shine 127 = .ok (.getfield 24, 3) := by decide +kernel
theorem dX4_shine_130 : decode cX4_shine 130 = .ok (.iload 4, 2) := by decide +kernel
theorem dX4_shine_132 : decode cX4_shine 132 = .ok (.iaload, 1) := by decide +kernel
theorem dX4_shine_133 : decode cX4_shine 133 = .ok (.istore_n 1, 1) := by decide +kernel
theorem dX4_shine_134 : decode cX4_shine 134 = .ok (.aload_n 0, 1) := by decide +kernel
theorem dX4_shine_135 : decode cX4_shine 135 = .ok (.getfield 30, 3) := by decide +kernel
theorem dX4_shine_138 : decode cX4_shine 138 = .ok (.iload 4, 2) := by decide +kernel
theorem dX4_shine_140 : decode cX4_shine 140 = .ok (.iaload, 1) := by decide +kernel
theorem dX4_shine_141 : decode cX4_shine 141 = .ok (.istore_n 2, 1) := by decide +kernel
theorem dX4_shine_142 : decode cX4_shine 142 = .ok (.iinc 3 1, 3) := by decide +kernel
theorem dX4_shine_145 : decode cX4_shine 145 = .ok (.goto (-129), 3) := by decide +kernel
theorem dX4_shine_148 : decode cX4_shine 148 = .ok (.aload_n 0, 1) := by decide +kernel
theorem dX4_shine_149 : decode cX4_shine 149 = .ok (.iload_n 1, 1) := by decide +kernel
theorem dX4_shine_150 : decode cX4_shine 150 = .ok (.putfield 78, 3) := by decide +kernel
theorem dX4_shine_153 : decode cX4_shine 153 = .ok (.aload_n 0, 1) := by decide +kernel
theorem dX4_shine_154 : decode cX4_shine 154 = .ok (.iload_n 2, 1) := by decide +kernel
theorem dX4_shine_155 : decode cX4_shine 155 = .ok (.putfield 81, 3) := by decide +kernel
theorem dX4_shine_158 : decode cX4_shine 158 = .ok (.aload_n 0, 1) := by decide +kernel
theorem dX4_shine_159 : decode cX4_shine 159 = .ok (.iconst 1, 1) := by decide +kernel
theorem dX4_shine_160 : decode cX4_shine 160 = .ok (.putfield 59, 3) := by decide +kernel
theorem dX4_shine_163 : decode cX4_shine 163 = .ok (.return_, 1) := by decide +kernel
theorem dX4_cover_0 : decode cX4_cover 0 = .ok (.aload_n 0, 1) := by decide +kernel
theorem dX4_cover_1 : decode cX4_cover 1 = .ok (.iload_n 1, 1) := by decide +kernel
theorem dX4_cover_2 : decode cX4_cover 2 = .ok (.putfield 40, 3) := by decide +kernel
theorem dX4_cover_5 : decode cX4_cover 5 = .ok (.aload_n 0, 1) := by decide +kernel
theorem dX4_cover_6 : decode cX4_cover 6 = .ok (.iconst 0, 1) := by decide +kernel
theorem dX4_cover_7 : decode cX4_cover 7 = .ok (.putfield 59, 3) := by decide +kernel
theorem dX4_cover_10 : decode cX4_cover 10 = .ok (.return_, 1) := by decide +kernel
theorem dX4_turn_0 : decode cX4_turn 0 = .ok (.aload_n 0, 1) := by decide +kernel
theorem dX4_turn_1 : decode cX4_turn 1 = .ok (.iload_n 1, 1) := by decide +kernel
theorem dX4_turn_2 : decode cX4_turn 2 = .ok (.invokevirtual 71, 3) := by decide +kernel
theorem dX4_turn_5 : decode cX4_turn 5 = .ok (.ifCond .eq 15, 3) := by decide +kernel
theorem dX4_turn_8 : decode cX4_turn 8 = .ok (.aload_n 0, 1) := by decide +kernel
theorem dX4_turn_9 : decode cX4_turn 9 = .ok (.getfield 18, 3) := by decide +kernel
theorem dX4_turn_12 : decode cX4_turn 12 = .ok (.iload_n 1, 1) := by decide +kernel
theorem dX4_turn_13 : decode cX4_turn 13 = .ok (.iload_n 2, 1) := by decide +kernel
theorem dX4_turn_14 : decode cX4_turn 14 = .ok (.iastore, 1) := by decide +kernel
theorem dX4_turn_15 : decode cX4_turn 15 = .ok (.aload_n 0, 1) := by decide +kernel
theorem dX4_turn_16 : decode cX4_turn 16 = .ok (.iconst 0, 1) := by decide +kernel
theorem dX4_turn_17 : decode cX4_turn 17 = .ok (.putfield 59, 3) := by decide +kernel
theorem dX4_turn_20 : decode cX4_turn 20 = .ok (.return_, 1) := by decide +kernel
theorem dX4_shake_0 : decode cX4_shake 0 = .ok (.aload_n 0, 1) := by decide +kernel
theorem dX4_shake_1 : decode cX4_shake 1 = .ok (.iload_n 1, 1) := by decide +kernel
theorem dX4_shake_2 : decode cX4_shake 2 = .ok (.invokevirtual 71, 3) := by decide +kernel
theorem dX4_shake_5 : decode cX4_shake 5 = .ok (.ifCond .eq 25, 3) := by decide +kernel
theorem dX4_shake_8 : decode cX4_shake 8 = .ok (.aload_n 0, 1) := by decide +kernel
theorem dX4_shake_9 : decode cX4_shake 9 = .ok (.iload_n 1, 1) := by decide +kernel
theorem dX4_shake_10 : decode cX4_shake 10 = .ok (.aload_n 0, 1) := by decide +kernel
theorem dX4_shake_11 : decode cX4_shake 11 = .ok (.getfield 18, 3) := by decide +kernel
theorem dX4_shake_14 : decode cX4_shake 14 = .ok (.iload_n 1, 1) := by decide +kernel
theorem dX4_shake_15 : decode cX4_shake 15 = .ok (.iaload, 1) := by decide +kernel
theorem dX4_shake_16 : decode cX4_shake 16 = .ok (.i2l, 1) := by decide +kernel
theorem dX4_shake_17 : decode cX4_shake 17 = .ok (.iload_n 2, 1) := by decide +kernel
theorem dX4_shake_18 : decode cX4_shake 18 = .ok (.i2l, 1) := by decide +kernel
theorem dX4_shake_19 : decode cX4_shake 19 = .ok (.ladd, 1) := by decide +kernel
theorem dX4_shake_20 : decode cX4_shake 20 = .ok (.bipush (-90), 2) := by decide +kernel
theorem dX4_shake_22 : decode cX4_shake 22 = .ok (.bipush 90, 2) := by decide +kernel
theorem dX4_shake_24 : decode cX4_shake 24 = .ok (.invokestatic 91, 3) := by decide +kernel
theorem dX4_shake_27 : decode cX4_shake 27 = .ok (.invokevirtual 95, 3) := by decide +kernel
theorem dX4_shake_30 : decode cX4_shake 30 = .ok (.return_, 1) := by decide +kernel
theorem dX4_dim_0 : decode cX4_dim 0 = .ok (.aload_n 0, 1) := by decide +kernel
theorem dX4_dim_1 : decode cX4_dim 1 = .ok (.iload_n 1, 1) := by decide +kernel
theorem dX4_dim_2 : decode cX4_dim 2 = .ok (.invokevirtual 71, 3) := by decide +kernel
theorem dX4_dim_5 : decode cX4_dim 5 = .ok (.ifCond .eq 29, 3) := by decide +kernel
theorem dX4_dim_8 : decode cX4_dim 8 = .ok (.aload_n 0, 1) := by decide +kernel
theorem dX4_dim_9 : decode cX4_dim 9 = .ok (.getfield 9, 3) := by decide +kernel
theorem dX4_dim_12 : decode cX4_dim 12 = .ok (.iload_n 1, 1) := by decide +kernel
theorem dX4_dim_13 : decode cX4_dim 13 = .ok (.aload_n 0, 1) := by decide +kernel
theorem dX4_dim_14 : decode cX4_dim 14 = .ok (.getfield 9, 3) := by decide +kernel
theorem dX4_dim_17 : decode cX4_dim 17 = .ok (.iload_n 1, 1) := by decide +kernel
theorem dX4_dim_18 : decode cX4_dim 18 = .ok (.iaload, 1) := by decide +kernel
theorem dX4_dim_19 : decode cX4_dim 19 = .ok (.i2l, 1) := by decide +kernel
theorem dX4_dim_20 : decode cX4_dim 20 = .ok (.iload_n 2, 1) := by decide +kernel
theorem dX4_dim_21 : decode cX4_dim 21 = .ok (.i2l, 1) := by decide +kernel
theorem dX4_dim_22 : decode cX4_dim 22 = .ok (.lsub, 1) := by decide +kernel
theorem dX4_dim_23 : decode cX4_dim 23 = .ok (.iconst 0, 1) := by decide +kernel
theorem dX4_dim_24 : decode cX4_dim 24 = .ok (.iload_n 3, 1) := by decide +kernel
theorem dX4_dim_25 : decode cX4_dim 25 = .ok (.invokestatic 91, 3) := by decide +kernel
theorem dX4_dim_28 : decode cX4_dim 28 = .ok (.iastore, 1) := by decide +kernel
theorem dX4_dim_29 : decode cX4_dim 29 = .ok (.aload_n 0, 1) := by decide +kernel
theorem dX4_dim_30 : decode cX4_dim 30 = .ok (.iconst 0, 1) := by decide +kernel
theorem dX4_dim_31 : decode cX4_dim 31 = .ok (.putfield 59, 3) := by decide +kernel
theorem dX4_dim_34 : decode cX4_dim 34 = .ok (.return_, 1) := by decide +kernel
theorem dX4_dust_0 : decode cX4_dust 0 = .ok (.aload_n 0, 1) := by decide +kernel
theorem dX4_dust_1 : decode cX4_dust 1 = .ok (.iload_n 1, 1) := by decide +kernel
theorem dX4_dust_2 : decode cX4_dust 2 = .ok (.invokevirtual 71, 3) := by decide +kernel
theorem dX4_dust_5 : decode cX4_dust 5 = .ok (.ifCond .eq 15, 3) := by decide +kernel
theorem dX4_dust_8 : decode cX4_dust 8 = .ok (.aload_n 0, 1) := by decide +kernel
theorem dX4_dust_9 : decode cX4_dust 9 = .ok (.iload_n 1, 1) := by decide +kernel
theorem dX4_dust_10 : decode cX4_dust 10 = .ok (.iload_n 2, 1) := by decide +kernel
theorem dX4_dust_11 : decode cX4_dust 11 = .ok (.aload_n 0, 1) := by decide +kernel
theorem dX4_dust_12 : decode cX4_dust 12 = .ok (.getfield 15, 3) := by decide +kernel
theorem dX4_dust_15 : decode cX4_dust 15 = .ok (.iload_n 1, 1) := by decide +kernel
theorem dX4_dust_16 : decode cX4_dust 16 = .ok (.iaload, 1) := by decide +kernel
theorem dX4_dust_17 : decode cX4_dust 17 = .ok (.invokevirtual 99, 3) := by decide +kernel
theorem dX4_dust_20 : decode cX4_dust 20 = .ok (.return_, 1) := by decide +kernel
theorem dX4_clean_0 : decode cX4_clean 0 = .ok (.aload_n 0, 1) := by decide +kernel
theorem dX4_clean_1 : decode cX4_clean 1 = .ok (.iload_n 1, 1) := by decide +kernel
theorem dX4_clean_2 : decode cX4_clean 2 = .ok (.invokevirtual 71, 3) := by decide +kernel
theorem dX4_clean_5 : decode cX4_clean 5 = .ok (.ifCond .eq 47, 3) := by decide +kernel
theorem dX4_clean_8 : decode cX4_clean 8 = .ok (.aload_n 0, 1) := by decide +kernel
theorem dX4_clean_9 : decode cX4_clean 9 = .ok (.getfield 9, 3) := by decide +kernel
theorem dX4_clean_12 : decode cX4_clean 12 = .ok (.iload_n 1, 1) := by decide +kernel
theorem dX4_clean_13 : decode cX4_clean 13 = .ok (.aload_n 0, 1) := by decide +kernel
theorem dX4_clean_14 : decode cX4_clean 14 = .ok (.getfield 9, 3) := by decide +kernel
theorem dX4_clean_17 : decode cX4_clean 17 = .ok (.iload_n 1, 1) := by decide +kernel
theorem dX4_clean_18 : decode cX4_clean 18 = .ok (.iaload, 1) := by decide +kernel
theorem dX4_clean_19 : decode cX4_clean 19 = .ok (.aload_n 0, 1) := by decide +kernel
theorem dX4_clean_20 : decode cX4_clean 20 = .ok (.getfield 15, 3) := by decide +kernel
theorem dX4_clean_23 : decode cX4_clean 23 = .ok (.iload_n 1, 1) := by decide +kernel
theorem dX4_clean_24 : decode cX4_clean 24 = .ok (.iaload, 1) := by decide +kernel
theorem dX4_clean_25 : decode cX4_clean 25 = .ok (.invokestatic 103, 3) := by decide +kernel
theorem dX4_clean_28 : decode cX4_clean 28 = .ok (.iastore, 1) := by decide +kernel
theorem dX4_clean_29 : decode cX4_clean 29 = .ok (.aload_n 0, 1) := by decide +kernel
theorem dX4_clean_30 : decode cX4_clean 30 = .ok (.getfield 15, 3) := by decide +kernel
theorem dX4_clean_33 : decode cX4_clean 33 = .ok (.iload_n 1, 1) := by decide +kernel
theorem dX4_clean_34 : decode cX4_clean 34 = .ok (.iconst 0, 1) := by decide +kernel
theorem dX4_clean_35 : decode cX4_clean 35 = .ok (.aload_n 0, 1) := by decide +kernel
theorem dX4_clean_36 : decode cX4_clean 36 = .ok (.getfield 15, 3) := by decide +kernel
theorem dX4_clean_39 : decode cX4_clean 39 = .ok (.iload_n 1, 1) := by decide +kernel
theorem dX4_clean_40 : decode cX4_clean 40 = .ok (.iaload, 1) := by decide +kernel
theorem dX4_clean_41 : decode cX4_clean 41 = .ok (.iconst 1, 1) := by decide +kernel
theorem dX4_clean_42 : decode cX4_clean 42 = .ok (.isub, 1) := by decide +kernel
theorem dX4_clean_43 : decode cX4_clean 43 = .ok (.invokestatic 103, 3) := by decide +kernel
theorem dX4_clean_46 : decode cX4_clean 46 = .ok (.iastore, 1) := by decide +kernel
theorem dX4_clean_47 : decode cX4_clean 47 = .ok (.aload_n 0, 1) := by decide +kernel
theorem dX4_clean_48 : decode cX4_clean 48 = .ok (.iconst 0, 1) := by decide +kernel
theorem dX4_clean_49 : decode cX4_clean 49 = .ok (.putfield 59, 3) := by decide +kernel
theorem dX4_clean_52 : decode cX4_clean 52 = .ok (.return_, 1) := by decide +kernel
theorem dX4_replace_0 : decode cX4_replace 0 = .ok (.aload_n 0, 1) := by decide +kernel
theorem dX4_replace_1 : decode cX4_replace 1 = .ok (.iload_n 1, 1) := by decide +kernel
theorem dX4_replace_2 : decode cX4_replace 2 = .ok (.invokevirtual 71, 3) := by decide +kernel
theorem dX4_replace_5 : decode cX4_replace 5 = .ok (.ifCond .eq 25, 3) := by decide +kernel
theorem dX4_replace_8 : decode cX4_replace 8 = .ok (.aload_n 0, 1) := by decide +kernel
theorem dX4_replace_9 : decode cX4_replace 9 = .ok (.getfield 9, 3) := by decide +kernel
theorem dX4_replace_12 : decode cX4_replace 12 = .ok (.iload_n 1, 1) := by decide +kernel
theorem dX4_replace_13 : decode cX4_replace 13 = .ok (.bipush 100, 2) := by decide +kernel
theorem dX4_replace_15 : decode cX4_replace 15 = .ok (.iastore, 1) := by decide +kernel
theorem dX4_replace_16 : decode cX4_replace 16 = .ok (.aload_n 0, 1) := by decide +kernel
theorem dX4_replace_17 : decode cX4_replace 17 = .ok (.getfield 15, 3) := by decide +kernel
theorem dX4_replace_20 : decode cX4_replace 20 = .ok (.iload_n 1, 1) := by decide +kernel
theorem dX4_replace_21 : decode cX4_replace 21 = .ok (.bipush 100, 2) := by decide +kernel
theorem dX4_replace_23 : decode cX4_replace 23 = .ok (.iastore, 1) := by decide +kernel
theorem dX4_replace_24 : decode cX4_replace 24 = .ok (.aload_n 0, 1) := by decide +kernel
theorem dX4_replace_25 : decode cX4_replace 25 = .ok (.iload_n 1, 1) := by decide +kernel
theorem dX4_replace_26 : decode cX4_replace 26 = .ok (.iconst 0, 1) := by decide +kernel
theorem dX4_replace_27 : decode cX4_replace 27 = .ok (.invokevirtual 95, 3) := by decide +kernel
theorem dX4_replace_30 : decode cX4_replace 30 = .ok (.return_, 1) := by decide +kernel
theorem dX4_move_0 : decode cX4_move 0 = .ok (.aload_n 0, 1) := by decide +kernel
theorem dX4_move_1 : decode cX4_move 1 = .ok (.iload_n 1, 1) := by decide +kernel
theorem dX4_move_2 : decode cX4_move 2 = .ok (.invokevirtual 106, 3) := by decide +kernel
theorem dX4_move_5 : decode cX4_move 5 = .ok (.istore_n 3, 1) := by decide +kernel
theorem dX4_move_6 : decode cX4_move 6 = .ok (.iload_n 3, 1) := by decide +kernel
theorem dX4_move_7 : decode cX4_move 7 = .ok (.ifCond .lt 15, 3) := by decide +kernel
theorem dX4_move_10 : decode cX4_move 10 = .ok (.iload_n 2, 1) := by decide +kernel
theorem dX4_move_11 : decode cX4_move 11 = .ok (.ifCond .lt 11, 3) := by decide +kernel
theorem dX4_move_14 : decode cX4_move 14 = .ok (.iload_n 2, 1) := by decide +kernel
theorem dX4_move_15 : decode cX4_move 15 = .ok (.aload_n 0, 1) := by decide +kernel
theorem dX4_move_16 : decode cX4_move 16 = .ok (.getfield 54, 3) := by decide +kernel
theorem dX4_move_19 : decode cX4_move 19 = .ok (.if_icmp .lt 4, 3) := by decide +kernel
theorem dX4_move_22 : decode cX4_move 22 = .ok (.return_, 1) := by decide +kernel
theorem dX4_move_23 : decode cX4_move 23 = .ok (.iload_n 3, 1) := by decide +kernel
theorem dX4_move_24 : decode cX4_move 24 = .ok (.istore 4, 2) := by decide +kernel
theorem dX4_move_26 : decode cX4_move 26 = .ok (.iload 4, 2) := by decide +kernel
theorem dX4_move_28 : decode cX4_move 28 = .ok (.iload_n 2, 1) := by decide +kernel
theorem dX4_move_29 : decode cX4_move 29 = .ok (.if_icmp .ge 25, 3) := by decide +kernel
theorem dX4_move_32 : decode cX4_move 32 = .ok (.aload_n 0, 1) := by decide +kernel
theorem dX4_move_33 : decode cX4_move 33 = .ok (.getfield 21, 3) := by decide +kernel
theorem dX4_move_36 : decode cX4_move 36 = .ok (.iload 4, 2) := by decide +kernel
theorem dX4_move_38 : decode cX4_move 38 = .ok (.aload_n 0, 1) := by decide +kernel
theorem dX4_move_39 : decode cX4_move 39 = .ok (.getfield 21, 3) := by decide +kernel
theorem dX4_move_42 : decode cX4_move 42 = .ok (.iload 4, 2) := by decide +kernel
theorem dX4_move_44 : decode cX4_move 44 = .ok (.iconst 1, 1) := by decide +kernel
theorem dX4_move_45 : decode cX4_move 45 = .ok (.iadd, 1) := by decide +kernel
theorem dX4_move_46 : decode cX4_move 46 = .ok (.iaload, 1) := by decide +kernel
theorem dX4_move_47 : decode cX4_move 47 = .ok (.iastore, 1) := by decide +kernel
theorem dX4_move_48 : decode cX4_move 48 = .ok (.iinc 4 1, 3) := by decide +kernel
theorem dX4_move_51 : decode cX4_move 51 = .ok (.goto (-25), 3) := by decide +kernel
theorem dX4_move_54 : decode cX4_move 54 = .ok (.iload_n 3, 1) := by decide +kernel
theorem dX4_move_55 : decode cX4_move 55 = .ok (.istore 4, 2) := by decide +kernel
theorem dX4_move_57 : decode cX4_move 57 = .ok (.iload 4, 2) := by decide +kernel
theorem dX4_move_59 : decode cX4_move 59 = .ok (.iload_n 2, 1) := by decide +kernel
theorem dX4_move_60 : decode cX4_move 60 = .ok (.if_icmp .le 25, 3) := by decide +kernel
theorem dX4_move_63 : decode cX4_move 63 = .ok (.aload_n 0, 1) := by decide +kernel
theorem dX4_move_64 : decode cX4_move 64 = .ok (.getfield 21, 3) := by decide +kernel
theorem dX4_move_67 : decode cX4_move 67 = .ok (.iload 4, 2) := by decide +kernel
theorem dX4_move_69 : decode cX4_move 69 = .ok (.aload_n 0, 1) := by decide +kernel
theorem dX4_move_70 : decode cX4_move 70 = .ok (.getfield 21, 3) := by decide +kernel
theorem dX4_move_73 : decode cX4_move 73 = .ok (.iload 4, 2) := by decide +kernel
theorem dX4_move_75 : decode cX4_move 75 = .ok (.iconst 1, 1) := by decide +kernel
theorem dX4_move_76 : decode cX4_move 76 = .ok (.isub, 1) := by decide +kernel
theorem dX4_move_77 : decode cX4_move 77 = .ok (.iaload, 1) := by decide +kernel
theorem dX4_move_78 : decode cX4_move 78 = .ok (.iastore, 1) := by decide +kernel
theorem dX4_move_79 : decode cX4_move 79 = .ok (.iinc 4 (-1), 3) := by decide +kernel
theorem dX4_move_82 : decode cX4_move 82 = .ok (.goto (-25), 3) := by decide +kernel
theorem dX4_move_85 : decode cX4_move 85 = .ok (.aload_n 0, 1) := by decide +kernel
theorem dX4_move_86 : decode cX4_move 86 = .ok (.getfield 21, 3) := by decide +kernel
theorem dX4_move_89 : decode cX4_move 89 = .ok (.iload_n 2, 1) := by decide +kernel
theorem dX4_move_90 : decode cX4_move 90 = .ok (.iload_n 1, 1) := by decide +kernel
theorem dX4_move_91 : decode cX4_move 91 = .ok (.iastore, 1) := by decide +kernel
theorem dX4_move_92 : decode cX4_move 92 = .ok (.aload_n 0, 1) := by decide +kernel
theorem dX4_move_93 : decode cX4_move 93 = .ok (.iconst 0, 1) := by decide +kernel
theorem dX4_move_94 : decode cX4_move 94 = .ok (.putfield 59, 3) := by decide +kernel
theorem dX4_move_97 : decode cX4_move 97 = .ok (.return_, 1) := by decide +kernel
theorem dX5_init_0 : decode cX5_init 0 = .ok (.aload_n 0, 1) := by decide +kernel
theorem dX5_init_1 : decode cX5_init 1 = .ok (.invokespecial 3, 3) := by decide +kernel
theorem dX5_init_4 : decode cX5_init 4 = .ok (.aload_n 0, 1) := by decide +kernel
theorem dX5_init_5 : decode cX5_init 5 = .ok (.sipush 2000, 3) := by decide +kernel
theorem dX5_init_8 : decode cX5_init 8 = .ok (.newarray .byte, 2) := by decide +kernel
theorem dX5_init_10 : decode cX5_init 10 = .ok (.putfield 9, 3) := by decide +kernel
theorem dX5_init_13 : decode cX5_init 13 = .ok (.return_, 1) := by decide +kernel
theorem dX5_append_0 : decode cX5_append 0 = .ok (.bipush 24, 2) := by decide +kernel
theorem dX5_append_2 : decode cX5_append 2 = .ok (.istore_n 2, 1) := by decide +kernel
theorem dX5_append_3 : decode cX5_append 3 = .ok (.iload_n 2, 1) := by decide +kernel
theorem dX5_append_4 : decode cX5_append 4 = .ok (.ifCond .lt 42, 3) := by decide +kernel
theorem dX5_append_7 : decode cX5_append 7 = .ok (.aload_n 0, 1) := by decide +kernel
theorem dX5_append_8 : decode cX5_append 8 = .ok (.getfield 15, 3) := by decide +kernel
theorem dX5_append_11 : decode cX5_append 11 = .ok (.sipush 2000, 3) := by decide +kernel
theorem dX5_append_14 : decode cX5_append 14 = .ok (.if_icmp .ge 32, 3) := by decide +kernel
theorem dX5_append_17 : decode cX5_append 17 = .ok (.aload_n 0, 1) := by decide +kernel
theorem dX5_append_18 : decode cX5_append 18 = .ok (.getfield 9, 3) := by decide +kernel
theorem dX5_append_21 : decode cX5_append 21 = .ok (.aload_n 0, 1) := by decide +kernel
theorem dX5_append_22 : decode cX5_append 22 = .ok (.getfield 15, 3) := by decide +kernel
theorem dX5_append_25 : decode cX5_append 25 = .ok (.iload_n 1, 1) := by decide +kernel
theorem dX5_append_26 : decode cX5_append 26 = .ok (.iload_n 2, 1) := by decide +kernel
theorem dX5_append_27 : decode cX5_append 27 = .ok (.ishr, 1) := by decide +kernel
theorem dX5_append_28 : decode cX5_append 28 = .ok (.i2b, 1) := by decide +kernel
theorem dX5_append_29 : decode cX5_append 29 = .ok (.bastore, 1) := by decide +kernel
theorem dX5_append_30 : decode cX5_append 30 = .ok (.aload_n 0, 1) := by decide +kernel
theorem dX5_append_31 : decode cX5_append 31 = .ok (.dup, 1) := by decide +kernel
theorem dX5_append_32 : decode cX5_append 32 = .ok (.getfield 15, 3) := by decide +kernel
theorem dX5_append_35 : decode cX5_append 35 = .ok (.iconst 1, 1) := by decide +kernel
theorem dX5_append_36 : decode cX5_append 36 = .ok (.iadd, 1) := by decide +kernel
theorem dX5_append_37 : decode cX5_append 37 = .ok (.putfield 15, 3) := by decide +kernel
theorem dX5_append_40 : decode cX5_append 40 = .ok (.iinc 2 (-8), 3) := by decide +kernel
theorem dX5_append_43 : decode cX5_append 43 = .ok (.goto (-40), 3) := by decide +kernel
theorem dX5_append_46 : decode cX5_append 46 = .ok (.return_, 1) := by decide +kernel
theorem dX5_byteAt_0 : decode cX5_byteAt 0 = .ok (.iload_n 1, 1) := by decide +kernel
theorem dX5_byteAt_1 : decode cX5_byteAt 1 = .ok (.ifCond .lt 24, 3) := by decide +kernel
theorem dX5_byteAt_4 : decode cX5_byteAt 4 = .ok (.iload_n 1, 1) := by decide +kernel
theorem dX5_byteAt_5 : decode cX5_byteAt 5 = .ok (.aload_n 0, 1) := by decide +kernel
theorem dX5_byteAt_6 : decode cX5_byteAt 6 = .ok (.getfield 15, 3) := by decide +kernel
theorem dX5_byteAt_9 : decode cX5_byteAt 9 = .ok (.if_icmp .ge 16, 3) := by decide +kernel
theorem dX5_byteAt_12 : decode cX5_byteAt 12 = .ok (.aload_n 0, 1) := by decide +kernel
theorem dX5_byteAt_13 : decode cX5_byteAt 13 = .ok (.getfield 9, 3) := by decide +kernel
theorem dX5_byteAt_16 : decode cX5_byteAt 16 = .ok (.iload_n 1, 1) := by decide +kernel
theorem dX5_byteAt_17 : decode cX5_byteAt 17 = .ok (.baload, 1) := by decide +kernel
theorem dX5_byteAt_18 : decode cX5_byteAt 18 = .ok (.sipush 255, 3) := by decide +kernel
theorem dX5_byteAt_21 : decode cX5_byteAt 21 = .ok (.iand, 1) := by decide +kernel
theorem dX5_byteAt_22 : decode cX5_byteAt 22 = .ok (.goto 4, 3) := by decide +kernel
theorem dX5_byteAt_25 : decode cX5_byteAt 25 = .ok (.iconst (-1), 1) := by decide +kernel
theorem dX5_byteAt_26 : decode cX5_byteAt 26 = .ok (.ireturn, 1) := by decide +kernel
theorem dX5_skipBlanks_0 : decode cX5_skipBlanks 0 = .ok (.iload_n 1, 1) := by decide +kernel
theorem dX5_skipBlanks_1 : decode cX5_skipBlanks 1 = .ok (.istore_n 2, 1) := by decide +kernel
theorem dX5_skipBlanks_2 : decode cX5_skipBlanks 2 = .ok (.iload_n 2, 1) := by decide +kernel
theorem dX5_skipBlanks_3 : decode cX5_skipBlanks 3 = .ok (.aload_n 0, 1) := by decide +kernel
theorem dX5_skipBlanks_4 : decode cX5_skipBlanks 4 = .ok (.getfield 15, 3) := by decide +kernel
theorem dX5_skipBlanks_7 : decode cX5_skipBlanks 7 = .ok (.if_icmp .ge 20, 3) := by decide +kernel
theorem dX5_skipBlanks_10 : decode cX5_skipBlanks 10 = .ok (.aload_n 0, 1) := by decide +kernel
theorem dX5_skipBlanks_11 : decode cX5_skipBlanks 11 = .ok (.iload_n 2, 1) := by decide +kernel
theorem dX5_skipBlanks_12 : decode cX5_skipBlanks 12 = .ok (.invokevirtual 19, 3) := by decide +kernel
theorem dX5_skipBlanks_15 : decode cX5_skipBlanks 15 = .ok (.invokestatic 23, 3) := by decide +kernel
theorem dX5_skipBlanks_18 : decode cX5_skipBlanks 18 = .ok (.ifCond .eq 9, 3) := by decide +kernel
theorem dX5_skipBlanks_21 : decode cX5_skipBlanks 21 = .ok (.iinc 2 1, 3) := by decide +kernel
theorem dX5_skipBlanks_24 : decode cX5_skipBlanks 24 = .ok (.goto (-22), 3) := by decide +kernel
theorem dX5_skipBlanks_27 : decode cX5_skipBlanks 27 = .ok (.iload_n 2, 1) := by decide +kernel
theorem dX5_skipBlanks_28 : decode cX5_skipBlanks 28 = .ok (.ireturn, 1) := by decide +kernel
theorem dX5_skipDigits_0 : decode cX5_skipDigits 0 = .ok (.iload_n 1, 1) := by decide +kernel
theorem dX5_skipDigits_1 : decode cX5_skipDigits 1 = .ok (.istore_n 2, 1) := by decide +kernel
theorem dX5_skipDigits_2 : decode cX5_skipDigits 2 = .ok (.iload_n 2, 1) := by decide +kernel
theorem dX5_skipDigits_3 : decode cX5_skipDigits 3 = .ok (.aload_n 0, 1) := by decide +kernel
theorem dX5_skipDigits_4 : decode cX5_skipDigits 4 = .ok (.getfield 15, 3) := by decide +kernel
theorem dX5_skipDigits_7 : decode cX5_skipDigits 7 = .ok (.if_icmp .ge 20, 3) := by decide +kernel
theorem dX5_skipDigits_10 : decode cX5_skipDigits 10 = .ok (.aload_n 0, 1) := by decide +kernel
theorem dX5_skipDigits_11 : decode cX5_skipDigits 11 = .ok (.iload_n 2, 1) := by decide +kernel
theorem dX5_skipDigits_12 : decode cX5_skipDigits 12 = .ok (.invokevirtual 19, 3) := by decide +kernel
theorem dX5_skipDigits_15 : decode cX5_skipDigits 15 = .ok (.invokestatic 27, 3) := by decide +kernel
theorem dX5_skipDigits_18 : decode cX5_skipDigits 18 = .ok (.ifCond .eq 9, 3) := by decide +kernel
theorem dX5_skipDigits_21 : decode cX5_skipDigits 21 = .ok (.iinc 2 1, 3) := by decide +kernel
theorem dX5_skipDigits_24 : decode cX5_skipDigits 24 = .ok (.goto (-22), 3) := by decide +kernel
theorem dX5_skipDigits_27 : decode cX5_skipDigits 27 = .ok (.iload_n 2, 1) := by decide +kernel
theorem dX5_skipDigits_28 : decode cX5_skipDigits 28 = .ok (.ireturn, 1) := by decide +kernel
theorem dX5_skipLettersAndDigits_0 : decode cX5_skipLettersAndDigits 0 = .ok (.iload_n 1, 1) := by decide +kernel
theorem dX5_skipLettersAndDigits_1 : decode cX5_skipLettersAndDigits 1 = .ok (.istore_n 2, 1) := by decide +kernel
theorem dX5_skipLettersAndDigits_2 : decode cX5_skipLettersAndDigits 2 = .ok (.iload_n 2, 1) := by decide +kernel
theorem dX5_skipLettersAndDigits_3 : decode cX5_skipLettersAndDigits 3 = .ok (.aload_n 0, 1) := by decide +kernel
theorem dX5_skipLettersAndDigits_4 : decode cX5_skipLettersAndDigits 4 = .ok (.getfield 15, 3) := by decide +kernel
theorem dX5_skipLettersAndDigits_7 : decode cX5_skipLettersAndDigits 7 = .ok (.if_icmp .ge 31, 3) := by decide +kernel
theorem dX5_skipLettersAndDigits_10 : decode cX5_skipLettersAndDigits 10 = .ok (.aload_n 0, 1) := by decide +kernel
theorem dX5_skipLettersAndDigits_11 : decode cX5_skipLettersAndDigits 11 = .ok (.iload_n 2, 1) := by decide +kernel
theorem dX5_skipLettersAndDigits_12 : decode cX5_skipLettersAndDigits 12 = .ok (.invokevirtual 19, 3) := by decide +kernel
theorem dX5_skipLettersAndDigits_15 : decode cX5_skipLettersAndDigits 15 = .ok (.invokestatic 30, 3) := by decide +kernel
theorem dX5_skipLettersAndDigits_18 : decode cX5_skipLettersAndDigits 18 = .ok (.ifCond .ne 14, 3) := by decide +kernel
theorem dX5_skipLettersAndDigits_21 : decode cX5_skipLettersAndDigits 21 = .ok (.aload_n 0, 1) := by decide +kernel
theorem dX5_skipLettersAndDigits_22 : decode cX5_skipLettersAndDigits 22 = .ok (.iload_n 2, 1) := by decide +kernel
theorem dX5_skipLettersAndDigits_23 : decode cX5_skipLettersAndDigits 23 = .ok (.invokevirtual 19, 3) := by decide +kernel
theorem dX5_skipLettersAndDigits_26 : decode cX5_skipLettersAndDigits 26 = .ok (.invokestatic 27, 3) := by decide +kernel
theorem dX5_skipLettersAndDigits_29 : decode cX5_skipLettersAndDigits 29 = .ok (.ifCond .eq 9, 3) := by decide +kernel
theorem dX5_skipLettersAndDigits_32 : decode cX5_skipLettersAndDigits 32 = .ok (.iinc 2 1, 3) := by decide +kernel
theorem dX5_skipLettersAndDigits_35 : decode cX5_skipLettersAndDigits 35 = .ok (.goto (-33), 3) := by decide +kernel
theorem dX5_skipLettersAndDigits_38 : decode cX5_skipLettersAndDigits 38 = .ok (.iload_n 2, 1) := by decide +kernel
theorem dX5_skipLettersAndDigits_39 : decode cX5_skipLettersAndDigits 39 = .ok (.ireturn, 1) := by decide +kernel
theorem dX5_holdsText_0 : decode cX5_holdsText 0 = .ok (.aload_n 1, 1) := by decide +kernel
theorem dX5_holdsText_1 : decode cX5_holdsText 1 = .ok (.invokevirtual 33, 3) := by decide +kernel
theorem dX5_holdsText_4 : decode cX5_holdsText 4 = .ok (.iload_n 3, 1) := by decide +kernel
theorem dX5_holdsText_5 : decode cX5_holdsText 5 = .ok (.if_icmp .eq 5, 3) := by decide +kernel
theorem dX5_holdsText_8 : decode cX5_holdsText 8 = .ok (.iconst 0, 1) := by decide +kernel
theorem dX5_holdsText_9 : decode cX5_holdsText 9 = .ok (.ireturn, 1) := by decide +kernel
theorem dX5_holdsText_10 : decode cX5_holdsText 10 = .ok (.iconst 0, 1) := by decide +kernel
theorem dX5_holdsText_11 : decode cX5_holdsText 11 = .ok (.istore 4, 2) := by decide +kernel
theorem dX5_holdsText_13 : decode cX5_holdsText 13 = .ok (.iload 4, 2) := by decide +kernel
theorem dX5_holdsText_15 : decode cX5_holdsText 15 = .ok (.iload_n 3, 1) := by decide +kernel
theorem dX5_holdsText_16 : decode cX5_holdsText 16 = .ok (.if_icmp .ge 28, 3) := by decide +kernel
theorem dX5_holdsText_19 : decode cX5_holdsText 19 = .ok (.aload_n 0, 1) := by decide +kernel
theorem dX5_holdsText_20 : decode cX5_holdsText 20 = .ok (.iload_n 2, 1) := by decide +kernel
theorem dX5_holdsText_21 : decode cX5_holdsText 21 = .ok (.iload 4, 2) := by decide +kernel
theorem dX5_holdsText_23 : decode cX5_holdsText 23 = .ok (.iadd, 1) := by decide +kernel
theorem dX5_holdsText_24 : decode cX5_holdsText 24 = .ok (.invokevirtual 19, 3) := by decide +kernel
theorem dX5_holdsText_27 : decode cX5_holdsText 27 = .ok (.aload_n 1, 1) := by decide +kernel
theorem dX5_holdsText_28 : decode cX5_holdsText 28 = .ok (.iload 4, 2) := by decide +kernel
theorem dX5_holdsText_30 : decode cX5_holdsText 30 = .ok (.invokevirtual 38, 3) := by decide +kernel
theorem dX5_holdsText_33 : decode cX5_holdsText 33 = .ok (.if_icmp .eq 5, 3) := by decide +kernel
theorem dX5_holdsText_36 : decode cX5_holdsText 36 = .ok (.iconst 0, 1) := by decide +kernel
theorem dX5_holdsText_37 : decode cX5_holdsText 37 = .ok (.ireturn, 1) := by decide +kernel
theorem dX5_holdsText_38 : decode cX5_holdsText 38 = .ok (.iinc 4 1, 3) := by decide +kernel
theorem dX5_holdsText_41 : decode cX5_holdsText 41 = .ok (.goto (-28), 3) := by decide +kernel
theorem dX5_holdsText_44 : decode cX5_holdsText 44 = .ok (.iconst 1, 1) := by decide +kernel
theorem dX5_holdsText_45 : decode cX5_holdsText 45 = .ok (.ireturn, 1) := by decide +kernel
theorem dX5_holdsSame_0 : decode cX5_holdsSame 0 = .ok (.iload_n 1, 1) := by decide +kernel
theorem dX5_holdsSame_1 : decode cX5_holdsSame 1 = .ok (.ifCond .lt 27, 3) := by decide +kernel
theorem dX5_holdsSame_4 : decode cX5_holdsSame 4 = .ok (.iload_n 1, 1) := by decide +kernel
theorem dX5_holdsSame_5 : decode cX5_holdsSame 5 = .ok (.aload_n 0, 1) := by decide +kernel
theorem dX5_holdsSame_6 : decode cX5_holdsSame 6 = .ok (.getfield 15, 3) := by decide +kernel
theorem dX5_holdsSame_9 : decode cX5_holdsSame 9 = .ok (.iload_n 3, 1) := by decide +kernel
theorem dX5_holdsSame_10 : decode cX5_holdsSame 10 = .ok (.isub, 1) := by decide +kernel
theorem dX5_holdsSame_11 : decode cX5_holdsSame 11 = .ok (.if_icmp .gt 17, 3) := by decide +kernel
theorem dX5_holdsSame_14 : decode cX5_holdsSame 14 = .ok (.iload_n 2, 1) := by decide +kernel
theorem dX5_holdsSame_15 : decode cX5_holdsSame 15 = .ok (.ifCond .lt 13, 3) := by decide +kernel
theorem dX5_holdsSame_18 : decode cX5_holdsSame 18 = .ok (.iload_n 2, 1) := by decide +kernel
theorem dX5_holdsSame_19 : decode cX5_holdsSame 19 = .ok (.aload_n 0, 1) := by decide +kernel
theorem dX5_holdsSame_20 : decode cX5_holdsSame 20 = .ok (.getfield 15, 3) := by decide +kernel
theorem dX5_holdsSame_23 : decode cX5_holdsSame 23 = .ok (.iload_n 3, 1) := by decide +kernel
theorem dX5_holdsSame_24 : decode cX5_holdsSame 24 = .ok (.isub, 1) := by decide +kernel
theorem dX5_holdsSame_25 : decode cX5_holdsSame 25 = .ok (.if_icmp .le 5, 3) := by decide +kernel
theorem dX5_holdsSame_28 : decode cX5_holdsSame 28 = .ok (.iconst 0, 1) := by decide +kernel
theorem dX5_holdsSame_29 : decode cX5_holdsSame 29 = .ok (.ireturn, 1) := by decide +kernel
theorem dX5_holdsSame_30 : decode cX5_holdsSame 30 = .ok (.iconst 0, 1) := by decide +kernel
theorem dX5_holdsSame_31 : decode cX5_holdsSame 31 = .ok (.istore 4, 2) := by decide +kernel
theorem dX5_holdsSame_33 : decode cX5_holdsSame 33 = .ok (.iload 4, 2) := by decide +kernel
theorem dX5_holdsSame_35 : decode cX5_holdsSame 35 = .ok (.iload_n 3, 1) := by decide +kernel
theorem dX5_holdsSame_36 : decode cX5_holdsSame 36 = .ok (.if_icmp .ge 32, 3) := by decide +kernel
theorem dX5_holdsSame_39 : decode cX5_holdsSame 39 = .ok (.aload_n 0, 1) := by decide +kernel
theorem dX5_holdsSame_40 : decode cX5_holdsSame 40 = .ok (.getfield 9, 3) := by decide +kernel
theorem dX5_holdsSame_43 : decode cX5_holdsSame 43 = .ok (.iload_n 1, 1) := by decide +kernel
theorem dX5_holdsSame_44 : decode cX5_holdsSame 44 = .ok (.iload 4, 2) := by decide +kernel
theorem dX5_holdsSame_46 : decode cX5_holdsSame 46 = .ok (.iadd, 1) := by decide +kernel
theorem dX5_holdsSame_47 : decode cX5_holdsSame 47 = .ok (.baload, 1) := by decide +kernel
theorem dX5_holdsSame_48 : decode cX5_holdsSame 48 = .ok (.aload_n 0, 1) := by decide +kernel
theorem dX5_holdsSame_49 : decode cX5_holdsSame 49 = .ok (.getfield 9, 3) := by decide +kernel
theorem dX5_holdsSame_52 : decode cX5_holdsSame 52 = .ok (.iload_n 2, 1) := by decide +kernel
theorem dX5_holdsSame_53 : decode cX5_holdsSame 53 = .ok (.iload 4, 2) := by decide +kernel
theorem dX5_holdsSame_55 : decode cX5_holdsSame 55 = .ok (.iadd, 1) := by decide +kernel
theorem dX5_holdsSame_56 : decode cX5_holdsSame 56 = .ok (.baload, 1) := by decide +kernel
theorem dX5_holdsSame_57 : decode cX5_holdsSame 57 = .ok (.if_icmp .eq 5, 3) := by decide +kernel
theorem dX5_holdsSame_60 : decode cX5_holdsSame 60 = .ok (.iconst 0, 1) := by decide +kernel
theorem dX5_holdsSame_61 : decode cX5_holdsSame 61 = .ok (.ireturn, 1) := by decide +kernel
theorem dX5_holdsSame_62 : decode cX5_holdsSame 62 = .ok (.iinc 4 1, 3) := by decide +kernel
theorem dX5_holdsSame_65 : decode cX5_holdsSame 65 = .ok (.goto (-32), 3) := by decide +kernel
theorem dX5_holdsSame_68 : decode cX5_holdsSame 68 = .ok (.iconst 1, 1) := by decide +kernel
theorem dX5_holdsSame_69 : decode cX5_holdsSame 69 = .ok (.ireturn, 1) := by decide +kernel
theorem dX5_isBlank_0 : decode cX5_isBlank 0 = .ok (.iload_n 0, 1) := by decide +kernel
theorem dX5_isBlank_1 : decode cX5_isBlank 1 = .ok (.bipush 32, 2) := by decide +kernel
theorem dX5_isBlank_3 : decode cX5_isBlank 3 = .ok (.if_icmp .eq 9, 3) := by decide +kernel
theorem dX5_isBlank_6 : decode cX5_isBlank 6 = .ok (.iload_n 0, 1) := by decide +kernel
theorem dX5_isBlank_7 : decode cX5_isBlank 7 = .ok (.bipush 10, 2) := by decide +kernel
theorem dX5_isBlank_9 : decode cX5_isBlank 9 = .ok (.if_icmp .ne 7, 3) := by decide +kernel
theorem dX5_isBlank_12 : decode cX5_isBlank 12 = .ok (.iconst 1, 1) := by decide +kernel
theorem dX5_isBlank_13 : decode cX5_isBlank 13 = .ok (.goto 4, 3) := by decide +kernel
theorem dX5_isBlank_16 : decode cX5_isBlank 16 = .ok (.iconst 0, 1) := by decide +kernel
theorem dX5_isBlank_17 : decode cX5_isBlank 17 = .ok (.ireturn, 1) := by decide +kernel
theorem dX5_isLetter_0 : decode cX5_isLetter 0 = .ok (.iload_n 0, 1) := by decide +kernel
theorem dX5_isLetter_1 : decode cX5_isLetter 1 = .ok (.bipush 97, 2) := by decide +kernel
theorem dX5_isLetter_3 : decode cX5_isLetter 3 = .ok (.if_icmp .lt 13, 3) := by decide +kernel
theorem dX5_isLetter_6 : decode cX5_isLetter 6 = .ok (.iload_n 0, 1) := by decide +kernel
theorem dX5_isLetter_7 : decode cX5_isLetter 7 = .ok (.bipush 122, 2) := by decide +kernel
theorem dX5_isLetter_9 : decode cX5_isLetter 9 = .ok (.if_icmp .gt 7, 3) := by decide +kernel
theorem dX5_isLetter_12 : decode cX5_isLetter 12 = .ok (.iconst 1, 1) := by decide +kernel
theorem dX5_isLetter_13 : decode cX5_isLetter 13 = .ok (.goto 4, 3) := by decide +kernel
theorem dX5_isLetter_16 : decode cX5_isLetter 16 = .ok (.iconst 0, 1) := by decide +kernel
theorem dX5_isLetter_17 : decode cX5_isLetter 17 = .ok (.ireturn, 1) := by decide +kernel
theorem dX5_isDigit_0 : decode cX5_isDigit 0 = .ok (.iload_n 0, 1) := by decide +kernel
theorem dX5_isDigit_1 : decode cX5_isDigit 1 = .ok (.bipush 48, 2) := by decide +kernel
theorem dX5_isDigit_3 : decode cX5_isDigit 3 = .ok (.if_icmp .lt 13, 3) := by decide +kernel
theorem dX5_isDigit_6 : decode cX5_isDigit 6 = .ok (.iload_n 0, 1) := by decide +kernel
theorem dX5_isDigit_7 : decode cX5_isDigit 7 = .ok (.bipush 57, 2) := by decide +kernel
theorem dX5_isDigit_9 : decode cX5_isDigit 9 = .ok (.if_icmp .gt 7, 3) := by decide +kernel
theorem dX5_isDigit_12 : decode cX5_isDigit 12 = .ok (.iconst 1, 1) := by decide +kernel
theorem dX5_isDigit_13 : decode cX5_isDigit 13 = .ok (.goto 4, 3) := by decide +kernel
theorem dX5_isDigit_16 : decode cX5_isDigit 16 = .ok (.iconst 0, 1) := by decide +kernel
theorem dX5_isDigit_17 : decode cX5_isDigit 17 = .ok (.ireturn, 1) := by decide +kernel
theorem dX6_init_0 : decode cX6_init 0 = .ok (.aload_n 0, 1) := by decide +kernel
theorem dX6_init_1 : decode cX6_init 1 = .ok (.invokespecial 3, 3) := by decide +kernel
theorem dX6_init_4 : decode cX6_init 4 = .ok (.aload_n 0, 1) := by decide +kernel
theorem dX6_init_5 : decode cX6_init 5 = .ok (.sipush 401, 3) := by decide +kernel
theorem dX6_init_8 : decode cX6_init 8 = .ok (.newarray .int, 2) := by decide +kernel
theorem dX6_init_10 : decode cX6_init 10 = .ok (.putfield 9, 3) := by decide +kernel
theorem dX6_init_13 : decode cX6_init 13 = .ok (.aload_n 0, 1) := by decide +kernel
theorem dX6_init_14 : decode cX6_init 14 = .ok (.sipush 401, 3) := by decide +kernel
theorem dX6_init_17 : decode cX6_init 17 = .ok (.newarray .int, 2) := by decide +kernel
theorem dX6_init_19 : decode cX6_init 19 = .ok (.putfield 15, 3) := by decide +kernel
theorem dX6_init_22 : decode cX6_init 22 = .ok (.aload_n 0, 1) := by decide +kernel
theorem dX6_init_23 : decode cX6_init 23 = .ok (.sipush 401, 3) := by decide +kernel
theorem dX6_init_26 : decode cX6_init 26 = .ok (.newarray .int, 2) := by decide +kernel
theorem dX6_init_28 : decode cX6_init 28 = .ok (.putfield 18, 3) := by decide +kernel
theorem dX6_init_31 : decode cX6_init 31 = .ok (.aload_n 0, 1) := by decide +kernel
theorem dX6_init_32 : decode cX6_init 32 = .ok (.sipush 401, 3) := by decide +kernel
theorem dX6_init_35 : decode cX6_init 35 = .ok (.newarray .int, 2) := by decide +kernel
theorem dX6_init_37 : decode cX6_init 37 = .ok (.putfield 21, 3) := by decide +kernel
theorem dX6_init_40 : decode cX6_init 40 = .ok (.aload_n 0, 1) := by decide +kernel
theorem dX6_init_41 : decode cX6_init 41 = .ok (.aload_n 1, 1) := by decide +kernel
theorem dX6_init_42 : decode cX6_init 42 = .ok (.putfield 24, 3) := by decide +kernel
theorem dX6_init_45 : decode cX6_init 45 = .ok (.return_, 1) := by decide +kernel
theorem dX6_kindAt_0 : decode cX6_kindAt 0 = .ok (.iload_n 1, 1) := by decide +kernel
theorem dX6_kindAt_1 : decode cX6_kindAt 1 = .ok (.ifCond .lt 20, 3) := by decide +kernel
theorem dX6_kindAt_4 : decode cX6_kindAt 4 = .ok (.iload_n 1, 1) := by decide +kernel
theorem dX6_kindAt_5 : decode cX6_kindAt 5 = .ok (.aload_n 0, 1) := by decide +kernel
theorem dX6_kindAt_6 : decode cX6_kindAt 6 = .ok (.getfield 28, 3) := by decide +kernel
theorem dX6_kindAt_9 : decode cX6_kindAt 9 = .ok (.if_icmp .ge 12, 3) := by decide +kernel
theorem dX6_kindAt_12 : decode cX6_kindAt 12 = .ok (.aload_n 0, 1) := by decide +kernel
theorem dX6_kindAt_13 : decode cX6_kindAt 13 = .ok (.getfield 9, 3) := by decide +kernel
theorem dX6_kindAt_16 : decode cX6_kindAt 16 = .ok (.iload_n 1, 1) := by decide +kernel
theorem dX6_kindAt_17 : decode cX6_kindAt 17 = .ok (.iaload, 1) := by decide +kernel
theorem dX6_kindAt_18 : decode cX6_kindAt 18 = .ok (.goto 4, 3) := by decide +kernel
theorem dX6_kindAt_21 : decode cX6_kindAt 21 = .ok (.iconst 0, 1) := by decide +kernel
theorem dX6_kindAt_22 : decode cX6_kindAt 22 = .ok (.ireturn, 1) := by decide +kernel
theorem dX6_valueAt_0 : decode cX6_valueAt 0 = .ok (.iload_n 1, 1) := by decide +kernel
theorem dX6_valueAt_1 : decode cX6_valueAt 1 = .ok (.ifCond .lt 20, 3) := by decide +kernel
theorem dX6_valueAt_4 : decode cX6_valueAt 4 = .ok (.iload_n 1, 1) := by decide +kernel
theorem dX6_valueAt_5 : decode cX6_valueAt 5 = .ok (.aload_n 0, 1) := by decide +kernel
theorem dX6_valueAt_6 : decode cX6_valueAt 6 = .ok (.getfield 28, 3) := by decide +kernel
theorem dX6_valueAt_9 : decode cX6_valueAt 9 = .ok (.if_icmp .ge 12, 3) := by decide +kernel
theorem dX6_valueAt_12 : decode cX6_valueAt 12 = .ok (.aload_n 0, 1) := by decide +kernel
theorem dX6_valueAt_13 : decode cX6_valueAt 13 = .ok (.getfield 21, 3) := by decide +kernel
theorem dX6_valueAt_16 : decode cX6_valueAt 16 = .ok (.iload_n 1, 1) := by decide +kernel
theorem dX6_valueAt_17 : decode cX6_valueAt 17 = .ok (.iaload, 1) := by decide +kernel
theorem dX6_valueAt_18 : decode cX6_valueAt 18 = .ok (.goto 4, 3) := by decide +kernel
theorem dX6_valueAt_21 : decode cX6_valueAt 21 = .ok (.iconst 0, 1) := by decide +kernel
theorem dX6_valueAt_22 : decode cX6_valueAt 22 = .ok (.ireturn, 1) := by decide +kernel
theorem dX6_setValue_0 : decode cX6_setValue 0 = .ok (.iload_n 1, 1) := by decide +kernel
theorem dX6_setValue_1 : decode cX6_setValue 1 = .ok (.ifCond .lt 18, 3) := by decide +kernel
theorem dX6_setValue_4 : decode cX6_setValue 4 = .ok (.iload_n 1, 1) := by decide +kernel
theorem dX6_setValue_5 : decode cX6_setValue 5 = .ok (.aload_n 0, 1) := by decide +kernel
theorem dX6_setValue_6 : decode cX6_setValue 6 = .ok (.getfield 28, 3) := by decide +kernel
theorem dX6_setValue_9 : decode cX6_setValue 9 = .ok (.if_icmp .ge 10, 3) := by decide +kernel
theorem dX6_setValue_12 : decode cX6_setValue 12 = .ok (.aload_n 0, 1) := by decide +kernel
theorem dX6_setValue_13 : decode cX6_setValue 13 = .ok (.getfield 21, 3) := by decide +kernel
theorem dX6_setValue_16 : decode cX6_setValue 16 = .ok (.iload_n 1, 1) := by decide +kernel
theorem dX6_setValue_17 : decode cX6_setValue 17 = .ok (.iload_n 2, 1) := by decide +kernel
theorem dX6_setValue_18 : decode cX6_setValue 18 = .ok (.iastore, 1) := by decide +kernel
theorem dX6_setValue_19 : decode cX6_setValue 19 = .ok (.return_, 1) := by decide +kernel
theorem dX6_positionOf_0 : decode cX6_positionOf 0 = .ok (.iload_n 1, 1) := by decide +kernel
theorem dX6_positionOf_1 : decode cX6_positionOf 1 = .ok (.ifCond .lt 20, 3) := by decide +kernel
theorem dX6_positionOf_4 : decode cX6_positionOf 4 = .ok (.iload_n 1, 1) := by decide +kernel
theorem dX6_positionOf_5 : decode cX6_positionOf 5 = .ok (.aload_n 0, 1) := by decide +kernel
theorem dX6_positionOf_6 : decode cX6_positionOf 6 = .ok (.getfield 28, 3) := by decide +kernel
theorem dX6_positionOf_9 : decode cX6_positionOf 9 = .ok (.if_icmp .ge 12, 3) := by decide +kernel
theorem dX6_positionOf_12 : decode cX6_positionOf 12 = .ok (.aload_n 0, 1) := by decide +kernel
theorem dX6_positionOf_13 : decode cX6_positionOf 13 = .ok (.getfield 15, 3) := by decide +kernel
theorem dX6_positionOf_16 : decode cX6_positionOf 16 = .ok (.iload_n 1, 1) := by decide +kernel
theorem dX6_positionOf_17 : decode cX6_positionOf 17 = .ok (.iaload, 1) := by decide +kernel
theorem dX6_positionOf_18 : decode cX6_positionOf 18 = .ok (.goto 10, 3) := by decide +kernel
theorem dX6_positionOf_21 : decode cX6_positionOf 21 = .ok (.aload_n 0, 1) := by decide +kernel
theorem dX6_positionOf_22 : decode cX6_positionOf 22 = .ok (.getfield 24, 3) := by decide +kernel
theorem dX6_positionOf_25 : decode cX6_positionOf 25 = .ok (.getfield 32, 3) := by decide +kernel
theorem dX6_positionOf_28 : decode cX6_positionOf 28 = .ok (.ireturn, 1) := by decide +kernel
theorem dX6_areSameNames_0 : decode cX6_areSameNames 0 = .ok (.iload_n 1, 1) := by decide +kernel
theorem dX6_areSameNames_1 : decode cX6_areSameNames 1 = .ok (.ifCond .lt 23, 3) := by decide +kernel
theorem dX6_areSameNames_4 : decode cX6_areSameNames 4 = .ok (.iload_n 1, 1) := by decide +kernel
theorem dX6_areSameNames_5 : decode cX6_areSameNames 5 = .ok (.aload_n 0, 1) := by decide +kernel
theorem dX6_areSameNames_6 : decode cX6_areSameNames 6 = .ok (.getfield 28, 3) := by decide +kernel
theorem dX6_areSameNames_9 : decode cX6_areSameNames 9 = .ok (.if_icmp .ge 15, 3) := by decide +kernel
theorem dX6_areSameNames_12 : decode cX6_areSameNames 12 = .ok (.iload_n 2, 1) := by decide +kernel
theorem dX6_areSameNames_13 : decode cX6_areSameNames 13 = .ok (.ifCond .lt 11, 3) := by decide +kernel
theorem dX6_areSameNames_16 : decode cX6_areSameNames 16 = .ok (.iload_n 2, 1) := by decide +kernel
theorem dX6_areSameNames_17 : decode cX6_areSameNames 17 = .ok (.aload_n 0, 1) := by decide +kernel
theorem dX6_areSameNames_18 : decode cX6_areSameNames 18 = .ok (.getfield 28, 3) := by decide +kernel
theorem dX6_areSameNames_21 : decode cX6_areSameNames 21 = .ok (.if_icmp .lt 5, 3) := by decide +kernel
theorem dX6_areSameNames_24 : decode cX6_areSameNames 24 = .ok (.iconst 0, 1) := by decide +kernel
theorem dX6_areSameNames_25 : decode cX6_areSameNames 25 = .ok (.ireturn, 1) := by decide +kernel
theorem dX6_areSameNames_26 : decode cX6_areSameNames 26 = .ok (.aload_n 0, 1) := by decide +kernel
theorem dX6_areSameNames_27 : decode cX6_areSameNames 27 = .ok (.getfield 18, 3) := by decide +kernel
theorem dX6_areSameNames_30 : decode cX6_areSameNames 30 = .ok (.iload_n 1, 1) := by decide +kernel
theorem dX6_areSameNames_31 : decode cX6_areSameNames 31 = .ok (.iaload, 1) := by decide +kernel
theorem dX6_areSameNames_32 : decode cX6_areSameNames 32 = .ok (.aload_n 0, 1) := by decide +kernel
theorem dX6_areSameNames_33 : decode cX6_areSameNames 33 = .ok (.getfield 18, 3) := by decide +kernel
theorem dX6_areSameNames_36 : decode cX6_areSameNames 36 = .ok (.iload_n 2, 1) := by decide +kernel
theorem dX6_areSameNames_37 : decode cX6_areSameNames 37 = .ok (.iaload, 1) := by decide +kernel
theorem dX6_areSameNames_38 : decode cX6_areSameNames 38 = .ok (.if_icmp .ne 35, 3) := by decide +kernel
theorem dX6_areSameNames_41 : decode cX6_areSameNames 41 = .ok (.aload_n 0, 1) := by decide +kernel
theorem dX6_areSameNames_42 : decode cX6_areSameNames 42 = .ok (.getfield 24, 3) := by decide +kernel
theorem dX6_areSameNames_45 : decode cX6_areSameNames 45 = .ok (.aload_n 0, 1) := by decide +kernel
theorem dX6_areSameNames_46 : decode cX6_areSameNames 46 = .ok (.getfield 15, 3) := by decide +kernel
theorem dX6_areSameNames_49 : decode cX6_areSameNames 49 = .ok (.iload_n 1, 1) := by decide +kernel
theorem dX6_areSameNames_50 : decode cX6_areSameNames 50 = .ok (.iaload, 1) := by decide +kernel
theorem dX6_areSameNames_51 : decode cX6_areSameNames 51 = .ok (.aload_n 0, 1) := by decide +kernel
theorem dX6_areSameNames_52 : decode cX6_areSameNames 52 = .ok (.getfield 15, 3) := by decide +kernel
theorem dX6_areSameNames_55 : decode cX6_areSameNames 55 = .ok (.iload_n 2, 1) := by decide +kernel
theorem dX6_areSameNames_56 : decode cX6_areSameNames 56 = .ok (.iaload, 1) := by decide +kernel
theorem dX6_areSameNames_57 : decode cX6_areSameNames 57 = .ok (.aload_n 0, 1) := by decide +kernel
theorem dX6_areSameNames_58 : decode cX6_areSameNames 58 = .ok (.getfield 18, 3) := by decide +kernel
theorem dX6_areSameNames_61 : decode cX6_areSameNames 61 = .ok (.iload_n 1, 1) := by decide +kernel
theorem dX6_areSameNames_62 : decode cX6_areSameNames 62 = .ok (.iaload, 1) := by decide +kernel
theorem dX6_areSameNames_63 : decode cX6_areSameNames 63 = .ok (.invokevirtual 37, 3) := by decide +kernel
theorem dX6_areSameNames_66 : decode cX6_areSameNames 66 = .ok (.ifCond .eq 7, 3) := by decide +kernel
theorem dX6_areSameNames_69 : decode cX6_areSameNames 69 = .ok (.iconst 1, 1) := by decide +kernel
theorem dX6_areSameNames_70 : decode cX6_areSameNames 70 = .ok (.goto 4, 3) := by decide +kernel
theorem dX6_areSameNames_73 : decode cX6_areSameNames 73 = .ok (.iconst 0, 1) := by decide +kernel
theorem dX6_areSameNames_74 : decode cX6_areSameNames 74 = .ok (.ireturn, 1) := by decide +kernel
theorem dX6_readTape_0 : decode cX6_readTape 0 = .ok (.aload_n 0, 1) := by decide +kernel
theorem dX6_readTape_1 : decode cX6_readTape 1 = .ok (.iconst 0, 1) := by decide +kernel
theorem dX6_readTape_2 : decode cX6_readTape 2 = .ok (.putfield 28, 3) := by decide +kernel
theorem dX6_readTape_5 : decode cX6_readTape 5 = .ok (.aload_n 0, 1) := by decide +kernel
theorem dX6_readTape_6 : decode cX6_readTape 6 = .ok (.getfield 24, 3) := by decide +kernel
theorem dX6_readTape_9 : decode cX6_readTape 9 = .ok (.iconst 0, 1) := by decide +kernel
theorem dX6_readTape_10 : decode cX6_readTape 10 = .ok (.invokevirtual 41, 3) := by decide +kernel
theorem dX6_readTape_13 : decode cX6_readTape 13 = .ok (.istore_n 1, 1) := by decide +kernel
theorem dX6_readTape_14 : decode cX6_readTape 14 = .ok (.iconst 0, 1) := by decide +kernel
theorem dX6_readTape_15 : decode cX6_readTape 15 = .ok (.istore_n 2, 1) := by decide +kernel
theorem dX6_readTape_16 : decode cX6_readTape 16 = .ok (.iload_n 2, 1) := by decide +kernel
theorem dX6_readTape_17 : decode cX6_readTape 17 = .ok (.sipush 400, 3) := by decide +kernel
theorem dX6_readTape_20 : decode cX6_readTape 20 = .ok (.if_icmp .ge 48, 3) := by decide +kernel
theorem dX6_readTape_23 : decode cX6_readTape 23 = .ok (.iload_n 1, 1) := by decide +kernel
theorem dX6_readTape_24 : decode cX6_readTape 24 = .ok (.aload_n 0, 1) := by decide +kernel
theorem dX6_readTape_25 : decode cX6_readTape 25 = .ok (.getfield 24, 3) := by decide +kernel
theorem dX6_readTape_28 : decode cX6_readTape 28 = .ok (.getfield 32, 3) := by decide +kernel
theorem dX6_readTape_31 : decode cX6_readTape 31 = .ok (.if_icmp .ge 37, 3) := by decide +kernel
theorem dX6_readTape_34 : decode cX6_readTape 34 = .ok (.aload_n 0, 1) := by decide +kernel
theorem dX6_readTape_35 : decode cX6_readTape 35 = .ok (.iload_n 1, 1) := by decide +kernel
theorem dX6_readTape_36 : decode cX6_readTape 36 = .ok (.invokevirtual 45, 3) := by decide +kernel
theorem dX6_readTape_39 : decode cX6_readTape 39 = .ok (.istore_n 3, 1) := by decide +kernel
theorem dX6_readTape_40 : decode cX6_readTape 40 = .ok (.iload_n 3, 1) := by decide +kernel
theorem dX6_readTape_41 : decode cX6_readTape 41 = .ok (.iload_n 1, 1) := by decide +kernel
theorem dX6_readTape_42 : decode cX6_readTape 42 = .ok (.if_icmp .gt 11, 3) := by decide +kernel
theorem dX6_readTape_45 : decode cX6_readTape 45 = .ok (.aload_n 0, 1) := by decide +kernel
theorem dX6_readTape_46 : decode cX6_readTape 46 = .ok (.iconst 1, 1) := by decide +kernel
theorem dX6_readTape_47 : decode cX6_readTape 47 = .ok (.iload_n 1, 1) := by decide +kernel
theorem dX6_readTape_48 : decode cX6_readTape 48 = .ok (.iload_n 1, 1) := by decide +kernel
theorem dX6_readTape_49 : decode cX6_readTape 49 = .ok (.invokevirtual 48, 3) := by decide +kernel
theorem dX6_readTape_52 : decode cX6_readTape 52 = .ok (.return_, 1) := by decide +kernel
theorem dX6_readTape_53 : decode cX6_readTape 53 = .ok (.aload_n 0, 1) := by decide +kernel
theorem dX6_readTape_54 : decode cX6_readTape 54 = .ok (.getfield 24, 3) := by decide +kernel
theorem dX6_readTape_57 : decode cX6_readTape 57 = .ok (.iload_n 3, 1) := by decide +kernel
theorem dX6_readTape_58 : decode cX6_readTape 58 = .ok (.invokevirtual 41, 3) := by decide +kernel
theorem dX6_readTape_61 : decode cX6_readTape 61 = .ok (.istore_n 1, 1) := by decide +kernel
theorem dX6_readTape_62 : decode cX6_readTape 62 = .ok (.iinc 2 1, 3) := by decide +kernel
theorem dX6_readTape_65 : decode cX6_readTape 65 = .ok (.goto (-49), 3) := by decide +kernel
theorem dX6_readTape_68 : decode cX6_readTape 68 = .ok (.aload_n 0, 1) := by decide +kernel
theorem dX6_readTape_69 : decode cX6_readTape 69 = .ok (.iload_n 1, 1) := by decide +kernel
theorem dX6_readTape_70 : decode cX6_readTape 70 = .ok (.aload_n 0, 1) := by decide +kernel
theorem dX6_readTape_71 : decode cX6_readTape 71 = .ok (.getfield 24, 3) := by decide +kernel
theorem dX6_readTape_74 : decode cX6_readTape 74 = .ok (.getfield 32, 3) := by decide +kernel
theorem dX6_readTape_77 : decode cX6_readTape 77 = .ok (.if_icmp .ge 7, 3) := by decide +kernel
theorem dX6_readTape_80 : decode cX6_readTape 80 = .ok (.iconst 1, 1) := by decide +kernel
theorem dX6_readTape_81 : decode cX6_readTape 81 = .ok (.goto 4, 3) := by decide +kernel
theorem dX6_readTape_84 : decode cX6_readTape 84 = .ok (.iconst 0, 1) := by decide +kernel
theorem dX6_readTape_85 : decode cX6_readTape 85 = .ok (.iload_n 1, 1) := by decide +kernel
theorem dX6_readTape_86 : decode cX6_readTape 86 = .ok (.iload_n 1, 1) := by decide +kernel
theorem dX6_readTape_87 : decode cX6_readTape 87 = .ok (.invokevirtual 48, 3) := by decide +kernel
theorem dX6_readTape_90 : decode cX6_readTape 90 = .ok (.return_, 1) := by decide +kernel
theorem dX6_readToken_0 : decode cX6_readToken 0 = .ok (.aload_n 0, 1) := by decide +kernel
theorem dX6_readToken_1 : decode cX6_readToken 1 = .ok (.getfield 24, 3) := by decide +kernel
theorem dX6_readToken_4 : decode cX6_readToken 4 = .ok (.iload_n 1, 1) := by decide +kernel
theorem dX6_readToken_5 : decode cX6_readToken 5 = .ok (.invokevirtual 52, 3) := by decide +kernel
theorem dX6_readToken_8 : decode cX6_readToken 8 = .ok (.istore_n 2, 1) := by decide +kernel
theorem dX6_readToken_9 : decode cX6_readToken 9 = .ok (.iload_n 2, 1) := by decide +kernel
theorem dX6_readToken_10 : decode cX6_readToken 10 = .ok (.invokestatic 55, 3) := by decide +kernel
theorem dX6_readToken_13 : decode cX6_readToken 13 = .ok (.ifCond .eq 9, 3) := by decide +kernel
theorem dX6_readToken_16 : decode cX6_readToken 16 = .ok (.aload_n 0, 1) := by decide +kernel
theorem dX6_readToken_17 : decode cX6_readToken 17 = .ok (.iload_n 1, 1) := by decide +kernel
theorem dX6_readToken_18 : decode cX6_readToken 18 = .ok (.invokevirtual 59, 3) := by decide +kernel
theorem dX6_readToken_21 : decode cX6_readToken 21 = .ok (.ireturn, 1) := by decide +kernel
theorem dX6_readToken_22 : decode cX6_readToken 22 = .ok (.iload_n 2, 1) := by decide +kernel
theorem dX6_readToken_23 : decode cX6_readToken 23 = .ok (.invokestatic 62, 3) := by decide +kernel
theorem dX6_readToken_26 : decode cX6_readToken 26 = .ok (.ifCond .eq 9, 3) := by decide +kernel
theorem dX6_readToken_29 : decode cX6_readToken 29 = .ok (.aload_n 0, 1) := by decide +kernel
theorem dX6_readToken_30 : decode cX6_readToken 30 = .ok (.iload_n 1, 1) := by decide +kernel
theorem dX6_readToken_31 : decode cX6_readToken 31 = .ok (.invokevirtual 65, 3) := by decide +kernel
theorem dX6_readToken_34 : decode cX6_readToken 34 = .ok (.ireturn, 1) := by decide +kernel
theorem dX6_readToken_35 : decode cX6_readToken 35 = .ok (.aload_n 0, 1) := by decide +kernel
theorem dX6_readToken_36 : decode cX6_readToken 36 = .ok (.iload_n 1, 1) := by decide +kernel
theorem dX6_readToken_37 : decode cX6_readToken 37 = .ok (.iload_n 2, 1) := by decide +kernel
theorem dX6_readToken_38 : decode cX6_readToken 38 = .ok (.invokevirtual 68, 3) := by decide +kernel
theorem dX6_readToken_41 : decode cX6_readToken 41 = .ok (.ireturn, 1) := by decide +kernel
theorem dX6_readWord_0 : decode cX6_readWord 0 = .ok (.aload_n 0, 1) := by decide +kernel
theorem dX6_readWord_1 : decode cX6_readWord 1 = .ok (.getfield 24, 3) := by decide +kernel
theorem dX6_readWord_4 : decode cX6_readWord 4 = .ok (.iload_n 1, 1) := by decide +kernel
theorem dX6_readWord_5 : decode cX6_readWord 5 = .ok (.invokevirtual 72, 3) := by decide +kernel
theorem dX6_readWord_8 : decode cX6_readWord 8 = .ok (.istore_n 2, 1) := by decide +kernel
theorem dX6_readWord_9 : decode cX6_readWord 9 = .ok (.iload_n 2, 1) := by decide +kernel
theorem dX6_readWord_10 : decode cX6_readWord 10 = .ok (.iload_n 1, 1) := by decide +kernel
theorem dX6_readWord_11 : decode cX6_readWord 11 = .ok (.isub, 1) := by decide +kernel
theorem dX6_readWord_12 : decode cX6_readWord 12 = .ok (.bipush 10, 2) := by decide +kernel
theorem dX6_readWord_14 : decode cX6_readWord 14 = .ok (.if_icmp .le 5, 3) := by decide +kernel
theorem dX6_readWord_17 : decode cX6_readWord 17 = .ok (.iconst (-1), 1) := by decide +kernel
theorem dX6_readWord_18 : decode cX6_readWord 18 = .ok (.ireturn, 1) := by decide +kernel
theorem dX6_readWord_19 : decode cX6_readWord 19 = .ok (.iconst 2, 1) := by decide +kernel
theorem dX6_readWord_20 : decode cX6_readWord 20 = .ok (.istore_n 3, 1) := by decide +kernel
theorem dX6_readWord_21 : decode cX6_readWord 21 = .ok (.sipush 128, 3) := by decide +kernel
theorem dX6_readWord_24 : decode cX6_readWord 24 = .ok (.istore 4, 2) := by decide +kernel
theorem dX6_readWord_26 : decode cX6_readWord 26 = .ok (.iload 4, 2) := by decide +kernel
theorem dX6_readWord_28 : decode cX6_readWord 28 = .ok (.sipush 153, 3) := by decide +kernel
theorem dX6_readWord_31 : decode cX6_readWord 31 = .ok (.if_icmp .gt 36, 3) := by decide +kernel
theorem dX6_readWord_34 : decode cX6_readWord 34 = .ok (.iload_n 3, 1) := by decide +kernel
theorem dX6_readWord_35 : decode cX6_readWord 35 = .ok (.iconst 2, 1) := by decide +kernel
theorem dX6_readWord_36 : decode cX6_readWord 36 = .ok (.if_icmp .ne 31, 3) := by decide +kernel
theorem dX6_readWord_39 : decode cX6_readWord 39 = .ok (.aload_n 0, 1) := by decide +kernel
theorem dX6_readWord_40 : decode cX6_readWord 40 = .ok (.getfield 24, 3) := by decide +kernel
theorem dX6_readWord_43 : decode cX6_readWord 43 = .ok (.iload 4, 2) := by decide +kernel
theorem dX6_readWord_45 : decode cX6_readWord 45 = .ok (.invokestatic 75, 3) := by decide +kernel
theorem dX6_readWord_48 : decode cX6_readWord 48 = .ok (.iload_n 1, 1) := by decide +kernel
theorem dX6_readWord_49 : decode cX6_readWord 49 = .ok (.iload_n 2, 1) := by decide +kernel
theorem dX6_readWord_50 : decode cX6_readWord 50 = .ok (.iload_n 1, 1) := by decide +kernel
theorem dX6_readWord_51 : decode cX6_readWord 51 = .ok (.isub, 1) := by decide +kernel
theorem dX6_readWord_52 : decode cX6_readWord 52 = .ok (.invokevirtual 79, 3) := by decide +kernel
theorem dX6_readWord_55 : decode cX6_readWord 55 = .ok (.ifCond .eq 6, 3) := by decide +kernel
theorem dX6_readWord_58 : decode cX6_readWord 58 = .ok (.iload 4, 2) := by decide +kernel
theorem dX6_readWord_60 : decode cX6_readWord 60 = .ok (.istore_n 3, 1) := by decide +kernel
theorem dX6_readWord_61 : decode cX6_readWord 61 = .ok (.iinc 4 1, 3) := by decide +kernel
theorem dX6_readWord_64 : decode cX6_readWord 64 = .ok (.goto (-38), 3) := by decide +kernel
theorem dX6_readWord_67 : decode cX6_readWord 67 = .ok (.aload_n 0, 1) := by decide +kernel
theorem dX6_readWord_68 : decode cX6_readWord 68 = .ok (.iload_n 3, 1) := by decide +kernel
theorem dX6_readWord_69 : decode cX6_readWord 69 = .ok (.iload_n 1, 1) := by decide +kernel
theorem dX6_readWord_70 : decode cX6_readWord 70 = .ok (.iload_n 2, 1) := by decide +kernel
theorem dX6_readWord_71 : decode cX6_readWord 71 = .ok (.invokevirtual 48, 3) := by decide +kernel
theorem dX6_readWord_74 : decode cX6_readWord 74 = .ok (.iload_n 2, 1) := by decide +kernel
theorem dX6_readWord_75 : decode cX6_readWord 75 = .ok (.ireturn, 1) := by decide +kernel
theorem dX6_readNumber_0 : decode cX6_readNumber 0 = .ok (.aload_n 0, 1) := by decide +kernel
theorem dX6_readNumber_1 : decode cX6_readNumber 1 = .ok (.getfield 24, 3) := by decide +kernel
theorem dX6_readNumber_4 : decode cX6_readNumber 4 = .ok (.iload_n 1, 1) := by decide +kernel
theorem dX6_readNumber_5 : decode cX6_readNumber 5 = .ok (.invokevirtual 83, 3) := by decide +kernel
theorem dX6_readNumber_8 : decode cX6_readNumber 8 = .ok (.istore_n 2, 1) := by decide +kernel
theorem dX6_readNumber_9 : decode cX6_readNumber 9 = .ok (.iload_n 2, 1) := by decide +kernel
theorem dX6_readNumber_10 : decode cX6_readNumber 10 = .ok (.iload_n 1, 1) := by decide +kernel
theorem dX6_readNumber_11 : decode cX6_readNumber 11 = .ok (.isub, 1) := by decide +kernel
theorem dX6_readNumber_12 : decode cX6_readNumber 12 = .ok (.bipush 6, 2) := by decide +kernel
theorem dX6_readNumber_14 : decode cX6_readNumber 14 = .ok (.if_icmp .le 5, 3) := by decide +kernel
theorem dX6_readNumber_17 : decode cX6_readNumber 17 = .ok (.iconst (-1), 1) := by decide +kernel
theorem dX6_readNumber_18 : decode cX6_readNumber 18 = .ok (.ireturn, 1) := by decide +kernel
theorem dX6_readNumber_19 : decode cX6_readNumber 19 = .ok (.iconst 0, 1) := by decide +kernel
theorem dX6_readNumber_20 : decode cX6_readNumber 20 = .ok (.istore_n 3, 1) := by decide +kernel
theorem dX6_readNumber_21 : decode cX6_readNumber 21 = .ok (.iload_n 1, 1) := by decide +kernel
theorem dX6_readNumber_22 : decode cX6_readNumber 22 = .ok (.istore 4, 2) := by decide +kernel
theorem dX6_readNumber_24 : decode cX6_readNumber 24 = .ok (.iload 4, 2) := by decide +kernel
theorem dX6_readNumber_26 : decode cX6_readNumber 26 = .ok (.iload_n 2, 1) := by decide +kernel
theorem dX6_readNumber_27 : decode cX6_readNumber 27 = .ok (.if_icmp .ge 27, 3) := by decide +kernel
theorem dX6_readNumber_30 : decode cX6_readNumber 30 = .ok (.iload_n 3, 1) := by decide +kernel
theorem dX6_readNumber_31 : decode cX6_readNumber 31 = .ok (.bipush 10, 2) := by decide +kernel
theorem dX6_readNumber_33 : decode cX6_readNumber 33 = .ok (.imul, 1) := by decide +kernel
theorem dX6_readNumber_34 : decode cX6_readNumber 34 = .ok (.aload_n 0, 1) := by decide +kernel
theorem dX6_readNumber_35 : decode cX6_readNumber 35 = .ok (.getfield 24, 3) := by decide +kernel
theorem dX6_readNumber_38 : decode cX6_readNumber 38 = .ok (.iload 4, 2) := by decide +kernel
theorem dX6_readNumber_40 : decode cX6_readNumber 40 = .ok (.invokevirtual 52, 3) := by decide +kernel
theorem dX6_readNumber_43 : decode cX6_readNumber 43 = .ok (.bipush 48, 2) := by decide +kernel
theorem dX6_readNumber_45 : decode cX6_readNumber 45 = .ok (.isub, 1) := by decide +kernel
theorem dX6_readNumber_46 : decode cX6_readNumber 46 = .ok (.iadd, 1) := by decide +kernel
theorem dX6_readNumber_47 : decode cX6_readNumber 47 = .ok (.istore_n 3, 1) := by decide +kernel
theorem dX6_readNumber_48 : decode cX6_readNumber 48 = .ok (.iinc 4 1, 3) := by decide +kernel
theorem dX6_readNumber_51 : decode cX6_readNumber 51 = .ok (.goto (-27), 3) := by decide +kernel
theorem dX6_readNumber_54 : decode cX6_readNumber 54 = .ok (.aload_n 0, 1) := by decide +kernel
theorem dX6_readNumber_55 : decode cX6_readNumber 55 = .ok (.iconst 3, 1) := by decide +kernel
theorem dX6_readNumber_56 : decode cX6_readNumber 56 = .ok (.iload_n 1, 1) := by decide +kernel
theorem dX6_readNumber_57 : decode cX6_readNumber 57 = .ok (.iload_n 2, 1) := by decide +kernel
theorem dX6_readNumber_58 : decode cX6_readNumber 58 = .ok (.invokevirtual 48, 3) := by decide +kernel
theorem dX6_readNumber_61 : decode cX6_readNumber 61 = .ok (.aload_n 0, 1) := by decide +kernel
theorem dX6_readNumber_62 : decode cX6_readNumber 62 = .ok (.aload_n 0, 1) := by decide +kernel
theorem dX6_readNumber_63 : decode cX6_readNumber 63 = .ok (.getfield 28, 3) := by decide +kernel
theorem dX6_readNumber_66 : decode cX6_readNumber 66 = .ok (.iconst 1, 1) := by decide +kernel
theorem dX6_readNumber_67 : decode cX6_readNumber 67 = .ok (.isub, 1) := by decide +kernel
theorem dX6_readNumber_68 : decode cX6_readNumber 68 = .ok (.iload_n 3, 1) := by decide +kernel
theorem dX6_readNumber_69 : decode cX6_readNumber 69 = .ok (.invokevirtual 86, 3) := by decide +kernel
theorem dX6_readNumber_72 : decode cX6_readNumber 72 = .ok (.iload_n 2, 1) := by decide +kernel
theorem dX6_readNumber_73 : decode cX6_readNumber 73 = .ok (.ireturn, 1) := by decide +kernel
theorem dX6_readSymbol_0 : decode cX6_readSymbol 0 = .ok (.aload_n 0, 1) := by decide +kernel
theorem dX6_readSymbol_1 : decode cX6_readSymbol 1 = .ok (.getfield 24, 3) := by decide +kernel
theorem dX6_readSymbol_4 : decode cX6_readSymbol 4 = .ok (.iload_n 1, 1) := by decide +kernel
theorem dX6_readSymbol_5 : decode cX6_readSymbol 5 = .ok (.iconst 1, 1) := by decide +kernel
theorem dX6_readSymbol_6 : decode cX6_readSymbol 6 = .ok (.iadd, 1) := by decide +kernel
theorem dX6_readSymbol_7 : decode cX6_readSymbol 7 = .ok (.invokevirtual 52, 3) := by decide +kernel
theorem dX6_readSymbol_10 : decode cX6_readSymbol 10 = .ok (.bipush 61, 2) := by decide +kernel
theorem dX6_readSymbol_12 : decode cX6_readSymbol 12 = .ok (.if_icmp .ne 7, 3) := by decide +kernel
theorem dX6_readSymbol_15 : decode cX6_readSymbol 15 = .ok (.iconst 1, 1) := by decide +kernel
theorem dX6_readSymbol_16 : decode cX6_readSymbol 16 = .ok (.goto 4, 3) := by decide +kernel
theorem dX6_readSymbol_19 : decode cX6_readSymbol 19 = .ok (.iconst 0, 1) := by decide +kernel
theorem dX6_readSymbol_20 : decode cX6_readSymbol 20 = .ok (.istore_n 3, 1) := by decide +kernel
theorem dX6_readSymbol_21 : decode cX6_readSymbol 21 = .ok (.iload_n 3, 1) := by decide +kernel
theorem dX6_readSymbol_22 : decode cX6_readSymbol 22 = .ok (.ifCond .eq 38, 3) := by decide +kernel
theorem dX6_readSymbol_25 : decode cX6_readSymbol 25 = .ok (.iload_n 2, 1) := by decide +kernel
theorem dX6_readSymbol_26 : decode cX6_readSymbol 26 = .ok (.bipush 60, 2) := by decide +kernel
theorem dX6_readSymbol_28 : decode cX6_readSymbol 28 = .ok (.if_icmp .eq 9, 3) := by decide +kernel
theorem dX6_readSymbol_31 : decode cX6_readSymbol 31 = .ok (.iload_n 2, 1) := by decide +kernel
theorem dX6_readSymbol_32 : decode cX6_readSymbol 32 = .ok (.bipush 62, 2) := by decide +kernel
theorem dX6_readSymbol_34 : decode cX6_readSymbol 34 = .ok (.if_icmp .ne 26, 3) := by decide +kernel
theorem dX6_readSymbol_37 : decode cX6_readSymbol 37 = .ok (.aload_n 0, 1) := by decide +kernel
theorem dX6_readSymbol_38 : decode cX6_readSymbol 38 = .ok (.iload_n 2, 1) := by decide +kernel
theorem dX6_readSymbol_39 : decode cX6_readSymbol 39 = .ok (.bipush 60, 2) := by decide +kernel
theorem dX6_readSymbol_41 : decode cX6_readSymbol 41 = .ok (.if_icmp .ne 7, 3) := by decide +kernel
theorem dX6_readSymbol_44 : decode cX6_readSymbol 44 = .ok (.iconst 4, 1) := by decide +kernel
theorem dX6_readSymbol_45 : decode cX6_readSymbol 45 = .ok (.goto 4, 3) := by decide +kernel
theorem dX6_readSymbol_48 : decode cX6_readSymbol 48 = .ok (.iconst 5, 1) := by decide +kernel
theorem dX6_readSymbol_49 : decode cX6_readSymbol 49 = .ok (.iload_n 1, 1) := by decide +kernel
theorem dX6_readSymbol_50 : decode cX6_readSymbol 50 = .ok (.iload_n 1, 1) := by decide +kernel
theorem dX6_readSymbol_51 : decode cX6_readSymbol 51 = .ok (.iconst 2, 1) := by decide +kernel
theorem dX6_readSymbol_52 : decode cX6_readSymbol 52 = .ok (.iadd, 1) := by decide +kernel
theorem dX6_readSymbol_53 : decode cX6_readSymbol 53 = .ok (.invokevirtual 48, 3) := by decide +kernel
theorem dX6_readSymbol_56 : decode cX6_readSymbol 56 = .ok (.iload_n 1, 1) := by decide +kernel
theorem dX6_readSymbol_57 : decode cX6_readSymbol 57 = .ok (.iconst 2, 1) := by decide +kernel
theorem dX6_readSymbol_58 : decode cX6_readSymbol 58 = .ok (.iadd, 1) := by decide +kernel
theorem dX6_readSymbol_59 : decode cX6_readSymbol 59 = .ok (.ireturn, 1) := by decide +kernel
theorem dX6_readSymbol_60 : decode cX6_readSymbol 60 = .ok (.ldc 90, 2) := by decide +kernel
theorem dX6_readSymbol_62 : decode cX6_readSymbol 62 = .ok (.iload_n 2, 1) := by decide +kernel
theorem dX6_readSymbol_63 : decode cX6_readSymbol 63 = .ok (.i2c, 1) := by decide +kernel
theorem dX6_readSymbol_64 : decode cX6_readSymbol 64 = .ok (.invokevirtual 92, 3) := by decide +kernel
theorem dX6_readSymbol_67 : decode cX6_readSymbol 67 = .ok (.ifCond .ge 5, 3) := by decide +kernel
theorem dX6_readSymbol_70 : decode cX6_readSymbol 70 = .ok (.iconst (-1), 1) := by decide +kernel
theorem dX6_readSymbol_71 : decode cX6_readSymbol 71 = .ok (.ireturn, 1) := by decide +kernel
theorem dX6_readSymbol_72 : decode cX6_readSymbol 72 = .ok (.aload_n 0, 1) := by decide +kernel
theorem dX6_readSymbol_73 : decode cX6_readSymbol 73 = .ok (.iload_n 2, 1) := by decide +kernel
theorem dX6_readSymbol_74 : decode cX6_readSymbol 74 = .ok (.iload_n 1, 1) := by decide +kernel
theorem dX6_readSymbol_75 : decode cX6_readSymbol 75 = .ok (.iload_n 1, 1) := by decide +kernel
theorem dX6_readSymbol_76 : decode cX6_readSymbol 76 = .ok (.iconst 1, 1) := by decide +kernel
theorem dX6_readSymbol_77 : decode cX6_readSymbol 77 = .ok (.iadd, 1) := by decide +kernel
theorem dX6_readSymbol_78 : decode cX6_readSymbol 78 = .ok (.invokevirtual 48, 3) := by decide +kernel
theorem dX6_readSymbol_81 : decode cX6_readSymbol 81 = .ok (.iload_n 1, 1) := by decide +kernel
theorem dX6_readSymbol_82 : decode cX6_readSymbol 82 = .ok (.iconst 1, 1) := by decide +kernel
theorem dX6_readSymbol_83 : decode cX6_readSymbol 83 = .ok (.iadd, 1) := by decide +kernel
theorem dX6_readSymbol_84 : decode cX6_readSymbol 84 = .ok (.ireturn, 1) := by decide +kernel
theorem dX6_add_0 : decode cX6_add 0 = .ok (.aload_n 0, 1) := by decide +kernel
theorem dX6_add_1 : decode cX6_add 1 = .ok (.getfield 28, 3) := by decide +kernel
theorem dX6_add_4 : decode cX6_add 4 = .ok (.sipush 400, 3) := by decide +kernel
theorem dX6_add_7 : decode cX6_add 7 = .ok (.if_icmp .le 4, 3) := by decide +kernel
theorem dX6_add_10 : decode cX6_add 10 = .ok (.return_, 1) := by decide +kernel
theorem dX6_add_11 : decode cX6_add 11 = .ok (.aload_n 0, 1) := by decide +kernel
theorem dX6_add_12 : decode cX6_add 12 = .ok (.getfield 9, 3) := by decide +kernel
theorem dX6_add_15 : decode cX6_add 15 = .ok (.aload_n 0, 1) := by decide +kernel
theorem dX6_add_16 : decode cX6_add 16 = .ok (.getfield 28, 3) := by decide +kernel
theorem dX6_add_19 : decode cX6_add 19 = .ok (.iload_n 1, 1) := by decide +kernel
theorem dX6_add_20 : decode cX6_add 20 = .ok (.iastore, 1) := by decide +kernel
theorem dX6_add_21 : decode cX6_add 21 = .ok (.aload_n 0, 1) := by decide +kernel
theorem dX6_add_22 : decode cX6_add 22 = .ok (.getfield 15, 3) := by decide +kernel
theorem dX6_add_25 : decode cX6_add 25 = .ok (.aload_n 0, 1) := by decide +kernel
theorem dX6_add_26 : decode cX6_add 26 = .ok (.getfield 28, 3) := by decide +kernel
theorem dX6_add_29 : decode cX6_add 29 = .ok (.iload_n 2, 1) := by decide +kernel
theorem dX6_add_30 : decode cX6_add 30 = .ok (.iastore, 1) := by decide +kernel
theorem dX6_add_31 : decode cX6_add 31 = .ok (.aload_n 0, 1) := by decide +kernel
theorem dX6_add_32 : decode cX6_add 32 = .ok (.getfield 18, 3) := by decide +kernel
theorem dX6_add_35 : decode cX6_add 35 = .ok (.aload_n 0, 1) := by decide +kernel
theorem dX6_add_36 : decode cX6_add 36 = .ok (.getfield 28, 3) := by decide +kernel
theorem dX6_add_39 : decode cX6_add 39 = .ok (.iload_n 3, 1) := by decide +kernel
theorem dX6_add_40 : decode cX6_add 40 = .ok (.iload_n 2, 1) := by decide +kernel
theorem dX6_add_41 : decode cX6_add 41 = .ok (.isub, 1) := by decide +kernel
theorem dX6_add_42 : decode cX6_add 42 = .ok (.iastore, 1) := by decide +kernel
theorem dX6_add_43 : decode cX6_add 43 = .ok (.aload_n 0, 1) := by decide +kernel
theorem dX6_add_44 : decode cX6_add 44 = .ok (.getfield 21, 3) := by decide +kernel
theorem dX6_add_47 : decode cX6_add 47 = .ok (.aload_n 0, 1) := by decide +kernel
theorem dX6_add_48 : decode cX6_add 48 = .ok (.getfield 28, 3) := by decide +kernel
theorem dX6_add_51 : decode cX6_add 51 = .ok (.iconst 0, 1) := by decide +kernel
theorem dX6_add_52 : decode cX6_add 52 = .ok (.iastore, 1) := by decide +kernel
theorem dX6_add_53 : decode cX6_add 53 = .ok (.aload_n 0, 1) := by decide +kernel
theorem dX6_add_54 : decode cX6_add 54 = .ok (.dup, 1) := by decide +kernel
theorem dX6_add_55 : decode cX6_add 55 = .ok (.getfield 28, 3) := by decide +kernel
theorem dX6_add_58 : decode cX6_add 58 = .ok (.iconst 1, 1) := by decide +kernel
theorem dX6_add_59 : decode cX6_add 59 = .ok (.iadd, 1) := by decide +kernel
theorem dX6_add_60 : decode cX6_add 60 = .ok (.putfield 28, 3) := by decide +kernel
theorem dX6_add_63 : decode cX6_add 63 = .ok (.return_, 1) := by decide +kernel
theorem dX6_keyword_0 : decode cX6_keyword 0 = .ok (.iload_n 0, 1) := by decide +kernel
theorem dX6_keyword_1 : decode cX6_keyword 1 = .ok (.tableswitch 197 128 153 #[119, 122, 125, 128, 131, 134, 137, 140, 143, 146, 149, 152, 155, 158, 161, 164, 167, 170, 173, 176, 179, 182, 185, 188, 191, 194], 119) := by decide +kernel
theorem dX6_keyword_120 : decode cX6_keyword 120 = .ok (.ldc 97, 2) := by decide +kernel
theorem dX6_keyword_122 : decode cX6_keyword 122 = .ok (.areturn, 1) := by decide +kernel
theorem dX6_keyword_123 : decode cX6_keyword 123 = .ok (.ldc 99, 2) := by decide +kernel
theorem dX6_keyword_125 : decode cX6_keyword 125 = .ok (.areturn, 1) := by decide +kernel
theorem dX6_keyword_126 : decode cX6_keyword 126 = .ok (.ldc 101, 2) := by decide +kernel
theorem dX6_keyword_128 : decode cX6_keyword 128 = .ok (.areturn, 1) := by decide +kernel
theorem dX6_keyword_129 : decode cX6_keyword 129 = .ok (.ldc 103, 2) := by decide +kernel
theorem dX6_keyword_131 : decode cX6_keyword 131 = .ok (.areturn, 1) := by decide +kernel
theorem dX6_keyword_132 : decode cX6_keyword 132 = .ok (.ldc 105, 2) := by decide +kernel
theorem dX6_keyword_134 : decode cX6_keyword 134 = .ok (.areturn, 1) := by decide +kernel
theorem dX6_keyword_135 : decode cX6_keyword 135 = .ok (.ldc 107, 2) := by decide +kernel
theorem dX6_keyword_137 : decode cX6_keyword 137 = .ok (.areturn, 1) := by decide +kernel
theorem dX6_keyword_138 : decode cX6_keyword 138 = .ok (.ldc 109, 2) := by decide +kernel
theorem dX6_keyword_140 : decode cX6_keyword 140 = .ok (.areturn, 1) := by decide +kernel
theorem dX6_keyword_141 : decode cX6_keyword 141 = .ok (.ldc 111, 2) := by decide +kernel
theorem dX6_keyword_143 : decode cX6_keyword 143 = .ok (.areturn, 1) := by decide +kernel
theorem dX6_keyword_144 : decode cX6_keyword 144 = .ok (.ldc 113, 2) := by decide +kernel
theorem dX6_keyword_146 : decode cX6_keyword 146 = .ok (.areturn, 1) := by decide +kernel
theorem dX6_keyword_147 : decode cX6_keyword 147 = .ok (.ldc 115, 2) := by decide +kernel
theorem dX6_keyword_149 : decode cX6_keyword 149 = .ok (.areturn, 1) := by decide +kernel
theorem dX6_keyword_150 : decode cX6_keyword 150 = .ok (.ldc 117, 2) := by decide +kernel
theorem dX6_keyword_152 : decode cX6_keyword 152 = .ok (.areturn, 1) := by decide +kernel
theorem dX6_keyword_153 : decode cX6_keyword 153 = .ok (.ldc 119, 2) := by decide +kernel
theorem dX6_keyword_155 : decode cX6_keyword 155 = .ok (.areturn, 1) := by decide +kernel
theorem dX6_keyword_156 : decode cX6_keyword 156 = .ok (.ldc 121, 2) := by decide +kernel
theorem dX6_keyword_158 : decode cX6_keyword 158 = .ok (.areturn, 1) := by decide +kernel
theorem dX6_keyword_159 : decode cX6_keyword 159 = .ok (.ldc 123, 2) := by decide +kernel
theorem dX6_keyword_161 : decode cX6_keyword 161 = .ok (.areturn, 1) := by decide +kernel
theorem dX6_keyword_162 : decode cX6_keyword 162 = .ok (.ldc 125, 2) := by decide +kernel
theorem dX6_keyword_164 : decode cX6_keyword 164 = .ok (.areturn, 1) := by decide +kernel
theorem dX6_keyword_165 : decode cX6_keyword 165 = .ok (.ldc 127, 2) := by decide +kernel
theorem dX6_keyword_167 : decode cX6_keyword 167 = .ok (.areturn, 1) := by decide +kernel
theorem dX6_keyword_168 : decode cX6_keyword 168 = .ok (.ldc 129, 2) := by decide +kernel
theorem dX6_keyword_170 : decode cX6_keyword 170 = .ok (.areturn, 1) := by decide +kernel
theorem dX6_keyword_171 : decode cX6_keyword 171 = .ok (.ldc 131, 2) := by decide +kernel
theorem dX6_keyword_173 : decode cX6_keyword 173 = .ok (.areturn, 1) := by decide +kernel
theorem dX6_keyword_174 : decode cX6_keyword 174 = .ok (.ldc 133, 2) := by decide +kernel
theorem dX6_keyword_176 : decode cX6_keyword 176 = .ok (.areturn, 1) := by decide +kernel
theorem dX6_keyword_177 : decode cX6_keyword 177 = .ok (.ldc 135, 2) := by decide +kernel
theorem dX6_keyword_179 : decode cX6_keyword 179 = .ok (.areturn, 1) := by decide +kernel
theorem dX6_keyword_180 : decode cX6_keyword 180 = .ok (.ldc 137, 2) := by decide +kernel
theorem dX6_keyword_182 : decode cX6_keyword 182 = .ok (.areturn, 1) := by decide +kernel
theorem dX6_keyword_183 : decode cX6_keyword 183 = .ok (.ldc 139, 2) := by decide +kernel
theorem dX6_keyword_185 : decode cX6_keyword 185 = .ok (.areturn, 1) := by decide +kernel
theorem dX6_keyword_186 : decode cX6_keyword 186 = .ok (.ldc 141, 2) := by decide +kernel
theorem dX6_keyword_188 : decode cX6_keyword 188 = .ok (.areturn, 1) := by decide +kernel
theorem dX6_keyword_189 : decode cX6_keyword 189 = .ok (.ldc 143, 2) := by decide +kernel
theorem dX6_keyword_191 : decode cX6_keyword 191 = .ok (.areturn, 1) := by decide +kernel
theorem dX6_keyword_192 : decode cX6_keyword 192 = .ok (.ldc 145, 2) := by decide +kernel
theorem dX6_keyword_194 : decode cX6_keyword 194 = .ok (.areturn, 1) := by decide +kernel
theorem dX6_keyword_195 : decode cX6_keyword 195 = .ok (.ldc 147, 2) := by decide +kernel
theorem dX6_keyword_197 : decode cX6_keyword 197 = .ok (.areturn, 1) := by decide +kernel
theorem dX6_keyword_198 : decode cX6_keyword 198 = .ok (.ldc 149, 2) := by decide +kernel
theorem dX6_keyword_200 : decode cX6_keyword 200 = .ok (.areturn, 1) := by decide +kernel
theorem dX7_init_0 : decode cX7_init 0 = .ok (.aload_n 0, 1) := by decide +kernel
theorem dX7_init_1 : decode cX7_init 1 = .ok (.invokespecial 3, 3) := by decide +kernel
theorem dX7_init_4 : decode cX7_init 4 = .ok (.aload_n 0, 1) := by decide +kernel
theorem dX7_init_5 : decode cX7_init 5 = .ok (.new 9, 3) := by decide +kernel
theorem dX7_init_8 : decode cX7_init 8 = .ok (.dup, 1) := by decide +kernel
theorem dX7_init_9 : decode cX7_init 9 = .ok (.invokespecial 11, 3) := by decide +kernel
theorem dX7_init_12 : decode cX7_init 12 = .ok (.putfield 12, 3) := by decide +kernel
theorem dX7_init_15 : decode cX7_init 15 = .ok (.aload_n 0, 1) := by decide +kernel
theorem dX7_init_16 : decode cX7_init 16 = .ok (.new 18, 3) := by decide +kernel
theorem dX7_init_19 : decode cX7_init 19 = .ok (.dup, 1) := by decide +kernel
theorem dX7_init_20 : decode cX7_init 20 = .ok (.invokespecial 20, 3) := by decide +kernel
theorem dX7_init_23 : decode cX7_init 23 = .ok (.putfield 21, 3) := by decide +kernel
theorem dX7_init_26 : decode cX7_init 26 = .ok (.aload_n 0, 1) := by decide +kernel
theorem dX7_init_27 : decode cX7_init 27 = .ok (.sipush 400, 3) := by decide +kernel
theorem dX7_init_30 : decode cX7_init 30 = .ok (.newarray .int, 2) := by decide +kernel
theorem dX7_init_32 : decode cX7_init 32 = .ok (.putfield 25, 3) := by decide +kernel
theorem dX7_init_35 : decode cX7_init 35 = .ok (.aload_n 0, 1) := by decide +kernel
theorem dX7_init_36 : decode cX7_init 36 = .ok (.aload_n 1, 1) := by decide +kernel
theorem dX7_init_37 : decode cX7_init 37 = .ok (.putfield 29, 3) := by decide +kernel
theorem dX7_init_40 : decode cX7_init 40 = .ok (.return_, 1) := by decide +kernel
theorem dX7_begin_0 : decode cX7_begin 0 = .ok (.aload_n 0, 1) := by decide +kernel
theorem dX7_begin_1 : decode cX7_begin 1 = .ok (.getfield 12, 3) := by decide +kernel
theorem dX7_begin_4 : decode cX7_begin 4 = .ok (.aload_n 0, 1) := by decide +kernel
theorem dX7_begin_5 : decode cX7_begin 5 = .ok (.getfield 29, 3) := by decide +kernel
theorem dX7_begin_8 : decode cX7_begin 8 = .ok (.invokevirtual 33, 3) := by decide +kernel
theorem dX7_begin_11 : decode cX7_begin 11 = .ok (.aload_n 0, 1) := by decide +kernel
theorem dX7_begin_12 : decode cX7_begin 12 = .ok (.getfield 21, 3) := by decide +kernel
theorem dX7_begin_15 : decode cX7_begin 15 = .ok (.invokevirtual 37, 3) := by decide +kernel
theorem dX7_begin_18 : decode cX7_begin 18 = .ok (.aload_n 0, 1) := by decide +kernel
theorem dX7_begin_19 : decode cX7_begin 19 = .ok (.iconst 0, 1) := by decide +kernel
theorem dX7_begin_20 : decode cX7_begin 20 = .ok (.putfield 39, 3) := by decide +kernel
theorem dX7_begin_23 : decode cX7_begin 23 = .ok (.return_, 1) := by decide +kernel
theorem dX7_copy_0 : decode cX7_copy 0 = .ok (.aload_n 0, 1) := by decide +kernel
theorem dX7_copy_1 : decode cX7_copy 1 = .ok (.getfield 12, 3) := by decide +kernel
theorem dX7_copy_4 : decode cX7_copy 4 = .ok (.aload_n 1, 1) := by decide +kernel
theorem dX7_copy_5 : decode cX7_copy 5 = .ok (.getfield 12, 3) := by decide +kernel
theorem dX7_copy_8 : decode cX7_copy 8 = .ok (.invokevirtual 43, 3) := by decide +kernel
theorem dX7_copy_11 : decode cX7_copy 11 = .ok (.aload_n 0, 1) := by decide +kernel
theorem dX7_copy_12 : decode cX7_copy 12 = .ok (.getfield 21, 3) := by decide +kernel
theorem dX7_copy_15 : decode cX7_copy 15 = .ok (.aload_n 1, 1) := by decide +kernel
theorem dX7_copy_16 : decode cX7_copy 16 = .ok (.getfield 21, 3) := by decide +kernel
theorem dX7_copy_19 : decode cX7_copy 19 = .ok (.invokevirtual 47, 3) := by decide +kernel
theorem dX7_copy_22 : decode cX7_copy 22 = .ok (.aload_n 0, 1) := by decide +kernel
theorem dX7_copy_23 : decode cX7_copy 23 = .ok (.aload_n 1, 1) := by decide +kernel
theorem dX7_copy_24 : decode cX7_copy 24 = .ok (.getfield 39, 3) := by decide +kernel
theorem dX7_copy_27 : decode cX7_copy 27 = .ok (.putfield 39, 3) := by decide +kernel
theorem dX7_copy_30 : decode cX7_copy 30 = .ok (.return_, 1) := by decide +kernel
theorem dX7_pass_0 : decode cX7_pass 0 = .ok (.iconst 0, 1) := by decide +kernel
theorem dX7_pass_1 : decode cX7_pass 1 = .ok (.istore_n 2, 1) := by decide +kernel
theorem dX7_pass_2 : decode cX7_pass 2 = .ok (.iload_n 2, 1) := by decide +kernel
theorem dX7_pass_3 : decode cX7_pass 3 = .ok (.iload_n 1, 1) := by decide +kernel
theorem dX7_pass_4 : decode cX7_pass 4 = .ok (.if_icmp .ge 76, 3) := by decide +kernel
theorem dX7_pass_7 : decode cX7_pass 7 = .ok (.aload_n 0, 1) := by decide +kernel
theorem dX7_pass_8 : decode cX7_pass 8 = .ok (.iconst 0, 1) := by decide +kernel
theorem dX7_pass_9 : decode cX7_pass 9 = .ok (.putfield 50, 3) := by decide +kernel
theorem dX7_pass_12 : decode cX7_pass 12 = .ok (.iconst 0, 1) := by decide +kernel
theorem dX7_pass_13 : decode cX7_pass 13 = .ok (.istore_n 3, 1) := by decide +kernel
theorem dX7_pass_14 : decode cX7_pass 14 = .ok (.iload_n 3, 1) := by decide +kernel
theorem dX7_pass_15 : decode cX7_pass 15 = .ok (.aload_n 0, 1) := by decide +kernel
theorem dX7_pass_16 : decode cX7_pass 16 = .ok (.getfield 29, 3) := by decide +kernel
theorem dX7_pass_19 : decode cX7_pass 19 = .ok (.getfield 53, 3) := by decide +kernel
theorem dX7_pass_22 : decode cX7_pass 22 = .ok (.if_icmp .ge 38, 3) := by decide +kernel
theorem dX7_pass_25 : decode cX7_pass 25 = .ok (.iload_n 3, 1) := by decide +kernel
theorem dX7_pass_26 : decode cX7_pass 26 = .ok (.sipush 400, 3) := by decide +kernel
theorem dX7_pass_29 : decode cX7_pass 29 = .ok (.if_icmp .ge 31, 3) := by decide +kernel
theorem dX7_pass_32 : decode cX7_pass 32 = .ok (.aload_n 0, 1) := by decide +kernel
theorem dX7_pass_33 : decode cX7_pass 33 = .ok (.aload_n 0, 1) := by decide +kernel
theorem dX7_pass_34 : decode cX7_pass 34 = .ok (.getfield 29, 3) := by decide +kernel
theorem dX7_pass_37 : decode cX7_pass 37 = .ok (.getfield 58, 3) := by decide +kernel
theorem dX7_pass_40 : decode cX7_pass 40 = .ok (.iload_n 3, 1) := by decide +kernel
theorem dX7_pass_41 : decode cX7_pass 41 = .ok (.iaload, 1) := by decide +kernel
theorem dX7_pass_42 : decode cX7_pass 42 = .ok (.aload_n 0, 1) := by decide +kernel
theorem dX7_pass_43 : decode cX7_pass 43 = .ok (.getfield 29, 3) := by decide +kernel
theorem dX7_pass_46 : decode cX7_pass 46 = .ok (.getfield 61, 3) := by decide +kernel
theorem dX7_pass_49 : decode cX7_pass 49 = .ok (.iload_n 3, 1) := by decide +kernel
theorem dX7_pass_50 : decode cX7_pass 50 = .ok (.iaload, 1) := by decide +kernel
theorem dX7_pass_51 : decode cX7_pass 51 = .ok (.invokevirtual 64, 3) := by decide +kernel
theorem dX7_pass_54 : decode cX7_pass 54 = .ok (.iinc 3 1, 3) := by decide +kernel
theorem dX7_pass_57 : decode cX7_pass 57 = .ok (.goto (-43), 3) := by decide +kernel
theorem dX7_pass_60 : decode cX7_pass 60 = .ok (.aload_n 0, 1) := by decide +kernel
theorem dX7_pass_61 : decode cX7_pass 61 = .ok (.invokevirtual 68, 3) := by decide +kernel
theorem dX7_pass_64 : decode cX7_pass 64 = .ok (.aload_n 0, 1) := by decide +kernel
theorem dX7_pass_65 : decode cX7_pass 65 = .ok (.dup, 1) := by decide +kernel
theorem dX7_pass_66 : decode cX7_pass 66 = .ok (.getfield 39, 3) := by decide +kernel
theorem dX7_pass_69 : decode cX7_pass 69 = .ok (.iconst 1, 1) := by decide +kernel
theorem dX7_pass_70 : decode cX7_pass 70 = .ok (.iadd, 1) := by decide +kernel
theorem dX7_pass_71 : decode cX7_pass 71 = .ok (.putfield 39, 3) := by decide +kernel
theorem dX7_pass_74 : decode cX7_pass 74 = .ok (.iinc 2 1, 3) := by decide +kernel
theorem dX7_pass_77 : decode cX7_pass 77 = .ok (.goto (-75), 3) := by decide +kernel
theorem dX7_pass_80 : decode cX7_pass 80 = .ok (.return_, 1) := by decide +kernel
theorem dX7_dropJob_0 : decode cX7_dropJob 0 = .ok (.aload_n 0, 1) := by decide +kernel
theorem dX7_dropJob_1 : decode cX7_dropJob 1 = .ok (.getfield 21, 3) := by decide +kernel
theorem dX7_dropJob_4 : decode cX7_dropJob 4 = .ok (.iload_n 1, 1) := by decide +kernel
theorem dX7_dropJob_5 : decode cX7_dropJob 5 = .ok (.invokevirtual 71, 3) := by decide +kernel
theorem dX7_dropJob_8 : decode cX7_dropJob 8 = .ok (.iload_n 1, 1) := by decide +kernel
theorem dX7_dropJob_9 : decode cX7_dropJob 9 = .ok (.ifCond .ne 11, 3) := by decide +kernel
theorem dX7_dropJob_12 : decode cX7_dropJob 12 = .ok (.aload_n 0, 1) := by decide +kernel
theorem dX7_dropJob_13 : decode cX7_dropJob 13 = .ok (.getfield 12, 3) := by decide +kernel
theorem dX7_dropJob_16 : decode cX7_dropJob 16 = .ok (.iconst (-1), 1) := by decide +kernel
theorem dX7_dropJob_17 : decode cX7_dropJob 17 = .ok (.invokevirtual 75, 3) := by decide +kernel
theorem dX7_dropJob_20 : decode cX7_dropJob 20 = .ok (.return_, 1) := by decide +kernel
theorem dX7_follow_0 : decode cX7_follow 0 = .ok (.iload_n 1, 1) := by decide +kernel
theorem dX7_follow_1 : decode cX7_follow 1 = .ok (.invokestatic 78, 3) := by decide +kernel
theorem dX7_follow_4 : decode cX7_follow 4 = .ok (.ifCond .eq 12, 3) := by decide +kernel
theorem dX7_follow_7 : decode cX7_follow 7 = .ok (.aload_n 0, 1) := by decide +kernel
theorem dX7_follow_8 : decode cX7_follow 8 = .ok (.iload_n 1, 1) := by decide +kernel
theorem dX7_follow_9 : decode cX7_follow 9 = .ok (.iload_n 2, 1) := by decide +kernel
theorem dX7_follow_10 : decode cX7_follow 10 = .ok (.invokevirtual 82, 3) := by decide +kernel
theorem dX7_follow_13 : decode cX7_follow 13 = .ok (.goto 79, 3) := by decide +kernel
theorem dX7_follow_16 : decode cX7_follow 16 = .ok (.iload_n 1, 1) := by decide +kernel
theorem dX7_follow_17 : decode cX7_follow 17 = .ok (.bipush 6, 2) := by decide +kernel
theorem dX7_follow_19 : decode cX7_follow 19 = .ok (.if_icmp .ne 15, 3) := by decide +kernel
theorem dX7_follow_22 : decode cX7_follow 22 = .ok (.aload_n 0, 1) := by decide +kernel
theorem dX7_follow_23 : decode cX7_follow 23 = .ok (.aload_n 0, 1) := by decide +kernel
theorem dX7_follow_24 : decode cX7_follow 24 = .ok (.invokevirtual 85, 3) := by decide +kernel
theorem dX7_follow_27 : decode cX7_follow 27 = .ok (.ineg, 1) := by decide +kernel
theorem dX7_follow_28 : decode cX7_follow 28 = .ok (.invokevirtual 89, 3) := by decide +kernel
theorem dX7_follow_31 : decode cX7_follow 31 = .ok (.goto 61, 3) := by decide +kernel
theorem dX7_follow_34 : decode cX7_follow 34 = .ok (.iload_n 1, 1) := by decide +kernel
theorem dX7_follow_35 : decode cX7_follow 35 = .ok (.sipush 149, 3) := by decide +kernel
theorem dX7_follow_38 : decode cX7_follow 38 = .ok (.if_icmp .ne 16, 3) := by decide +kernel
theorem dX7_follow_41 : decode cX7_follow 41 = .ok (.aload_n 0, 1) := by decide +kernel
theorem dX7_follow_42 : decode cX7_follow 42 = .ok (.iconst 1, 1) := by decide +kernel
theorem dX7_follow_43 : decode cX7_follow 43 = .ok (.aload_n 0, 1) := by decide +kernel
theorem dX7_follow_44 : decode cX7_follow 44 = .ok (.invokevirtual 85, 3) := by decide +kernel
theorem dX7_follow_47 : decode cX7_follow 47 = .ok (.isub, 1) := by decide +kernel
theorem dX7_follow_48 : decode cX7_follow 48 = .ok (.invokevirtual 89, 3) := by decide +kernel
theorem dX7_follow_51 : decode cX7_follow 51 = .ok (.goto 41, 3) := by decide +kernel
theorem dX7_follow_54 : decode cX7_follow 54 = .ok (.iload_n 1, 1) := by decide +kernel
theorem dX7_follow_55 : decode cX7_follow 55 = .ok (.invokestatic 92, 3) := by decide +kernel
theorem dX7_follow_58 : decode cX7_follow 58 = .ok (.ifCond .eq 24, 3) := by decide +kernel
theorem dX7_follow_61 : decode cX7_follow 61 = .ok (.aload_n 0, 1) := by decide +kernel
theorem dX7_follow_62 : decode cX7_follow 62 = .ok (.invokevirtual 85, 3) := by decide +kernel
theorem dX7_follow_65 : decode cX7_follow 65 = .ok (.istore_n 3, 1) := by decide +kernel
theorem dX7_follow_66 : decode cX7_follow 66 = .ok (.aload_n 0, 1) := by decide +kernel
theorem dX7_follow_67 : decode cX7_follow 67 = .ok (.iload_n 1, 1) := by decide +kernel
theorem dX7_follow_68 : decode cX7_follow 68 = .ok (.aload_n 0, 1) := by decide +kernel
theorem dX7_follow_69 : decode cX7_follow 69 = .ok (.invokevirtual 85, 3) := by decide +kernel
theorem dX7_follow_72 : decode cX7_follow 72 = .ok (.iload_n 3, 1) := by decide +kernel
theorem dX7_follow_73 : decode cX7_follow 73 = .ok (.invokestatic 95, 3) := by decide +kernel
theorem dX7_follow_76 : decode cX7_follow 76 = .ok (.invokevirtual 89, 3) := by decide +kernel
theorem dX7_follow_79 : decode cX7_follow 79 = .ok (.goto 13, 3) := by decide +kernel
theorem dX7_follow_82 : decode cX7_follow 82 = .ok (.aload_n 0, 1) := by decide +kernel
theorem dX7_follow_83 : decode cX7_follow 83 = .ok (.aload_n 0, 1) := by decide +kernel
theorem dX7_follow_84 : decode cX7_follow 84 = .ok (.iload_n 1, 1) := by decide +kernel
theorem dX7_follow_85 : decode cX7_follow 85 = .ok (.iload_n 2, 1) := by decide +kernel
theorem dX7_follow_86 : decode cX7_follow 86 = .ok (.invokevirtual 99, 3) := by decide +kernel
theorem dX7_follow_89 : decode cX7_follow 89 = .ok (.invokevirtual 89, 3) := by decide +kernel
theorem dX7_follow_92 : decode cX7_follow 92 = .ok (.return_, 1) := by decide +kernel
theorem dX7_push_0 : decode cX7_push 0 = .ok (.aload_n 0, 1) := by decide +kernel
theorem dX7_push_1 : decode cX7_push 1 = .ok (.getfield 50, 3) := by decide +kernel
theorem dX7_push_4 : decode cX7_push 4 = .ok (.sipush 400, 3) := by decide +kernel
theorem dX7_push_7 : decode cX7_push 7 = .ok (.if_icmp .ge 23, 3) := by decide +kernel
theorem dX7_push_10 : decode cX7_push 10 = .ok (.aload_n 0, 1) := by decide +kernel
theorem dX7_push_11 : decode cX7_push 11 = .ok (.getfield 25, 3) := by decide +kernel
theorem dX7_push_14 : decode cX7_push 14 = .ok (.aload_n 0, 1) := by decide +kernel
theorem dX7_push_15 : decode cX7_push 15 = .ok (.getfield 50, 3) := by decide +kernel
theorem dX7_push_18 : decode cX7_push 18 = .ok (.iload_n 1, 1) := by decide +kernel
theorem dX7_push_19 : decode cX7_push 19 = .ok (.iastore, 1) := by decide +kernel
theorem dX7_push_20 : decode cX7_push 20 = .ok (.aload_n 0, 1) := by decide +kernel
theorem dX7_push_21 : decode cX7_push 21 = .ok (.dup, 1) := by decide +kernel
theorem dX7_push_22 : decode cX7_push 22 = .ok (.getfield 50, 3) := by decide +kernel
theorem dX7_push_25 : decode cX7_push 25 = .ok (.iconst 1, 1) := by decide +kernel
theorem dX7_push_26 : decode cX7_push 26 = .ok (.iadd, 1) := by decide +kernel
theorem dX7_push_27 : decode cX7_push 27 = .ok (.putfield 50, 3) := by decide +kernel
theorem dX7_push_30 : decode cX7_push 30 = .ok (.return_, 1) := by decide +kernel
theorem dX7_pop_0 : decode cX7_pop 0 = .ok (.aload_n 0, 1) := by decide +kernel
theorem dX7_pop_1 : decode cX7_pop 1 = .ok (.getfield 50, 3) := by decide +kernel
theorem dX7_pop_4 : decode cX7_pop 4 = .ok (.ifCond .gt 5, 3) := by decide +kernel
theorem dX7_pop_7 : decode cX7_pop 7 = .ok (.iconst 0, 1) := by decide +kernel
theorem dX7_pop_8 : decode cX7_pop 8 = .ok (.ireturn, 1) := by decide +kernel
theorem dX7_pop_9 : decode cX7_pop 9 = .ok (.aload_n 0, 1) := by decide +kernel
theorem dX7_pop_10 : decode cX7_pop 10 = .ok (.dup, 1) := by decide +kernel
theorem dX7_pop_11 : decode cX7_pop 11 = .ok (.getfield 50, 3) := by decide +kernel
theorem dX7_pop_14 : decode cX7_pop 14 = .ok (.iconst 1, 1) := by decide +kernel
theorem dX7_pop_15 : decode cX7_pop 15 = .ok (.isub, 1) := by decide +kernel
theorem dX7_pop_16 : decode cX7_pop 16 = .ok (.putfield 50, 3) := by decide +kernel
theorem dX7_pop_19 : decode cX7_pop 19 = .ok (.aload_n 0, 1) := by decide +kernel
theorem dX7_pop_20 : decode cX7_pop 20 = .ok (.getfield 25, 3) := by decide +kernel
theorem dX7_pop_23 : decode cX7_pop 23 = .ok (.aload_n 0, 1) := by decide +kernel
theorem dX7_pop_24 : decode cX7_pop 24 = .ok (.getfield 50, 3) := by decide +kernel
theorem dX7_pop_27 : decode cX7_pop 27 = .ok (.iaload, 1) := by decide +kernel
theorem dX7_pop_28 : decode cX7_pop 28 = .ok (.ireturn, 1) := by decide +kernel
theorem dX7_carryOut_0 : decode cX7_carryOut 0 = .ok (.aload_n 0, 1) := by decide +kernel
theorem dX7_carryOut_1 : decode cX7_carryOut 1 = .ok (.invokevirtual 85, 3) := by decide +kernel
theorem dX7_carryOut_4 : decode cX7_carryOut 4 = .ok (.ifCond .eq 7, 3) := by decide +kernel
theorem dX7_carryOut_7 : decode cX7_carryOut 7 = .ok (.iconst 1, 1) := by decide +kernel
theorem dX7_carryOut_8 : decode cX7_carryOut 8 = .ok (.goto 4, 3) := by decide +kernel
theorem dX7_carryOut_11 : decode cX7_carryOut 11 = .ok (.iconst 0, 1) := by decide +kernel
theorem dX7_carryOut_12 : decode cX7_carryOut 12 = .ok (.istore_n 3, 1) := by decide +kernel
theorem dX7_carryOut_13 : decode cX7_carryOut 13 = .ok (.iload_n 1, 1) := by decide +kernel
theorem dX7_carryOut_14 : decode cX7_carryOut 14 = .ok (.invokestatic 103, 3) := by decide +kernel
theorem dX7_carryOut_17 : decode cX7_carryOut 17 = .ok (.ifCond .eq 10, 3) := by decide +kernel
theorem dX7_carryOut_20 : decode cX7_carryOut 20 = .ok (.aload_n 0, 1) := by decide +kernel
theorem dX7_carryOut_21 : decode cX7_carryOut 21 = .ok (.invokevirtual 85, 3) := by decide +kernel
theorem dX7_carryOut_24 : decode cX7_carryOut 24 = .ok (.goto 4, 3) := by decide +kernel
theorem dX7_carryOut_27 : decode cX7_carryOut 27 = .ok (.iconst 0, 1) := by decide +kernel
theorem dX7_carryOut_28 : decode cX7_carryOut 28 = .ok (.istore 4, 2) := by decide +kernel
theorem dX7_carryOut_30 : decode cX7_carryOut 30 = .ok (.iload_n 3, 1) := by decide +kernel
theorem dX7_carryOut_31 : decode cX7_carryOut 31 = .ok (.ifCond .ne 4, 3) := by decide +kernel
theorem dX7_carryOut_34 : decode cX7_carryOut 34 = .ok (.return_, 1) := by decide +kernel
theorem dX7_carryOut_35 : decode cX7_carryOut 35 = .ok (.iload_n 1, 1) := by decide +kernel
theorem dX7_carryOut_36 : decode cX7_carryOut 36 = .ok (.tableswitch 86 133 137 #[36, 86, 49, 62, 74], 36) := by decide +kernel
theorem dX7_carryOut_72 : decode cX7_carryOut 72 = .ok (.aload_n 0, 1) := by decide +kernel
theorem dX7_carryOut_73 : decode cX7_carryOut 73 = .ok (.getfield 12, 3) := by decide +kernel
theorem dX7_carryOut_76 : decode cX7_carryOut 76 = .ok (.iload_n 2, 1) := by decide +kernel
theorem dX7_carryOut_77 : decode cX7_carryOut 77 = .ok (.iload 4, 2) := by decide +kernel
theorem dX7_carryOut_79 : decode cX7_carryOut 79 = .ok (.invokevirtual 106, 3) := by decide +kernel
theorem dX7_carryOut_82 : decode cX7_carryOut 82 = .ok (.goto 49, 3) := by decide +kernel
theorem dX7_carryOut_85 : decode cX7_carryOut 85 = .ok (.aload_n 0, 1) := by decide +kernel
theorem dX7_carryOut_86 : decode cX7_carryOut 86 = .ok (.getfield 12, 3) := by decide +kernel
theorem dX7_carryOut_89 : decode cX7_carryOut 89 = .ok (.iload_n 2, 1) := by decide +kernel
theorem dX7_carryOut_90 : decode cX7_carryOut 90 = .ok (.iload 4, 2) := by decide +kernel
theorem dX7_carryOut_92 : decode cX7_carryOut 92 = .ok (.invokevirtual 109, 3) := by decide +kernel
theorem dX7_carryOut_95 : decode cX7_carryOut 95 = .ok (.goto 36, 3) := by decide +kernel
theorem dX7_carryOut_98 : decode cX7_carryOut 98 = .ok (.aload_n 0, 1) := by decide +kernel
theorem dX7_carryOut_99 : decode cX7_carryOut 99 = .ok (.getfield 21, 3) := by decide +kernel
theorem dX7_carryOut_102 : decode cX7_carryOut 102 = .ok (.iconst 0, 1) := by decide +kernel
theorem dX7_carryOut_103 : decode cX7_carryOut 103 = .ok (.iload_n 2, 1) := by decide +kernel
theorem dX7_carryOut_104 : decode cX7_carryOut 104 = .ok (.invokevirtual 112, 3) := by decide +kernel
theorem dX7_carryOut_107 : decode cX7_carryOut 107 = .ok (.goto 24, 3) := by decide +kernel
theorem dX7_carryOut_110 : decode cX7_carryOut 110 = .ok (.aload_n 0, 1) := by decide +kernel
theorem dX7_carryOut_111 : decode cX7_carryOut 111 = .ok (.getfield 21, 3) := by decide +kernel
theorem dX7_carryOut_114 : decode cX7_carryOut 114 = .ok (.iconst 1, 1) := by decide +kernel
theorem dX7_carryOut_115 : decode cX7_carryOut 115 = .ok (.iload_n 2, 1) := by decide +kernel
theorem dX7_carryOut_116 : decode cX7_carryOut 116 = .ok (.invokevirtual 112, 3) := by decide +kernel
theorem dX7_carryOut_119 : decode cX7_carryOut 119 = .ok (.goto 12, 3) := by decide +kernel
theorem dX7_carryOut_122 : decode cX7_carryOut 122 = .ok (.aload_n 0, 1) := by decide +kernel
theorem dX7_carryOut_123 : decode cX7_carryOut 123 = .ok (.getfield 21, 3) := by decide +kernel
theorem dX7_carryOut_126 : decode cX7_carryOut 126 = .ok (.iconst 2, 1) := by decide +kernel
theorem dX7_carryOut_127 : decode cX7_carryOut 127 = .ok (.iload_n 2, 1) := by decide +kernel
theorem dX7_carryOut_128 : decode cX7_carryOut 128 = .ok (.invokevirtual 112, 3) := by decide +kernel
theorem dX7_carryOut_131 : decode cX7_carryOut 131 = .ok (.return_, 1) := by decide +kernel
theorem dX7_valueOf_0 : decode cX7_valueOf 0 = .ok (.iload_n 1, 1) := by decide +kernel
theorem dX7_valueOf_1 : decode cX7_valueOf 1 = .ok (.lookupswitch 125 #[(3, 67), (7, 69), (140, 71), (141, 76), (142, 84), (147, 92), (148, 108)], 67) := by decide +kernel
theorem dX7_valueOf_68 : decode cX7_valueOf 68 = .ok (.iload_n 2, 1) := by decide +kernel
theorem dX7_valueOf_69 : decode cX7_valueOf 69 = .ok (.ireturn, 1) := by decide +kernel
theorem dX7_valueOf_70 : decode cX7_valueOf 70 = .ok (.iconst 1, 1) := by decide +kernel
theorem dX7_valueOf_71 : decode cX7_valueOf 71 = .ok (.ireturn, 1) := by decide +kernel
theorem dX7_valueOf_72 : decode cX7_valueOf 72 = .ok (.aload_n 0, 1) := by decide +kernel
theorem dX7_valueOf_73 : decode cX7_valueOf 73 = .ok (.getfield 39, 3) := by decide +kernel
theorem dX7_valueOf_76 : decode cX7_valueOf 76 = .ok (.ireturn, 1) := by decide +kernel
theorem dX7_valueOf_77 : decode cX7_valueOf 77 = .ok (.aload_n 0, 1) := by decide +kernel
theorem dX7_valueOf_78 : decode cX7_valueOf 78 = .ok (.getfield 12, 3) := by decide +kernel
theorem dX7_valueOf_81 : decode cX7_valueOf 81 = .ok (.invokevirtual 115, 3) := by decide +kernel
theorem dX7_valueOf_84 : decode cX7_valueOf 84 = .ok (.ireturn, 1) := by decide +kernel
theorem dX7_valueOf_85 : decode cX7_valueOf 85 = .ok (.aload_n 0, 1) := by decide +kernel
theorem dX7_valueOf_86 : decode cX7_valueOf 86 = .ok (.getfield 21, 3) := by decide +kernel
theorem dX7_valueOf_89 : decode cX7_valueOf 89 = .ok (.getfield 118, 3) := by decide +kernel
theorem dX7_valueOf_92 : decode cX7_valueOf 92 = .ok (.ireturn, 1) := by decide +kernel
theorem dX7_valueOf_93 : decode cX7_valueOf 93 = .ok (.aload_n 0, 1) := by decide +kernel
theorem dX7_valueOf_94 : decode cX7_valueOf 94 = .ok (.getfield 12, 3) := by decide +kernel
theorem dX7_valueOf_97 : decode cX7_valueOf 97 = .ok (.invokevirtual 121, 3) := by decide +kernel
theorem dX7_valueOf_100 : decode cX7_valueOf 100 = .ok (.ifCond .eq 7, 3) := by decide +kernel
theorem dX7_valueOf_103 : decode cX7_valueOf 103 = .ok (.iconst 1, 1) := by decide +kernel
theorem dX7_valueOf_104 : decode cX7_valueOf 104 = .ok (.goto 4, 3) := by decide +kernel
theorem dX7_valueOf_107 : decode cX7_valueOf 107 = .ok (.iconst 0, 1) := by decide +kernel
theorem dX7_valueOf_108 : decode cX7_valueOf 108 = .ok (.ireturn, 1) := by decide +kernel
theorem dX7_valueOf_109 : decode cX7_valueOf 109 = .ok (.aload_n 0, 1) := by decide +kernel
theorem dX7_valueOf_110 : decode cX7_valueOf 110 = .ok (.getfield 21, 3) := by decide +kernel
theorem dX7_valueOf_113 : decode cX7_valueOf 113 = .ok (.iload_n 2, 1) := by decide +kernel
theorem dX7_valueOf_114 : decode cX7_valueOf 114 = .ok (.invokevirtual 125, 3) := by decide +kernel
theorem dX7_valueOf_117 : decode cX7_valueOf 117 = .ok (.ifCond .eq 7, 3) := by decide +kernel
theorem dX7_valueOf_120 : decode cX7_valueOf 120 = .ok (.iconst 1, 1) := by decide +kernel
theorem dX7_valueOf_121 : decode cX7_valueOf 121 = .ok (.goto 4, 3) := by decide +kernel
theorem dX7_valueOf_124 : decode cX7_valueOf 124 = .ok (.iconst 0, 1) := by decide +kernel
theorem dX7_valueOf_125 : decode cX7_valueOf 125 = .ok (.ireturn, 1) := by decide +kernel
theorem dX7_valueOf_126 : decode cX7_valueOf 126 = .ok (.aload_n 0, 1) := by decide +kernel
theorem dX7_valueOf_127 : decode cX7_valueOf 127 = .ok (.getfield 12, 3) := by decide +kernel
theorem dX7_valueOf_130 : decode cX7_valueOf 130 = .ok (.iload_n 1, 1) := by decide +kernel
theorem dX7_valueOf_131 : decode cX7_valueOf 131 = .ok (.iload_n 2, 1) := by decide +kernel
theorem dX7_valueOf_132 : decode cX7_valueOf 132 = .ok (.invokevirtual 128, 3) := by decide +kernel
theorem dX7_valueOf_135 : decode cX7_valueOf 135 = .ok (.ireturn, 1) := by decide +kernel
theorem dX7_joinsTwo_0 : decode cX7_joinsTwo 0 = .ok (.iload_n 0, 1) := by decide +kernel
theorem dX7_joinsTwo_1 : decode cX7_joinsTwo 1 = .ok (.lookupswitch 117 #[(4, 115), (5, 115), (42, 115), (43, 115), (45, 115), (47, 115), (60, 115), (61, 115), (62, 115), (150, 115), (151, 115), (152, 115), (153, 115)], 115) := by decide +kernel
theorem dX7_joinsTwo_116 : decode cX7_joinsTwo 116 = .ok (.iconst 1, 1) := by decide +kernel
theorem dX7_joinsTwo_117 : decode cX7_joinsTwo 117 = .ok (.ireturn, 1) := by decide +kernel
theorem dX7_joinsTwo_118 : decode cX7_joinsTwo 118 = .ok (.iconst 0, 1) := by decide +kernel
theorem dX7_joinsTwo_119 : decode cX7_joinsTwo 119 = .ok (.ireturn, 1) := by decide +kernel
theorem dX7_join_0 : decode cX7_join 0 = .ok (.iload_n 0, 1) := by decide +kernel
theorem dX7_join_1 : decode cX7_join 1 = .ok (.lookupswitch 200 #[(4, 164), (5, 175), (42, 115), (43, 107), (45, 111), (47, 119), (60, 131), (61, 153), (62, 142), (150, 186), (151, 190), (152, 194)], 107) := by decide +kernel
theorem dX7_join_108 : decode cX7_join 108 = .ok (.iload_n 1, 1) := by decide +kernel
theorem dX7_join_109 : decode cX7_join 109 = .ok (.iload_n 2, 1) := by decide +kernel
theorem dX7_join_110 : decode cX7_join 110 = .ok (.iadd, 1) := by decide +kernel
theorem dX7_join_111 : decode cX7_join 111 = .ok (.ireturn, 1) := by decide +kernel
theorem dX7_join_112 : decode cX7_join 112 = .ok (.iload_n 1, 1) := by decide +kernel
theorem dX7_join_113 : decode cX7_join 113 = .ok (.iload_n 2, 1) := by decide +kernel
theorem dX7_join_114 : decode cX7_join 114 = .ok (.isub, 1) := by decide +kernel
theorem dX7_join_115 : decode cX7_join 115 = .ok (.ireturn, 1) := by decide +kernel
theorem dX7_join_116 : decode cX7_join 116 = .ok (.iload_n 1, 1) := by decide +kernel
theorem dX7_join_117 : decode cX7_join 117 = .ok (.iload_n 2, 1) := by decide +kernel
theorem dX7_join_118 : decode cX7_join 118 = .ok (.imul, 1) := by decide +kernel
theorem dX7_join_119 : decode cX7_join 119 = .ok (.ireturn, 1) := by decide +kernel
theorem dX7_join_120 : decode cX7_join 120 = .ok (.iload_n 2, 1) := by decide +kernel
theorem dX7_join_121 : decode cX7_join 121 = .ok (.ifCond .ne 7, 3) := by decide +kernel
theorem dX7_join_124 : decode cX7_join 124 = .ok (.iconst 0, 1) := by decide +kernel
theorem dX7_join_125 : decode cX7_join 125 = .ok (.goto 6, 3) := by decide +kernel
theorem dX7_join_128 : decode cX7_join 128 = .ok (.iload_n 1, 1) := by decide +kernel
theorem dX7_join_129 : decode cX7_join 129 = .ok (.iload_n 2, 1) := by decide +kernel
theorem dX7_join_130 : decode cX7_join 130 = .ok (.idiv, 1) := by decide +kernel
theorem dX7_join_131 : decode cX7_join 131 = .ok (.ireturn, 1) := by decide +kernel
theorem dX7_join_132 : decode cX7_join 132 = .ok (.iload_n 1, 1) := by decide +kernel
theorem dX7_join_133 : decode cX7_join 133 = .ok (.iload_n 2, 1) := by decide +kernel
theorem dX7_join_134 : decode cX7_join 134 = .ok (.if_icmp .ge 7, 3) := by decide +kernel
theorem dX7_join_137 : decode cX7_join 137 = .ok (.iconst 1, 1) := by decide +kernel
theorem dX7_join_138 : decode cX7_join 138 = .ok (.goto 4, 3) := by decide +kernel
theorem dX7_join_141 : decode cX7_join 141 = .ok (.iconst 0, 1) := by decide +kernel
theorem dX7_join_142 : decode cX7_join 142 = .ok (.ireturn, 1) := by decide +kernel
theorem dX7_join_143 : decode cX7_join 143 = .ok (.iload_n 1, 1) := by decide +kernel
theorem dX7_join_144 : decode cX7_join 144 = .ok (.iload_n 2, 1) := by decide +kernel
theorem dX7_join_145 : decode cX7_join 145 = .ok (.if_icmp .le 7, 3) := by decide +kernel
theorem dX7_join_148 : decode cX7_join 148 = .ok (.iconst 1, 1) := by decide +kernel
theorem dX7_join_149 : decode cX7_join 149 = .ok (.goto 4, 3) := by decide +kernel
theorem dX7_join_152 : decode cX7_join 152 = .ok (.iconst 0, 1) := by decide +kernel
theorem dX7_join_153 : decode cX7_join 153 = .ok (.ireturn, 1) := by decide +kernel
theorem dX7_join_154 : decode cX7_join 154 = .ok (.iload_n 1, 1) := by decide +kernel
theorem dX7_join_155 : decode cX7_join 155 = .ok (.iload_n 2, 1) := by decide +kernel
theorem dX7_join_156 : decode cX7_join 156 = .ok (.if_icmp .ne 7, 3) := by decide +kernel
theorem dX7_join_159 : decode cX7_join 159 = .ok (.iconst 1, 1) := by decide +kernel
theorem dX7_join_160 : decode cX7_join 160 = .ok (.goto 4, 3) := by decide +kernel
theorem dX7_join_163 : decode cX7_join 163 = .ok (.iconst 0, 1) := by decide +kernel
theorem dX7_join_164 : decode cX7_join 164 = .ok (.ireturn, 1) := by decide +kernel
theorem dX7_join_165 : decode cX7_join 165 = .ok (.iload_n 1, 1) := by decide +kernel
theorem dX7_join_166 : decode cX7_join 166 = .ok (.iload_n 2, 1) := by decide +kernel
theorem dX7_join_167 : decode cX7_join 167 = .ok (.if_icmp .gt 7, 3) := by decide +kernel
theorem dX7_join_170 : decode cX7_join 170 = .ok (.iconst 1, 1) := by decide +kernel
theorem dX7_join_171 : decode cX7_join 171 = .ok (.goto 4, 3) := by decide +kernel
theorem dX7_join_174 : decode cX7_join 174 = .ok (.iconst 0, 1) := by decide +kernel
theorem dX7_join_175 : decode cX7_join 175 = .ok (.ireturn, 1) := by decide +kernel
theorem dX7_join_176 : decode cX7_join 176 = .ok (.iload_n 1, 1) := by decide +kernel
theorem dX7_join_177 : decode cX7_join 177 = .ok (.iload_n 2, 1) := by decide +kernel
theorem dX7_join_178 : decode cX7_join 178 = .ok (.if_icmp .lt 7, 3) := by decide +kernel
theorem dX7_join_181 : decode cX7_join 181 = .ok (.iconst 1, 1) := by decide +kernel
theorem dX7_join_182 : decode cX7_join 182 = .ok (.goto 4, 3) := by decide +kernel
theorem dX7_join_185 : decode cX7_join 185 = .ok (.iconst 0, 1) := by decide +kernel
theorem dX7_join_186 : decode cX7_join 186 = .ok (.ireturn, 1) := by decide +kernel
theorem dX7_join_187 : decode cX7_join 187 = .ok (.iload_n 1, 1) := by decide +kernel
theorem dX7_join_188 : decode cX7_join 188 = .ok (.iload_n 2, 1) := by decide +kernel
theorem dX7_join_189 : decode cX7_join 189 = .ok (.iand, 1) := by decide +kernel
theorem dX7_join_190 : decode cX7_join 190 = .ok (.ireturn, 1) := by decide +kernel
theorem dX7_join_191 : decode cX7_join 191 = .ok (.iload_n 1, 1) := by decide +kernel
theorem dX7_join_192 : decode cX7_join 192 = .ok (.iload_n 2, 1) := by decide +kernel
theorem dX7_join_193 : decode cX7_join 193 = .ok (.ior, 1) := by decide +kernel
theorem dX7_join_194 : decode cX7_join 194 = .ok (.ireturn, 1) := by decide +kernel
theorem dX7_join_195 : decode cX7_join 195 = .ok (.iload_n 1, 1) := by decide +kernel
theorem dX7_join_196 : decode cX7_join 196 = .ok (.iload_n 2, 1) := by decide +kernel
theorem dX7_join_197 : decode cX7_join 197 = .ok (.invokestatic 129, 3) := by decide +kernel
theorem dX7_join_200 : decode cX7_join 200 = .ok (.ireturn, 1) := by decide +kernel
theorem dX7_join_201 : decode cX7_join 201 = .ok (.iload_n 1, 1) := by decide +kernel
theorem dX7_join_202 : decode cX7_join 202 = .ok (.iload_n 2, 1) := by decide +kernel
theorem dX7_join_203 : decode cX7_join 203 = .ok (.invokestatic 134, 3) := by decide +kernel
theorem dX7_join_206 : decode cX7_join 206 = .ok (.ireturn, 1) := by decide +kernel
theorem dX7_work_0 : decode cX7_work 0 = .ok (.aload_n 0, 1) := by decide +kernel
theorem dX7_work_1 : decode cX7_work 1 = .ok (.getfield 21, 3) := by decide +kernel
theorem dX7_work_4 : decode cX7_work 4 = .ok (.getfield 118, 3) := by decide +kernel
theorem dX7_work_7 : decode cX7_work 7 = .ok (.ifCond .ne 4, 3) := by decide +kernel
theorem dX7_work_10 : decode cX7_work 10 = .ok (.return_, 1) := by decide +kernel
theorem dX7_work_11 : decode cX7_work 11 = .ok (.aload_n 0, 1) := by decide +kernel
theorem dX7_work_12 : decode cX7_work 12 = .ok (.getfield 21, 3) := by decide +kernel
theorem dX7_work_15 : decode cX7_work 15 = .ok (.iconst 0, 1) := by decide +kernel
theorem dX7_work_16 : decode cX7_work 16 = .ok (.invokevirtual 137, 3) := by decide +kernel
theorem dX7_work_19 : decode cX7_work 19 = .ok (.istore_n 1, 1) := by decide +kernel
theorem dX7_work_20 : decode cX7_work 20 = .ok (.aload_n 0, 1) := by decide +kernel
theorem dX7_work_21 : decode cX7_work 21 = .ok (.getfield 21, 3) := by decide +kernel
theorem dX7_work_24 : decode cX7_work 24 = .ok (.iconst 0, 1) := by decide +kernel
theorem dX7_work_25 : decode cX7_work 25 = .ok (.invokevirtual 141, 3) := by decide +kernel
theorem dX7_work_28 : decode cX7_work 28 = .ok (.istore_n 2, 1) := by decide +kernel
theorem dX7_work_29 : decode cX7_work 29 = .ok (.aload_n 0, 1) := by decide +kernel
theorem dX7_work_30 : decode cX7_work 30 = .ok (.getfield 21, 3) := by decide +kernel
theorem dX7_work_33 : decode cX7_work 33 = .ok (.getfield 144, 3) := by decide +kernel
theorem dX7_work_36 : decode cX7_work 36 = .ok (.ifCond .ne 24, 3) := by decide +kernel
theorem dX7_work_39 : decode cX7_work 39 = .ok (.aload_n 0, 1) := by decide +kernel
theorem dX7_work_40 : decode cX7_work 40 = .ok (.getfield 21, 3) := by decide +kernel
theorem dX7_work_43 : decode cX7_work 43 = .ok (.aload_n 0, 1) := by decide +kernel
theorem dX7_work_44 : decode cX7_work 44 = .ok (.iload_n 1, 1) := by decide +kernel
theorem dX7_work_45 : decode cX7_work 45 = .ok (.iload_n 2, 1) := by decide +kernel
theorem dX7_work_46 : decode cX7_work 46 = .ok (.invokevirtual 147, 3) := by decide +kernel
theorem dX7_work_49 : decode cX7_work 49 = .ok (.putfield 144, 3) := by decide +kernel
theorem dX7_work_52 : decode cX7_work 52 = .ok (.aload_n 0, 1) := by decide +kernel
theorem dX7_work_53 : decode cX7_work 53 = .ok (.getfield 12, 3) := by decide +kernel
theorem dX7_work_56 : decode cX7_work 56 = .ok (.iload_n 2, 1) := by decide +kernel
theorem dX7_work_57 : decode cX7_work 57 = .ok (.invokevirtual 75, 3) := by decide +kernel
theorem dX7_work_60 : decode cX7_work 60 = .ok (.aload_n 0, 1) := by decide +kernel
theorem dX7_work_61 : decode cX7_work 61 = .ok (.getfield 21, 3) := by decide +kernel
theorem dX7_work_64 : decode cX7_work 64 = .ok (.dup, 1) := by decide +kernel
theorem dX7_work_65 : decode cX7_work 65 = .ok (.getfield 144, 3) := by decide +kernel
theorem dX7_work_68 : decode cX7_work 68 = .ok (.iconst 1, 1) := by decide +kernel
theorem dX7_work_69 : decode cX7_work 69 = .ok (.isub, 1) := by decide +kernel
theorem dX7_work_70 : decode cX7_work 70 = .ok (.putfield 144, 3) := by decide +kernel
theorem dX7_work_73 : decode cX7_work 73 = .ok (.aload_n 0, 1) := by decide +kernel
theorem dX7_work_74 : decode cX7_work 74 = .ok (.getfield 21, 3) := by decide +kernel
theorem dX7_work_77 : decode cX7_work 77 = .ok (.getfield 144, 3) := by decide +kernel
theorem dX7_work_80 : decode cX7_work 80 = .ok (.ifCond .ne 27, 3) := by decide +kernel
theorem dX7_work_83 : decode cX7_work 83 = .ok (.aload_n 0, 1) := by decide +kernel
theorem dX7_work_84 : decode cX7_work 84 = .ok (.iconst 0, 1) := by decide +kernel
theorem dX7_work_85 : decode cX7_work 85 = .ok (.invokevirtual 150, 3) := by decide +kernel
theorem dX7_work_88 : decode cX7_work 88 = .ok (.aload_n 0, 1) := by decide +kernel
theorem dX7_work_89 : decode cX7_work 89 = .ok (.getfield 21, 3) := by decide +kernel
theorem dX7_work_92 : decode cX7_work 92 = .ok (.dup, 1) := by decide +kernel
theorem dX7_work_93 : decode cX7_work 93 = .ok (.getfield 153, 3) := by decide +kernel
theorem dX7_work_96 : decode cX7_work 96 = .ok (.iconst 1, 1) := by decide +kernel
theorem dX7_work_97 : decode cX7_work 97 = .ok (.iadd, 1) := by decide +kernel
theorem dX7_work_98 : decode cX7_work 98 = .ok (.putfield 153, 3) := by decide +kernel
theorem dX7_work_101 : decode cX7_work 101 = .ok (.aload_n 0, 1) := by decide +kernel
theorem dX7_work_102 : decode cX7_work 102 = .ok (.iload_n 1, 1) := by decide +kernel
theorem dX7_work_103 : decode cX7_work 103 = .ok (.iload_n 2, 1) := by decide +kernel
theorem dX7_work_104 : decode cX7_work 104 = .ok (.invokevirtual 156, 3) := by decide +kernel
theorem dX7_work_107 : decode cX7_work 107 = .ok (.return_, 1) := by decide +kernel
theorem dX7_minutesFor_0 : decode cX7_minutesFor 0 = .ok (.iload_n 1, 1) := by decide +kernel
theorem dX7_minutesFor_1 : decode cX7_minutesFor 1 = .ok (.lookupswitch 66 #[(0, 27), (1, 47)], 27) := by decide +kernel
theorem dX7_minutesFor_28 : decode cX7_minutesFor 28 = .ok (.bipush 100, 2) := by decide +kernel
theorem dX7_minutesFor_30 : decode cX7_minutesFor 30 = .ok (.aload_n 0, 1) := by decide +kernel
theorem dX7_minutesFor_31 : decode cX7_minutesFor 31 = .ok (.getfield 12, 3) := by decide +kernel
theorem dX7_minutesFor_34 : decode cX7_minutesFor 34 = .ok (.sipush 129, 3) := by decide +kernel
theorem dX7_minutesFor_37 : decode cX7_minutesFor 37 = .ok (.iload_n 2, 1) := by decide +kernel
theorem dX7_minutesFor_38 : decode cX7_minutesFor 38 = .ok (.invokevirtual 128, 3) := by decide +kernel
theorem dX7_minutesFor_41 : decode cX7_minutesFor 41 = .ok (.isub, 1) := by decide +kernel
theorem dX7_minutesFor_42 : decode cX7_minutesFor 42 = .ok (.bipush 10, 2) := by decide +kernel
theorem dX7_minutesFor_44 : decode cX7_minutesFor 44 = .ok (.idiv, 1) := by decide +kernel
theorem dX7_minutesFor_45 : decode cX7_minutesFor 45 = .ok (.iconst 1, 1) := by decide +kernel
theorem dX7_minutesFor_46 : decode cX7_minutesFor 46 = .ok (.iadd, 1) := by decide +kernel
theorem dX7_minutesFor_47 : decode cX7_minutesFor 47 = .ok (.ireturn, 1) := by decide +kernel
theorem dX7_minutesFor_48 : decode cX7_minutesFor 48 = .ok (.aload_n 0, 1) := by decide +kernel
theorem dX7_minutesFor_49 : decode cX7_minutesFor 49 = .ok (.getfield 12, 3) := by decide +kernel
theorem dX7_minutesFor_52 : decode cX7_minutesFor 52 = .ok (.sipush 130, 3) := by decide +kernel
theorem dX7_minutesFor_55 : decode cX7_minutesFor 55 = .ok (.iload_n 2, 1) := by decide +kernel
theorem dX7_minutesFor_56 : decode cX7_minutesFor 56 = .ok (.invokevirtual 128, 3) := by decide +kernel
theorem dX7_minutesFor_59 : decode cX7_minutesFor 59 = .ok (.invokestatic 159, 3) := by decide +kernel
theorem dX7_minutesFor_62 : decode cX7_minutesFor 62 = .ok (.iconst 5, 1) := by decide +kernel
theorem dX7_minutesFor_63 : decode cX7_minutesFor 63 = .ok (.idiv, 1) := by decide +kernel
theorem dX7_minutesFor_64 : decode cX7_minutesFor 64 = .ok (.iconst 1, 1) := by decide +kernel
theorem dX7_minutesFor_65 : decode cX7_minutesFor 65 = .ok (.iadd, 1) := by decide +kernel
theorem dX7_minutesFor_66 : decode cX7_minutesFor 66 = .ok (.ireturn, 1) := by decide +kernel
theorem dX7_minutesFor_67 : decode cX7_minutesFor 67 = .ok (.bipush 20, 2) := by decide +kernel
theorem dX7_minutesFor_69 : decode cX7_minutesFor 69 = .ok (.ireturn, 1) := by decide +kernel
theorem dX7_finish_0 : decode cX7_finish 0 = .ok (.iload_n 1, 1) := by decide +kernel
theorem dX7_finish_1 : decode cX7_finish 1 = .ok (.lookupswitch 50 #[(0, 27), (1, 38)], 27) := by decide +kernel
theorem dX7_finish_28 : decode cX7_finish 28 = .ok (.aload_n 0, 1) := by decide +kernel
theorem dX7_finish_29 : decode cX7_finish 29 = .ok (.getfield 12, 3) := by decide +kernel
theorem dX7_finish_32 : decode cX7_finish 32 = .ok (.iload_n 2, 1) := by decide +kernel
theorem dX7_finish_33 : decode cX7_finish 33 = .ok (.invokevirtual 162, 3) := by decide +kernel
theorem dX7_finish_36 : decode cX7_finish 36 = .ok (.goto 23, 3) := by decide +kernel
theorem dX7_finish_39 : decode cX7_finish 39 = .ok (.aload_n 0, 1) := by decide +kernel
theorem dX7_finish_40 : decode cX7_finish 40 = .ok (.getfield 12, 3) := by decide +kernel
theorem dX7_finish_43 : decode cX7_finish 43 = .ok (.iload_n 2, 1) := by decide +kernel
theorem dX7_finish_44 : decode cX7_finish 44 = .ok (.iconst 0, 1) := by decide +kernel
theorem dX7_finish_45 : decode cX7_finish 45 = .ok (.invokevirtual 165, 3) := by decide +kernel
theorem dX7_finish_48 : decode cX7_finish 48 = .ok (.goto 11, 3) := by decide +kernel
theorem dX7_finish_51 : decode cX7_finish 51 = .ok (.aload_n 0, 1) := by decide +kernel
theorem dX7_finish_52 : decode cX7_finish 52 = .ok (.getfield 12, 3) := by decide +kernel
theorem dX7_finish_55 : decode cX7_finish 55 = .ok (.iload_n 2, 1) := by decide +kernel
theorem dX7_finish_56 : decode cX7_finish 56 = .ok (.invokevirtual 168, 3) := by decide +kernel
theorem dX7_finish_59 : decode cX7_finish 59 = .ok (.return_, 1) := by decide +kernel
