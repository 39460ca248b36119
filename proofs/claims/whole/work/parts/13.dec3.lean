theorem dX9_init_0 : decode cX9_init 0 = .ok (.aload_n 0, 1) := by decide +kernel
theorem dX9_init_1 : decode cX9_init 1 = .ok (.invokespecial 3, 3) := by decide +kernel
theorem dX9_init_4 : decode cX9_init 4 = .ok (.aload_n 0, 1) := by decide +kernel
theorem dX9_init_5 : decode cX9_init 5 = .ok (.bipush 10, 2) := by decide +kernel
theorem dX9_init_7 : decode cX9_init 7 = .ok (.newarray .int, 2) := by decide +kernel
theorem dX9_init_9 : decode cX9_init 9 = .ok (.putfield 9, 3) := by decide +kernel
theorem dX9_init_12 : decode cX9_init 12 = .ok (.aload_n 0, 1) := by decide +kernel
theorem dX9_init_13 : decode cX9_init 13 = .ok (.bipush 10, 2) := by decide +kernel
theorem dX9_init_15 : decode cX9_init 15 = .ok (.newarray .int, 2) := by decide +kernel
theorem dX9_init_17 : decode cX9_init 17 = .ok (.putfield 15, 3) := by decide +kernel
theorem dX9_init_20 : decode cX9_init 20 = .ok (.aload_n 0, 1) := by decide +kernel
theorem dX9_init_21 : decode cX9_init 21 = .ok (.bipush 10, 2) := by decide +kernel
theorem dX9_init_23 : decode cX9_init 23 = .ok (.newarray .int, 2) := by decide +kernel
theorem dX9_init_25 : decode cX9_init 25 = .ok (.putfield 18, 3) := by decide +kernel
theorem dX9_init_28 : decode cX9_init 28 = .ok (.aload_n 0, 1) := by decide +kernel
theorem dX9_init_29 : decode cX9_init 29 = .ok (.bipush 10, 2) := by decide +kernel
theorem dX9_init_31 : decode cX9_init 31 = .ok (.newarray .int, 2) := by decide +kernel
theorem dX9_init_33 : decode cX9_init 33 = .ok (.putfield 21, 3) := by decide +kernel
theorem dX9_init_36 : decode cX9_init 36 = .ok (.aload_n 0, 1) := by decide +kernel
theorem dX9_init_37 : decode cX9_init 37 = .ok (.bipush 12, 2) := by decide +kernel
theorem dX9_init_39 : decode cX9_init 39 = .ok (.newarray .int, 2) := by decide +kernel
theorem dX9_init_41 : decode cX9_init 41 = .ok (.putfield 24, 3) := by decide +kernel
theorem dX9_init_44 : decode cX9_init 44 = .ok (.aload_n 0, 1) := by decide +kernel
theorem dX9_init_45 : decode cX9_init 45 = .ok (.bipush 12, 2) := by decide +kernel
theorem dX9_init_47 : decode cX9_init 47 = .ok (.newarray .int, 2) := by decide +kernel
theorem dX9_init_49 : decode cX9_init 49 = .ok (.putfield 27, 3) := by decide +kernel
theorem dX9_init_52 : decode cX9_init 52 = .ok (.return_, 1) := by decide +kernel
theorem dX9_become_0 : decode cX9_become 0 = .ok (.aload_n 1, 1) := by decide +kernel
theorem dX9_become_1 : decode cX9_become 1 = .ok (.getfield 9, 3) := by decide +kernel
theorem dX9_become_4 : decode cX9_become 4 = .ok (.aload_n 0, 1) := by decide +kernel
theorem dX9_become_5 : decode cX9_become 5 = .ok (.getfield 9, 3) := by decide +kernel
theorem dX9_become_8 : decode cX9_become 8 = .ok (.invokestatic 30, 3) := by decide +kernel
theorem dX9_become_11 : decode cX9_become 11 = .ok (.aload_n 1, 1) := by decide +kernel
theorem dX9_become_12 : decode cX9_become 12 = .ok (.getfield 15, 3) := by decide +kernel
theorem dX9_become_15 : decode cX9_become 15 = .ok (.aload_n 0, 1) := by decide +kernel
theorem dX9_become_16 : decode cX9_become 16 = .ok (.getfield 15, 3) := by decide +kernel
theorem dX9_become_19 : decode cX9_become 19 = .ok (.invokestatic 30, 3) := by decide +kernel
theorem dX9_become_22 : decode cX9_become 22 = .ok (.aload_n 1, 1) := by decide +kernel
theorem dX9_become_23 : decode cX9_become 23 = .ok (.getfield 18, 3) := by decide +kernel
theorem dX9_become_26 : decode cX9_become 26 = .ok (.aload_n 0, 1) := by decide +kernel
theorem dX9_become_27 : decode cX9_become 27 = .ok (.getfield 18, 3) := by decide +kernel
theorem dX9_become_30 : decode cX9_become 30 = .ok (.invokestatic 30, 3) := by decide +kernel
theorem dX9_become_33 : decode cX9_become 33 = .ok (.aload_n 1, 1) := by decide +kernel
theorem dX9_become_34 : decode cX9_become 34 = .ok (.getfield 21, 3) := by decide +kernel
theorem dX9_become_37 : decode cX9_become 37 = .ok (.aload_n 0, 1) := by decide +kernel
theorem dX9_become_38 : decode cX9_become 38 = .ok (.getfield 21, 3) := by decide +kernel
theorem dX9_become_41 : decode cX9_become 41 = .ok (.invokestatic 30, 3) := by decide +kernel
theorem dX9_become_44 : decode cX9_become 44 = .ok (.aload_n 1, 1) := by decide +kernel
theorem dX9_become_45 : decode cX9_become 45 = .ok (.getfield 24, 3) := by decide +kernel
theorem dX9_become_48 : decode cX9_become 48 = .ok (.aload_n 0, 1) := by decide +kernel
theorem dX9_become_49 : decode cX9_become 49 = .ok (.getfield 24, 3) := by decide +kernel
theorem dX9_become_52 : decode cX9_become 52 = .ok (.invokestatic 30, 3) := by decide +kernel
theorem dX9_become_55 : decode cX9_become 55 = .ok (.aload_n 1, 1) := by decide +kernel
theorem dX9_become_56 : decode cX9_become 56 = .ok (.getfield 27, 3) := by decide +kernel
theorem dX9_become_59 : decode cX9_become 59 = .ok (.aload_n 0, 1) := by decide +kernel
theorem dX9_become_60 : decode cX9_become 60 = .ok (.getfield 27, 3) := by decide +kernel
theorem dX9_become_63 : decode cX9_become 63 = .ok (.invokestatic 30, 3) := by decide +kernel
theorem dX9_become_66 : decode cX9_become 66 = .ok (.aload_n 0, 1) := by decide +kernel
theorem dX9_become_67 : decode cX9_become 67 = .ok (.aload_n 1, 1) := by decide +kernel
theorem dX9_become_68 : decode cX9_become 68 = .ok (.getfield 36, 3) := by decide +kernel
theorem dX9_become_71 : decode cX9_become 71 = .ok (.putfield 36, 3) := by decide +kernel
theorem dX9_become_74 : decode cX9_become 74 = .ok (.aload_n 0, 1) := by decide +kernel
theorem dX9_become_75 : decode cX9_become 75 = .ok (.aload_n 1, 1) := by decide +kernel
theorem dX9_become_76 : decode cX9_become 76 = .ok (.getfield 40, 3) := by decide +kernel
theorem dX9_become_79 : decode cX9_become 79 = .ok (.putfield 40, 3) := by decide +kernel
theorem dX9_become_82 : decode cX9_become 82 = .ok (.aload_n 0, 1) := by decide +kernel
theorem dX9_become_83 : decode cX9_become 83 = .ok (.aload_n 1, 1) := by decide +kernel
theorem dX9_become_84 : decode cX9_become 84 = .ok (.getfield 43, 3) := by decide +kernel
theorem dX9_become_87 : decode cX9_become 87 = .ok (.putfield 43, 3) := by decide +kernel
theorem dX9_become_90 : decode cX9_become 90 = .ok (.aload_n 0, 1) := by decide +kernel
theorem dX9_become_91 : decode cX9_become 91 = .ok (.aload_n 1, 1) := by decide +kernel
theorem dX9_become_92 : decode cX9_become 92 = .ok (.getfield 46, 3) := by decide +kernel
theorem dX9_become_95 : decode cX9_become 95 = .ok (.putfield 46, 3) := by decide +kernel
theorem dX9_become_98 : decode cX9_become 98 = .ok (.return_, 1) := by decide +kernel
theorem dX9_begin_0 : decode cX9_begin 0 = .ok (.iconst 0, 1) := by decide +kernel
theorem dX9_begin_1 : decode cX9_begin 1 = .ok (.istore_n 2, 1) := by decide +kernel
theorem dX9_begin_2 : decode cX9_begin 2 = .ok (.iload_n 2, 1) := by decide +kernel
theorem dX9_begin_3 : decode cX9_begin 3 = .ok (.aload_n 1, 1) := by decide +kernel
theorem dX9_begin_4 : decode cX9_begin 4 = .ok (.getfield 49, 3) := by decide +kernel
theorem dX9_begin_7 : decode cX9_begin 7 = .ok (.if_icmp .ge 48, 3) := by decide +kernel
theorem dX9_begin_10 : decode cX9_begin 10 = .ok (.aload_n 0, 1) := by decide +kernel
theorem dX9_begin_11 : decode cX9_begin 11 = .ok (.getfield 9, 3) := by decide +kernel
theorem dX9_begin_14 : decode cX9_begin 14 = .ok (.iload_n 2, 1) := by decide +kernel
theorem dX9_begin_15 : decode cX9_begin 15 = .ok (.aload_n 1, 1) := by decide +kernel
theorem dX9_begin_16 : decode cX9_begin 16 = .ok (.getfield 52, 3) := by decide +kernel
theorem dX9_begin_19 : decode cX9_begin 19 = .ok (.iload_n 2, 1) := by decide +kernel
theorem dX9_begin_20 : decode cX9_begin 20 = .ok (.iaload, 1) := by decide +kernel
theorem dX9_begin_21 : decode cX9_begin 21 = .ok (.iastore, 1) := by decide +kernel
theorem dX9_begin_22 : decode cX9_begin 22 = .ok (.aload_n 0, 1) := by decide +kernel
theorem dX9_begin_23 : decode cX9_begin 23 = .ok (.getfield 15, 3) := by decide +kernel
theorem dX9_begin_26 : decode cX9_begin 26 = .ok (.iload_n 2, 1) := by decide +kernel
theorem dX9_begin_27 : decode cX9_begin 27 = .ok (.bipush 100, 2) := by decide +kernel
theorem dX9_begin_29 : decode cX9_begin 29 = .ok (.iastore, 1) := by decide +kernel
theorem dX9_begin_30 : decode cX9_begin 30 = .ok (.aload_n 0, 1) := by decide +kernel
theorem dX9_begin_31 : decode cX9_begin 31 = .ok (.getfield 18, 3) := by decide +kernel
theorem dX9_begin_34 : decode cX9_begin 34 = .ok (.iload_n 2, 1) := by decide +kernel
theorem dX9_begin_35 : decode cX9_begin 35 = .ok (.aload_n 1, 1) := by decide +kernel
theorem dX9_begin_36 : decode cX9_begin 36 = .ok (.getfield 53, 3) := by decide +kernel
theorem dX9_begin_39 : decode cX9_begin 39 = .ok (.iload_n 2, 1) := by decide +kernel
theorem dX9_begin_40 : decode cX9_begin 40 = .ok (.iaload, 1) := by decide +kernel
theorem dX9_begin_41 : decode cX9_begin 41 = .ok (.iastore, 1) := by decide +kernel
theorem dX9_begin_42 : decode cX9_begin 42 = .ok (.aload_n 0, 1) := by decide +kernel
theorem dX9_begin_43 : decode cX9_begin 43 = .ok (.getfield 21, 3) := by decide +kernel
theorem dX9_begin_46 : decode cX9_begin 46 = .ok (.iload_n 2, 1) := by decide +kernel
theorem dX9_begin_47 : decode cX9_begin 47 = .ok (.iload_n 2, 1) := by decide +kernel
theorem dX9_begin_48 : decode cX9_begin 48 = .ok (.iastore, 1) := by decide +kernel
theorem dX9_begin_49 : decode cX9_begin 49 = .ok (.iinc 2 1, 3) := by decide +kernel
theorem dX9_begin_52 : decode cX9_begin 52 = .ok (.goto (-50), 3) := by decide +kernel
theorem dX9_begin_55 : decode cX9_begin 55 = .ok (.aload_n 0, 1) := by decide +kernel
theorem dX9_begin_56 : decode cX9_begin 56 = .ok (.iconst 0, 1) := by decide +kernel
theorem dX9_begin_57 : decode cX9_begin 57 = .ok (.putfield 36, 3) := by decide +kernel
theorem dX9_begin_60 : decode cX9_begin 60 = .ok (.aload_n 0, 1) := by decide +kernel
theorem dX9_begin_61 : decode cX9_begin 61 = .ok (.iconst 0, 1) := by decide +kernel
theorem dX9_begin_62 : decode cX9_begin 62 = .ok (.putfield 40, 3) := by decide +kernel
theorem dX9_begin_65 : decode cX9_begin 65 = .ok (.aload_n 0, 1) := by decide +kernel
theorem dX9_begin_66 : decode cX9_begin 66 = .ok (.iconst 0, 1) := by decide +kernel
theorem dX9_begin_67 : decode cX9_begin 67 = .ok (.putfield 43, 3) := by decide +kernel
theorem dX9_begin_70 : decode cX9_begin 70 = .ok (.aload_n 0, 1) := by decide +kernel
theorem dX9_begin_71 : decode cX9_begin 71 = .ok (.iconst 0, 1) := by decide +kernel
theorem dX9_begin_72 : decode cX9_begin 72 = .ok (.putfield 46, 3) := by decide +kernel
theorem dX9_begin_75 : decode cX9_begin 75 = .ok (.return_, 1) := by decide +kernel
theorem dX9_isCovered_0 : decode cX9_isCovered 0 = .ok (.aload_n 0, 1) := by decide +kernel
theorem dX9_isCovered_1 : decode cX9_isCovered 1 = .ok (.getfield 40, 3) := by decide +kernel
theorem dX9_isCovered_4 : decode cX9_isCovered 4 = .ok (.ifCond .le 17, 3) := by decide +kernel
theorem dX9_isCovered_7 : decode cX9_isCovered 7 = .ok (.aload_n 0, 1) := by decide +kernel
theorem dX9_isCovered_8 : decode cX9_isCovered 8 = .ok (.getfield 27, 3) := by decide +kernel
theorem dX9_isCovered_11 : decode cX9_isCovered 11 = .ok (.iconst 0, 1) := by decide +kernel
theorem dX9_isCovered_12 : decode cX9_isCovered 12 = .ok (.iaload, 1) := by decide +kernel
theorem dX9_isCovered_13 : decode cX9_isCovered 13 = .ok (.iload_n 1, 1) := by decide +kernel
theorem dX9_isCovered_14 : decode cX9_isCovered 14 = .ok (.if_icmp .ne 7, 3) := by decide +kernel
theorem dX9_isCovered_17 : decode cX9_isCovered 17 = .ok (.iconst 1, 1) := by decide +kernel
theorem dX9_isCovered_18 : decode cX9_isCovered 18 = .ok (.goto 4, 3) := by decide +kernel
theorem dX9_isCovered_21 : decode cX9_isCovered 21 = .ok (.iconst 0, 1) := by decide +kernel
theorem dX9_isCovered_22 : decode cX9_isCovered 22 = .ok (.ireturn, 1) := by decide +kernel
theorem dX9_find_0 : decode cX9_find 0 = .ok (.iconst 0, 1) := by decide +kernel
theorem dX9_find_1 : decode cX9_find 1 = .ok (.istore_n 3, 1) := by decide +kernel
theorem dX9_find_2 : decode cX9_find 2 = .ok (.iload_n 3, 1) := by decide +kernel
theorem dX9_find_3 : decode cX9_find 3 = .ok (.aload_n 0, 1) := by decide +kernel
theorem dX9_find_4 : decode cX9_find 4 = .ok (.getfield 36, 3) := by decide +kernel
theorem dX9_find_7 : decode cX9_find 7 = .ok (.if_icmp .ge 31, 3) := by decide +kernel
theorem dX9_find_10 : decode cX9_find 10 = .ok (.aload_n 0, 1) := by decide +kernel
theorem dX9_find_11 : decode cX9_find 11 = .ok (.getfield 24, 3) := by decide +kernel
theorem dX9_find_14 : decode cX9_find 14 = .ok (.iload_n 3, 1) := by decide +kernel
theorem dX9_find_15 : decode cX9_find 15 = .ok (.iaload, 1) := by decide +kernel
theorem dX9_find_16 : decode cX9_find 16 = .ok (.iload_n 1, 1) := by decide +kernel
theorem dX9_find_17 : decode cX9_find 17 = .ok (.if_icmp .ne 15, 3) := by decide +kernel
theorem dX9_find_20 : decode cX9_find 20 = .ok (.aload_n 0, 1) := by decide +kernel
theorem dX9_find_21 : decode cX9_find 21 = .ok (.getfield 27, 3) := by decide +kernel
theorem dX9_find_24 : decode cX9_find 24 = .ok (.iload_n 3, 1) := by decide +kernel
theorem dX9_find_25 : decode cX9_find 25 = .ok (.iaload, 1) := by decide +kernel
theorem dX9_find_26 : decode cX9_find 26 = .ok (.iload_n 2, 1) := by decide +kernel
theorem dX9_find_27 : decode cX9_find 27 = .ok (.if_icmp .ne 5, 3) := by decide +kernel
theorem dX9_find_30 : decode cX9_find 30 = .ok (.iload_n 3, 1) := by decide +kernel
theorem dX9_find_31 : decode cX9_find 31 = .ok (.ireturn, 1) := by decide +kernel
theorem dX9_find_32 : decode cX9_find 32 = .ok (.iinc 3 1, 3) := by decide +kernel
theorem dX9_find_35 : decode cX9_find 35 = .ok (.goto (-33), 3) := by decide +kernel
theorem dX9_find_38 : decode cX9_find 38 = .ok (.iconst (-1), 1) := by decide +kernel
theorem dX9_find_39 : decode cX9_find 39 = .ok (.ireturn, 1) := by decide +kernel
theorem dX9_order_0 : decode cX9_order 0 = .ok (.aload_n 0, 1) := by decide +kernel
theorem dX9_order_1 : decode cX9_order 1 = .ok (.getfield 36, 3) := by decide +kernel
theorem dX9_order_4 : decode cX9_order 4 = .ok (.bipush 12, 2) := by decide +kernel
theorem dX9_order_6 : decode cX9_order 6 = .ok (.if_icmp .eq 13, 3) := by decide +kernel
theorem dX9_order_9 : decode cX9_order 9 = .ok (.aload_n 0, 1) := by decide +kernel
theorem dX9_order_10 : decode cX9_order 10 = .ok (.iload_n 1, 1) := by decide +kernel
theorem dX9_order_11 : decode cX9_order 11 = .ok (.iload_n 2, 1) := by decide +kernel
theorem dX9_order_12 : decode cX9_order 12 = .ok (.invokevirtual 54, 3) := by decide +kernel
theorem dX9_order_15 : decode cX9_order 15 = .ok (.iconst (-1), 1) := by decide +kernel
theorem dX9_order_16 : decode cX9_order 16 = .ok (.if_icmp .eq 5, 3) := by decide +kernel
theorem dX9_order_19 : decode cX9_order 19 = .ok (.iconst 0, 1) := by decide +kernel
theorem dX9_order_20 : decode cX9_order 20 = .ok (.ireturn, 1) := by decide +kernel
theorem dX9_order_21 : decode cX9_order 21 = .ok (.aload_n 0, 1) := by decide +kernel
theorem dX9_order_22 : decode cX9_order 22 = .ok (.getfield 24, 3) := by decide +kernel
theorem dX9_order_25 : decode cX9_order 25 = .ok (.aload_n 0, 1) := by decide +kernel
theorem dX9_order_26 : decode cX9_order 26 = .ok (.getfield 36, 3) := by decide +kernel
theorem dX9_order_29 : decode cX9_order 29 = .ok (.iload_n 1, 1) := by decide +kernel
theorem dX9_order_30 : decode cX9_order 30 = .ok (.iastore, 1) := by decide +kernel
theorem dX9_order_31 : decode cX9_order 31 = .ok (.aload_n 0, 1) := by decide +kernel
theorem dX9_order_32 : decode cX9_order 32 = .ok (.getfield 27, 3) := by decide +kernel
theorem dX9_order_35 : decode cX9_order 35 = .ok (.aload_n 0, 1) := by decide +kernel
theorem dX9_order_36 : decode cX9_order 36 = .ok (.getfield 36, 3) := by decide +kernel
theorem dX9_order_39 : decode cX9_order 39 = .ok (.iload_n 2, 1) := by decide +kernel
theorem dX9_order_40 : decode cX9_order 40 = .ok (.iastore, 1) := by decide +kernel
theorem dX9_order_41 : decode cX9_order 41 = .ok (.aload_n 0, 1) := by decide +kernel
theorem dX9_order_42 : decode cX9_order 42 = .ok (.dup, 1) := by decide +kernel
theorem dX9_order_43 : decode cX9_order 43 = .ok (.getfield 36, 3) := by decide +kernel
theorem dX9_order_46 : decode cX9_order 46 = .ok (.iconst 1, 1) := by decide +kernel
theorem dX9_order_47 : decode cX9_order 47 = .ok (.iadd, 1) := by decide +kernel
theorem dX9_order_48 : decode cX9_order 48 = .ok (.putfield 36, 3) := by decide +kernel
theorem dX9_order_51 : decode cX9_order 51 = .ok (.iconst 1, 1) := by decide +kernel
theorem dX9_order_52 : decode cX9_order 52 = .ok (.ireturn, 1) := by decide +kernel
theorem dX9_take_0 : decode cX9_take 0 = .ok (.aload_n 0, 1) := by decide +kernel
theorem dX9_take_1 : decode cX9_take 1 = .ok (.getfield 27, 3) := by decide +kernel
theorem dX9_take_4 : decode cX9_take 4 = .ok (.iload_n 1, 1) := by decide +kernel
theorem dX9_take_5 : decode cX9_take 5 = .ok (.iaload, 1) := by decide +kernel
theorem dX9_take_6 : decode cX9_take 6 = .ok (.istore_n 2, 1) := by decide +kernel
theorem dX9_take_7 : decode cX9_take 7 = .ok (.aload_n 0, 1) := by decide +kernel
theorem dX9_take_8 : decode cX9_take 8 = .ok (.dup, 1) := by decide +kernel
theorem dX9_take_9 : decode cX9_take 9 = .ok (.getfield 36, 3) := by decide +kernel
theorem dX9_take_12 : decode cX9_take 12 = .ok (.iconst 1, 1) := by decide +kernel
theorem dX9_take_13 : decode cX9_take 13 = .ok (.isub, 1) := by decide +kernel
theorem dX9_take_14 : decode cX9_take 14 = .ok (.putfield 36, 3) := by decide +kernel
theorem dX9_take_17 : decode cX9_take 17 = .ok (.iload_n 1, 1) := by decide +kernel
theorem dX9_take_18 : decode cX9_take 18 = .ok (.istore_n 3, 1) := by decide +kernel
theorem dX9_take_19 : decode cX9_take 19 = .ok (.iload_n 3, 1) := by decide +kernel
theorem dX9_take_20 : decode cX9_take 20 = .ok (.aload_n 0, 1) := by decide +kernel
theorem dX9_take_21 : decode cX9_take 21 = .ok (.getfield 36, 3) := by decide +kernel
theorem dX9_take_24 : decode cX9_take 24 = .ok (.if_icmp .ge 37, 3) := by decide +kernel
theorem dX9_take_27 : decode cX9_take 27 = .ok (.aload_n 0, 1) := by decide +kernel
theorem dX9_take_28 : decode cX9_take 28 = .ok (.getfield 24, 3) := by decide +kernel
theorem dX9_take_31 : decode cX9_take 31 = .ok (.iload_n 3, 1) := by decide +kernel
theorem dX9_take_32 : decode cX9_take 32 = .ok (.aload_n 0, 1) := by decide +kernel
theorem dX9_take_33 : decode cX9_take 33 = .ok (.getfield 24, 3) := by decide +kernel
theorem dX9_take_36 : decode cX9_take 36 = .ok (.iload_n 3, 1) := by decide +kernel
theorem dX9_take_37 : decode cX9_take 37 = .ok (.iconst 1, 1) := by decide +kernel
theorem dX9_take_38 : decode cX9_take 38 = .ok (.iadd, 1) := by decide +kernel
theorem dX9_take_39 : decode cX9_take 39 = .ok (.iaload, 1) := by decide +kernel
theorem dX9_take_40 : decode cX9_take 40 = .ok (.iastore, 1) := by decide +kernel
theorem dX9_take_41 : decode cX9_take 41 = .ok (.aload_n 0, 1) := by decide +kernel
theorem dX9_take_42 : decode cX9_take 42 = .ok (.getfield 27, 3) := by decide +kernel
theorem dX9_take_45 : decode cX9_take 45 = .ok (.iload_n 3, 1) := by decide +kernel
theorem dX9_take_46 : decode cX9_take 46 = .ok (.aload_n 0, 1) := by decide +kernel
theorem dX9_take_47 : decode cX9_take 47 = .ok (.getfield 27, 3) := by decide +kernel
theorem dX9_take_50 : decode cX9_take 50 = .ok (.iload_n 3, 1) := by decide +kernel
theorem dX9_take_51 : decode cX9_take 51 = .ok (.iconst 1, 1) := by decide +kernel
theorem dX9_take_52 : decode cX9_take 52 = .ok (.iadd, 1) := by decide +kernel
theorem dX9_take_53 : decode cX9_take 53 = .ok (.iaload, 1) := by decide +kernel
theorem dX9_take_54 : decode cX9_take 54 = .ok (.iastore, 1) := by decide +kernel
theorem dX9_take_55 : decode cX9_take 55 = .ok (.iinc 3 1, 3) := by decide +kernel
theorem dX9_take_58 : decode cX9_take 58 = .ok (.goto (-39), 3) := by decide +kernel
theorem dX9_take_61 : decode cX9_take 61 = .ok (.iload_n 1, 1) := by decide +kernel
theorem dX9_take_62 : decode cX9_take 62 = .ok (.ifCond .ne 8, 3) := by decide +kernel
theorem dX9_take_65 : decode cX9_take 65 = .ok (.aload_n 0, 1) := by decide +kernel
theorem dX9_take_66 : decode cX9_take 66 = .ok (.iconst 0, 1) := by decide +kernel
theorem dX9_take_67 : decode cX9_take 67 = .ok (.putfield 40, 3) := by decide +kernel
theorem dX9_take_70 : decode cX9_take 70 = .ok (.iload_n 2, 1) := by decide +kernel
theorem dX9_take_71 : decode cX9_take 71 = .ok (.ireturn, 1) := by decide +kernel
theorem dX9_clean_0 : decode cX9_clean 0 = .ok (.aload_n 0, 1) := by decide +kernel
theorem dX9_clean_1 : decode cX9_clean 1 = .ok (.getfield 9, 3) := by decide +kernel
theorem dX9_clean_4 : decode cX9_clean 4 = .ok (.iload_n 1, 1) := by decide +kernel
theorem dX9_clean_5 : decode cX9_clean 5 = .ok (.aload_n 0, 1) := by decide +kernel
theorem dX9_clean_6 : decode cX9_clean 6 = .ok (.getfield 9, 3) := by decide +kernel
theorem dX9_clean_9 : decode cX9_clean 9 = .ok (.iload_n 1, 1) := by decide +kernel
theorem dX9_clean_10 : decode cX9_clean 10 = .ok (.iaload, 1) := by decide +kernel
theorem dX9_clean_11 : decode cX9_clean 11 = .ok (.aload_n 0, 1) := by decide +kernel
theorem dX9_clean_12 : decode cX9_clean 12 = .ok (.getfield 15, 3) := by decide +kernel
theorem dX9_clean_15 : decode cX9_clean 15 = .ok (.iload_n 1, 1) := by decide +kernel
theorem dX9_clean_16 : decode cX9_clean 16 = .ok (.iaload, 1) := by decide +kernel
theorem dX9_clean_17 : decode cX9_clean 17 = .ok (.invokestatic 58, 3) := by decide +kernel
theorem dX9_clean_20 : decode cX9_clean 20 = .ok (.iastore, 1) := by decide +kernel
theorem dX9_clean_21 : decode cX9_clean 21 = .ok (.return_, 1) := by decide +kernel
theorem dX9_takes_0 : decode cX9_takes 0 = .ok (.aload_n 0, 1) := by decide +kernel
theorem dX9_takes_1 : decode cX9_takes 1 = .ok (.getfield 27, 3) := by decide +kernel
theorem dX9_takes_4 : decode cX9_takes 4 = .ok (.iconst 0, 1) := by decide +kernel
theorem dX9_takes_5 : decode cX9_takes 5 = .ok (.iaload, 1) := by decide +kernel
theorem dX9_takes_6 : decode cX9_takes 6 = .ok (.istore_n 1, 1) := by decide +kernel
theorem dX9_takes_7 : decode cX9_takes 7 = .ok (.aload_n 0, 1) := by decide +kernel
theorem dX9_takes_8 : decode cX9_takes 8 = .ok (.getfield 24, 3) := by decide +kernel
theorem dX9_takes_11 : decode cX9_takes 11 = .ok (.iconst 0, 1) := by decide +kernel
theorem dX9_takes_12 : decode cX9_takes 12 = .ok (.iaload, 1) := by decide +kernel
theorem dX9_takes_13 : decode cX9_takes 13 = .ok (.ifCond .ne 18, 3) := by decide +kernel
theorem dX9_takes_16 : decode cX9_takes 16 = .ok (.bipush 100, 2) := by decide +kernel
theorem dX9_takes_18 : decode cX9_takes 18 = .ok (.aload_n 0, 1) := by decide +kernel
theorem dX9_takes_19 : decode cX9_takes 19 = .ok (.getfield 9, 3) := by decide +kernel
theorem dX9_takes_22 : decode cX9_takes 22 = .ok (.iload_n 1, 1) := by decide +kernel
theorem dX9_takes_23 : decode cX9_takes 23 = .ok (.iaload, 1) := by decide +kernel
theorem dX9_takes_24 : decode cX9_takes 24 = .ok (.isub, 1) := by decide +kernel
theorem dX9_takes_25 : decode cX9_takes 25 = .ok (.bipush 10, 2) := by decide +kernel
theorem dX9_takes_27 : decode cX9_takes 27 = .ok (.idiv, 1) := by decide +kernel
theorem dX9_takes_28 : decode cX9_takes 28 = .ok (.iconst 1, 1) := by decide +kernel
theorem dX9_takes_29 : decode cX9_takes 29 = .ok (.iadd, 1) := by decide +kernel
theorem dX9_takes_30 : decode cX9_takes 30 = .ok (.ireturn, 1) := by decide +kernel
theorem dX9_takes_31 : decode cX9_takes 31 = .ok (.aload_n 0, 1) := by decide +kernel
theorem dX9_takes_32 : decode cX9_takes 32 = .ok (.getfield 24, 3) := by decide +kernel
theorem dX9_takes_35 : decode cX9_takes 35 = .ok (.iconst 0, 1) := by decide +kernel
theorem dX9_takes_36 : decode cX9_takes 36 = .ok (.iaload, 1) := by decide +kernel
theorem dX9_takes_37 : decode cX9_takes 37 = .ok (.iconst 1, 1) := by decide +kernel
theorem dX9_takes_38 : decode cX9_takes 38 = .ok (.if_icmp .ne 19, 3) := by decide +kernel
theorem dX9_takes_41 : decode cX9_takes 41 = .ok (.aload_n 0, 1) := by decide +kernel
theorem dX9_takes_42 : decode cX9_takes 42 = .ok (.getfield 18, 3) := by decide +kernel
theorem dX9_takes_45 : decode cX9_takes 45 = .ok (.iload_n 1, 1) := by decide +kernel
theorem dX9_takes_46 : decode cX9_takes 46 = .ok (.iaload, 1) := by decide +kernel
theorem dX9_takes_47 : decode cX9_takes 47 = .ok (.invokestatic 63, 3) := by decide +kernel
theorem dX9_takes_50 : decode cX9_takes 50 = .ok (.iconst 5, 1) := by decide +kernel
theorem dX9_takes_51 : decode cX9_takes 51 = .ok (.idiv, 1) := by decide +kernel
theorem dX9_takes_52 : decode cX9_takes 52 = .ok (.iconst 1, 1) := by decide +kernel
theorem dX9_takes_53 : decode cX9_takes 53 = .ok (.iadd, 1) := by decide +kernel
theorem dX9_takes_54 : decode cX9_takes 54 = .ok (.goto 5, 3) := by decide +kernel
theorem dX9_takes_57 : decode cX9_takes 57 = .ok (.bipush 20, 2) := by decide +kernel
theorem dX9_takes_59 : decode cX9_takes 59 = .ok (.ireturn, 1) := by decide +kernel
theorem dX9_works_0 : decode cX9_works 0 = .ok (.aload_n 0, 1) := by decide +kernel
theorem dX9_works_1 : decode cX9_works 1 = .ok (.getfield 36, 3) := by decide +kernel
theorem dX9_works_4 : decode cX9_works 4 = .ok (.ifCond .ne 5, 3) := by decide +kernel
theorem dX9_works_7 : decode cX9_works 7 = .ok (.iconst 0, 1) := by decide +kernel
theorem dX9_works_8 : decode cX9_works 8 = .ok (.ireturn, 1) := by decide +kernel
theorem dX9_works_9 : decode cX9_works 9 = .ok (.aload_n 0, 1) := by decide +kernel
theorem dX9_works_10 : decode cX9_works 10 = .ok (.getfield 40, 3) := by decide +kernel
theorem dX9_works_13 : decode cX9_works 13 = .ok (.ifCond .ne 11, 3) := by decide +kernel
theorem dX9_works_16 : decode cX9_works 16 = .ok (.aload_n 0, 1) := by decide +kernel
theorem dX9_works_17 : decode cX9_works 17 = .ok (.aload_n 0, 1) := by decide +kernel
theorem dX9_works_18 : decode cX9_works 18 = .ok (.invokevirtual 67, 3) := by decide +kernel
theorem dX9_works_21 : decode cX9_works 21 = .ok (.putfield 40, 3) := by decide +kernel
theorem dX9_works_24 : decode cX9_works 24 = .ok (.aload_n 0, 1) := by decide +kernel
theorem dX9_works_25 : decode cX9_works 25 = .ok (.dup, 1) := by decide +kernel
theorem dX9_works_26 : decode cX9_works 26 = .ok (.getfield 40, 3) := by decide +kernel
theorem dX9_works_29 : decode cX9_works 29 = .ok (.iconst 1, 1) := by decide +kernel
theorem dX9_works_30 : decode cX9_works 30 = .ok (.isub, 1) := by decide +kernel
theorem dX9_works_31 : decode cX9_works 31 = .ok (.putfield 40, 3) := by decide +kernel
theorem dX9_works_34 : decode cX9_works 34 = .ok (.aload_n 0, 1) := by decide +kernel
theorem dX9_works_35 : decode cX9_works 35 = .ok (.getfield 40, 3) := by decide +kernel
theorem dX9_works_38 : decode cX9_works 38 = .ok (.ifCond .le 5, 3) := by decide +kernel
theorem dX9_works_41 : decode cX9_works 41 = .ok (.iconst 0, 1) := by decide +kernel
theorem dX9_works_42 : decode cX9_works 42 = .ok (.ireturn, 1) := by decide +kernel
theorem dX9_works_43 : decode cX9_works 43 = .ok (.aload_n 0, 1) := by decide +kernel
theorem dX9_works_44 : decode cX9_works 44 = .ok (.getfield 24, 3) := by decide +kernel
theorem dX9_works_47 : decode cX9_works 47 = .ok (.iconst 0, 1) := by decide +kernel
theorem dX9_works_48 : decode cX9_works 48 = .ok (.iaload, 1) := by decide +kernel
theorem dX9_works_49 : decode cX9_works 49 = .ok (.istore_n 1, 1) := by decide +kernel
theorem dX9_works_50 : decode cX9_works 50 = .ok (.aload_n 0, 1) := by decide +kernel
theorem dX9_works_51 : decode cX9_works 51 = .ok (.iconst 0, 1) := by decide +kernel
theorem dX9_works_52 : decode cX9_works 52 = .ok (.invokevirtual 71, 3) := by decide +kernel
theorem dX9_works_55 : decode cX9_works 55 = .ok (.istore_n 2, 1) := by decide +kernel
theorem dX9_works_56 : decode cX9_works 56 = .ok (.aload_n 0, 1) := by decide +kernel
theorem dX9_works_57 : decode cX9_works 57 = .ok (.dup, 1) := by decide +kernel
theorem dX9_works_58 : decode cX9_works 58 = .ok (.getfield 46, 3) := by decide +kernel
theorem dX9_works_61 : decode cX9_works 61 = .ok (.iconst 1, 1) := by decide +kernel
theorem dX9_works_62 : decode cX9_works 62 = .ok (.iadd, 1) := by decide +kernel
theorem dX9_works_63 : decode cX9_works 63 = .ok (.putfield 46, 3) := by decide +kernel
theorem dX9_works_66 : decode cX9_works 66 = .ok (.iload_n 1, 1) := by decide +kernel
theorem dX9_works_67 : decode cX9_works 67 = .ok (.ifCond .ne 28, 3) := by decide +kernel
theorem dX9_works_70 : decode cX9_works 70 = .ok (.aload_n 0, 1) := by decide +kernel
theorem dX9_works_71 : decode cX9_works 71 = .ok (.iload_n 2, 1) := by decide +kernel
theorem dX9_works_72 : decode cX9_works 72 = .ok (.invokevirtual 74, 3) := by decide +kernel
theorem dX9_works_75 : decode cX9_works 75 = .ok (.aload_n 0, 1) := by decide +kernel
theorem dX9_works_76 : decode cX9_works 76 = .ok (.getfield 15, 3) := by decide +kernel
theorem dX9_works_79 : decode cX9_works 79 = .ok (.iload_n 2, 1) := by decide +kernel
theorem dX9_works_80 : decode cX9_works 80 = .ok (.iconst 0, 1) := by decide +kernel
theorem dX9_works_81 : decode cX9_works 81 = .ok (.aload_n 0, 1) := by decide +kernel
theorem dX9_works_82 : decode cX9_works 82 = .ok (.getfield 15, 3) := by decide +kernel
theorem dX9_works_85 : decode cX9_works 85 = .ok (.iload_n 2, 1) := by decide +kernel
theorem dX9_works_86 : decode cX9_works 86 = .ok (.iaload, 1) := by decide +kernel
theorem dX9_works_87 : decode cX9_works 87 = .ok (.iconst 1, 1) := by decide +kernel
theorem dX9_works_88 : decode cX9_works 88 = .ok (.isub, 1) := by decide +kernel
theorem dX9_works_89 : decode cX9_works 89 = .ok (.invokestatic 58, 3) := by decide +kernel
theorem dX9_works_92 : decode cX9_works 92 = .ok (.iastore, 1) := by decide +kernel
theorem dX9_works_93 : decode cX9_works 93 = .ok (.iconst 1, 1) := by decide +kernel
theorem dX9_works_94 : decode cX9_works 94 = .ok (.ireturn, 1) := by decide +kernel
theorem dX9_works_95 : decode cX9_works 95 = .ok (.aload_n 0, 1) := by decide +kernel
theorem dX9_works_96 : decode cX9_works 96 = .ok (.getfield 18, 3) := by decide +kernel
theorem dX9_works_99 : decode cX9_works 99 = .ok (.iload_n 2, 1) := by decide +kernel
theorem dX9_works_100 : decode cX9_works 100 = .ok (.iconst 0, 1) := by decide +kernel
theorem dX9_works_101 : decode cX9_works 101 = .ok (.iastore, 1) := by decide +kernel
theorem dX9_works_102 : decode cX9_works 102 = .ok (.iload_n 1, 1) := by decide +kernel
theorem dX9_works_103 : decode cX9_works 103 = .ok (.iconst 2, 1) := by decide +kernel
theorem dX9_works_104 : decode cX9_works 104 = .ok (.if_icmp .ne 19, 3) := by decide +kernel
theorem dX9_works_107 : decode cX9_works 107 = .ok (.aload_n 0, 1) := by decide +kernel
theorem dX9_works_108 : decode cX9_works 108 = .ok (.getfield 9, 3) := by decide +kernel
theorem dX9_works_111 : decode cX9_works 111 = .ok (.iload_n 2, 1) := by decide +kernel
theorem dX9_works_112 : decode cX9_works 112 = .ok (.bipush 100, 2) := by decide +kernel
theorem dX9_works_114 : decode cX9_works 114 = .ok (.iastore, 1) := by decide +kernel
theorem dX9_works_115 : decode cX9_works 115 = .ok (.aload_n 0, 1) := by decide +kernel
theorem dX9_works_116 : decode cX9_works 116 = .ok (.getfield 15, 3) := by decide +kernel
theorem dX9_works_119 : decode cX9_works 119 = .ok (.iload_n 2, 1) := by decide +kernel
theorem dX9_works_120 : decode cX9_works 120 = .ok (.bipush 100, 2) := by decide +kernel
theorem dX9_works_122 : decode cX9_works 122 = .ok (.iastore, 1) := by decide +kernel
theorem dX9_works_123 : decode cX9_works 123 = .ok (.iconst 1, 1) := by decide +kernel
theorem dX9_works_124 : decode cX9_works 124 = .ok (.ireturn, 1) := by decide +kernel
theorem dX10_init_0 : decode cX10_init 0 = .ok (.aload_n 0, 1) := by decide +kernel
theorem dX10_init_1 : decode cX10_init 1 = .ok (.invokespecial 3, 3) := by decide +kernel
theorem dX10_init_4 : decode cX10_init 4 = .ok (.aload_n 0, 1) := by decide +kernel
theorem dX10_init_5 : decode cX10_init 5 = .ok (.bipush 60, 2) := by decide +kernel
theorem dX10_init_7 : decode cX10_init 7 = .ok (.putfield 9, 3) := by decide +kernel
theorem dX10_init_10 : decode cX10_init 10 = .ok (.aload_n 0, 1) := by decide +kernel
theorem dX10_init_11 : decode cX10_init 11 = .ok (.sipush 1000, 3) := by decide +kernel
theorem dX10_init_14 : decode cX10_init 14 = .ok (.putfield 15, 3) := by decide +kernel
theorem dX10_init_17 : decode cX10_init 17 = .ok (.aload_n 0, 1) := by decide +kernel
theorem dX10_init_18 : decode cX10_init 18 = .ok (.bipush 11, 2) := by decide +kernel
theorem dX10_init_20 : decode cX10_init 20 = .ok (.newarray .int, 2) := by decide +kernel
theorem dX10_init_22 : decode cX10_init 22 = .ok (.putfield 18, 3) := by decide +kernel
theorem dX10_init_25 : decode cX10_init 25 = .ok (.aload_n 0, 1) := by decide +kernel
theorem dX10_init_26 : decode cX10_init 26 = .ok (.bipush 11, 2) := by decide +kernel
theorem dX10_init_28 : decode cX10_init 28 = .ok (.newarray .int, 2) := by decide +kernel
theorem dX10_init_30 : decode cX10_init 30 = .ok (.putfield 22, 3) := by decide +kernel
theorem dX10_init_33 : decode cX10_init 33 = .ok (.aload_n 0, 1) := by decide +kernel
theorem dX10_init_34 : decode cX10_init 34 = .ok (.bipush 17, 2) := by decide +kernel
theorem dX10_init_36 : decode cX10_init 36 = .ok (.newarray .int, 2) := by decide +kernel
theorem dX10_init_38 : decode cX10_init 38 = .ok (.putfield 25, 3) := by decide +kernel
theorem dX10_init_41 : decode cX10_init 41 = .ok (.aload_n 0, 1) := by decide +kernel
theorem dX10_init_42 : decode cX10_init 42 = .ok (.bipush 17, 2) := by decide +kernel
theorem dX10_init_44 : decode cX10_init 44 = .ok (.newarray .int, 2) := by decide +kernel
theorem dX10_init_46 : decode cX10_init 46 = .ok (.putfield 28, 3) := by decide +kernel
theorem dX10_init_49 : decode cX10_init 49 = .ok (.aload_n 0, 1) := by decide +kernel
theorem dX10_init_50 : decode cX10_init 50 = .ok (.bipush 17, 2) := by decide +kernel
theorem dX10_init_52 : decode cX10_init 52 = .ok (.newarray .int, 2) := by decide +kernel
theorem dX10_init_54 : decode cX10_init 54 = .ok (.putfield 31, 3) := by decide +kernel
theorem dX10_init_57 : decode cX10_init 57 = .ok (.aload_n 0, 1) := by decide +kernel
theorem dX10_init_58 : decode cX10_init 58 = .ok (.bipush 17, 2) := by decide +kernel
theorem dX10_init_60 : decode cX10_init 60 = .ok (.newarray .int, 2) := by decide +kernel
theorem dX10_init_62 : decode cX10_init 62 = .ok (.putfield 34, 3) := by decide +kernel
theorem dX10_init_65 : decode cX10_init 65 = .ok (.aload_n 0, 1) := by decide +kernel
theorem dX10_init_66 : decode cX10_init 66 = .ok (.bipush 17, 2) := by decide +kernel
theorem dX10_init_68 : decode cX10_init 68 = .ok (.newarray .int, 2) := by decide +kernel
theorem dX10_init_70 : decode cX10_init 70 = .ok (.putfield 37, 3) := by decide +kernel
theorem dX10_init_73 : decode cX10_init 73 = .ok (.aload_n 0, 1) := by decide +kernel
theorem dX10_init_74 : decode cX10_init 74 = .ok (.bipush 17, 2) := by decide +kernel
theorem dX10_init_76 : decode cX10_init 76 = .ok (.newarray .int, 2) := by decide +kernel
theorem dX10_init_78 : decode cX10_init 78 = .ok (.putfield 40, 3) := by decide +kernel
theorem dX10_init_81 : decode cX10_init 81 = .ok (.aload_n 0, 1) := by decide +kernel
theorem dX10_init_82 : decode cX10_init 82 = .ok (.sipush 800, 3) := by decide +kernel
theorem dX10_init_85 : decode cX10_init 85 = .ok (.newarray .int, 2) := by decide +kernel
theorem dX10_init_87 : decode cX10_init 87 = .ok (.putfield 43, 3) := by decide +kernel
theorem dX10_init_90 : decode cX10_init 90 = .ok (.aload_n 0, 1) := by decide +kernel
theorem dX10_init_91 : decode cX10_init 91 = .ok (.sipush 800, 3) := by decide +kernel
theorem dX10_init_94 : decode cX10_init 94 = .ok (.newarray .int, 2) := by decide +kernel
theorem dX10_init_96 : decode cX10_init 96 = .ok (.putfield 46, 3) := by decide +kernel
theorem dX10_init_99 : decode cX10_init 99 = .ok (.aload_n 0, 1) := by decide +kernel
theorem dX10_init_100 : decode cX10_init 100 = .ok (.sipush 800, 3) := by decide +kernel
theorem dX10_init_103 : decode cX10_init 103 = .ok (.newarray .int, 2) := by decide +kernel
theorem dX10_init_105 : decode cX10_init 105 = .ok (.putfield 49, 3) := by decide +kernel
theorem dX10_init_108 : decode cX10_init 108 = .ok (.return_, 1) := by decide +kernel
theorem dX10_begin_0 : decode cX10_begin 0 = .ok (.aload_n 0, 1) := by decide +kernel
theorem dX10_begin_1 : decode cX10_begin 1 = .ok (.iconst 0, 1) := by decide +kernel
theorem dX10_begin_2 : decode cX10_begin 2 = .ok (.putfield 52, 3) := by decide +kernel
theorem dX10_begin_5 : decode cX10_begin 5 = .ok (.aload_n 0, 1) := by decide +kernel
theorem dX10_begin_6 : decode cX10_begin 6 = .ok (.bipush 60, 2) := by decide +kernel
theorem dX10_begin_8 : decode cX10_begin 8 = .ok (.putfield 9, 3) := by decide +kernel
theorem dX10_begin_11 : decode cX10_begin 11 = .ok (.aload_n 0, 1) := by decide +kernel
theorem dX10_begin_12 : decode cX10_begin 12 = .ok (.sipush 1000, 3) := by decide +kernel
theorem dX10_begin_15 : decode cX10_begin 15 = .ok (.putfield 15, 3) := by decide +kernel
theorem dX10_begin_18 : decode cX10_begin 18 = .ok (.aload_n 0, 1) := by decide +kernel
theorem dX10_begin_19 : decode cX10_begin 19 = .ok (.iconst 0, 1) := by decide +kernel
theorem dX10_begin_20 : decode cX10_begin 20 = .ok (.putfield 55, 3) := by decide +kernel
theorem dX10_begin_23 : decode cX10_begin 23 = .ok (.aload_n 0, 1) := by decide +kernel
theorem dX10_begin_24 : decode cX10_begin 24 = .ok (.iconst 0, 1) := by decide +kernel
theorem dX10_begin_25 : decode cX10_begin 25 = .ok (.putfield 58, 3) := by decide +kernel
theorem dX10_begin_28 : decode cX10_begin 28 = .ok (.return_, 1) := by decide +kernel
theorem dX10_copy_0 : decode cX10_copy 0 = .ok (.aload_n 0, 1) := by decide +kernel
theorem dX10_copy_1 : decode cX10_copy 1 = .ok (.iconst 0, 1) := by decide +kernel
theorem dX10_copy_2 : decode cX10_copy 2 = .ok (.aload_n 1, 1) := by decide +kernel
theorem dX10_copy_3 : decode cX10_copy 3 = .ok (.iconst 0, 1) := by decide +kernel
theorem dX10_copy_4 : decode cX10_copy 4 = .ok (.aload_n 1, 1) := by decide +kernel
theorem dX10_copy_5 : decode cX10_copy 5 = .ok (.arraylength, 1) := by decide +kernel
theorem dX10_copy_6 : decode cX10_copy 6 = .ok (.invokestatic 61, 3) := by decide +kernel
theorem dX10_copy_9 : decode cX10_copy 9 = .ok (.return_, 1) := by decide +kernel
theorem dX10_become_0 : decode cX10_become 0 = .ok (.aload_n 0, 1) := by decide +kernel
theorem dX10_become_1 : decode cX10_become 1 = .ok (.aload_n 1, 1) := by decide +kernel
theorem dX10_become_2 : decode cX10_become 2 = .ok (.getfield 52, 3) := by decide +kernel
theorem dX10_become_5 : decode cX10_become 5 = .ok (.putfield 52, 3) := by decide +kernel
theorem dX10_become_8 : decode cX10_become 8 = .ok (.aload_n 0, 1) := by decide +kernel
theorem dX10_become_9 : decode cX10_become 9 = .ok (.aload_n 1, 1) := by decide +kernel
theorem dX10_become_10 : decode cX10_become 10 = .ok (.getfield 9, 3) := by decide +kernel
theorem dX10_become_13 : decode cX10_become 13 = .ok (.putfield 9, 3) := by decide +kernel
theorem dX10_become_16 : decode cX10_become 16 = .ok (.aload_n 0, 1) := by decide +kernel
theorem dX10_become_17 : decode cX10_become 17 = .ok (.aload_n 1, 1) := by decide +kernel
theorem dX10_become_18 : decode cX10_become 18 = .ok (.getfield 15, 3) := by decide +kernel
theorem dX10_become_21 : decode cX10_become 21 = .ok (.putfield 15, 3) := by decide +kernel
theorem dX10_become_24 : decode cX10_become 24 = .ok (.aload_n 0, 1) := by decide +kernel
theorem dX10_become_25 : decode cX10_become 25 = .ok (.aload_n 1, 1) := by decide +kernel
theorem dX10_become_26 : decode cX10_become 26 = .ok (.getfield 55, 3) := by decide +kernel
theorem dX10_become_29 : decode cX10_become 29 = .ok (.putfield 55, 3) := by decide +kernel
theorem dX10_become_32 : decode cX10_become 32 = .ok (.aload_n 0, 1) := by decide +kernel
theorem dX10_become_33 : decode cX10_become 33 = .ok (.aload_n 1, 1) := by decide +kernel
theorem dX10_become_34 : decode cX10_become 34 = .ok (.getfield 58, 3) := by decide +kernel
theorem dX10_become_37 : decode cX10_become 37 = .ok (.putfield 58, 3) := by decide +kernel
theorem dX10_become_40 : decode cX10_become 40 = .ok (.aload_n 1, 1) := by decide +kernel
theorem dX10_become_41 : decode cX10_become 41 = .ok (.getfield 18, 3) := by decide +kernel
theorem dX10_become_44 : decode cX10_become 44 = .ok (.aload_n 0, 1) := by decide +kernel
theorem dX10_become_45 : decode cX10_become 45 = .ok (.getfield 18, 3) := by decide +kernel
theorem dX10_become_48 : decode cX10_become 48 = .ok (.invokestatic 67, 3) := by decide +kernel
theorem dX10_become_51 : decode cX10_become 51 = .ok (.aload_n 1, 1) := by decide +kernel
theorem dX10_become_52 : decode cX10_become 52 = .ok (.getfield 22, 3) := by decide +kernel
theorem dX10_become_55 : decode cX10_become 55 = .ok (.aload_n 0, 1) := by decide +kernel
theorem dX10_become_56 : decode cX10_become 56 = .ok (.getfield 22, 3) := by decide +kernel
theorem dX10_become_59 : decode cX10_become 59 = .ok (.invokestatic 67, 3) := by decide +kernel
theorem dX10_become_62 : decode cX10_become 62 = .ok (.aload_n 1, 1) := by decide +kernel
theorem dX10_become_63 : decode cX10_become 63 = .ok (.getfield 25, 3) := by decide +kernel
theorem dX10_become_66 : decode cX10_become 66 = .ok (.aload_n 0, 1) := by decide +kernel
theorem dX10_become_67 : decode cX10_become 67 = .ok (.getfield 25, 3) := by decide +kernel
theorem dX10_become_70 : decode cX10_become 70 = .ok (.invokestatic 67, 3) := by decide +kernel
theorem dX10_become_73 : decode cX10_become 73 = .ok (.aload_n 1, 1) := by decide +kernel
theorem dX10_become_74 : decode cX10_become 74 = .ok (.getfield 28, 3) := by decide +kernel
theorem dX10_become_77 : decode cX10_become 77 = .ok (.aload_n 0, 1) := by decide +kernel
theorem dX10_become_78 : decode cX10_become 78 = .ok (.getfield 28, 3) := by decide +kernel
theorem dX10_become_81 : decode cX10_become 81 = .ok (.invokestatic 67, 3) := by decide +kernel
theorem dX10_become_84 : decode cX10_become 84 = .ok (.aload_n 1, 1) := by decide +kernel
theorem dX10_become_85 : decode cX10_become 85 = .ok (.getfield 31, 3) := by decide +kernel
theorem dX10_become_88 : decode cX10_become 88 = .ok (.aload_n 0, 1) := by decide +kernel
theorem dX10_become_89 : decode cX10_become 89 = .ok (.getfield 31, 3) := by decide +kernel
theorem dX10_become_92 : decode cX10_become 92 = .ok (.invokestatic 67, 3) := by decide +kernel
theorem dX10_become_95 : decode cX10_become 95 = .ok (.aload_n 1, 1) := by decide +kernel
theorem dX10_become_96 : decode cX10_become 96 = .ok (.getfield 34, 3) := by decide +kernel
theorem dX10_become_99 : decode cX10_become 99 = .ok (.aload_n 0, 1) := by decide +kernel
theorem dX10_become_100 : decode cX10_become 100 = .ok (.getfield 34, 3) := by decide +kernel
theorem dX10_become_103 : decode cX10_become 103 = .ok (.invokestatic 67, 3) := by decide +kernel
theorem dX10_become_106 : decode cX10_become 106 = .ok (.aload_n 1, 1) := by decide +kernel
theorem dX10_become_107 : decode cX10_become 107 = .ok (.getfield 37, 3) := by decide +kernel
theorem dX10_become_110 : decode cX10_become 110 = .ok (.aload_n 0, 1) := by decide +kernel
theorem dX10_become_111 : decode cX10_become 111 = .ok (.getfield 37, 3) := by decide +kernel
theorem dX10_become_114 : decode cX10_become 114 = .ok (.invokestatic 67, 3) := by decide +kernel
theorem dX10_become_117 : decode cX10_become 117 = .ok (.aload_n 1, 1) := by decide +kernel
theorem dX10_become_118 : decode cX10_become 118 = .ok (.getfield 40, 3) := by decide +kernel
theorem dX10_become_121 : decode cX10_become 121 = .ok (.aload_n 0, 1) := by decide +kernel
theorem dX10_become_122 : decode cX10_become 122 = .ok (.getfield 40, 3) := by decide +kernel
theorem dX10_become_125 : decode cX10_become 125 = .ok (.invokestatic 67, 3) := by decide +kernel
theorem dX10_become_128 : decode cX10_become 128 = .ok (.aload_n 1, 1) := by decide +kernel
theorem dX10_become_129 : decode cX10_become 129 = .ok (.getfield 43, 3) := by decide +kernel
theorem dX10_become_132 : decode cX10_become 132 = .ok (.aload_n 0, 1) := by decide +kernel
theorem dX10_become_133 : decode cX10_become 133 = .ok (.getfield 43, 3) := by decide +kernel
theorem dX10_become_136 : decode cX10_become 136 = .ok (.invokestatic 67, 3) := by decide +kernel
theorem dX10_become_139 : decode cX10_become 139 = .ok (.aload_n 1, 1) := by decide +kernel
theorem dX10_become_140 : decode cX10_become 140 = .ok (.getfield 46, 3) := by decide +kernel
theorem dX10_become_143 : decode cX10_become 143 = .ok (.aload_n 0, 1) := by decide +kernel
theorem dX10_become_144 : decode cX10_become 144 = .ok (.getfield 46, 3) := by decide +kernel
theorem dX10_become_147 : decode cX10_become 147 = .ok (.invokestatic 67, 3) := by decide +kernel
theorem dX10_become_150 : decode cX10_become 150 = .ok (.aload_n 1, 1) := by decide +kernel
theorem dX10_become_151 : decode cX10_become 151 = .ok (.getfield 49, 3) := by decide +kernel
theorem dX10_become_154 : decode cX10_become 154 = .ok (.aload_n 0, 1) := by decide +kernel
theorem dX10_become_155 : decode cX10_become 155 = .ok (.getfield 49, 3) := by decide +kernel
theorem dX10_become_158 : decode cX10_become 158 = .ok (.invokestatic 67, 3) := by decide +kernel
theorem dX10_become_161 : decode cX10_become 161 = .ok (.return_, 1) := by decide +kernel
theorem dX11_init_0 : decode cX11_init 0 = .ok (.aload_n 0, 1) := by decide +kernel
theorem dX11_init_1 : decode cX11_init 1 = .ok (.invokespecial 1, 3) := by decide +kernel
theorem dX11_init_4 : decode cX11_init 4 = .ok (.aload_n 0, 1) := by decide +kernel
theorem dX11_init_5 : decode cX11_init 5 = .ok (.sipush 2000, 3) := by decide +kernel
theorem dX11_init_8 : decode cX11_init 8 = .ok (.newarray .int, 2) := by decide +kernel
theorem dX11_init_10 : decode cX11_init 10 = .ok (.putfield 9, 3) := by decide +kernel
theorem dX11_init_13 : decode cX11_init 13 = .ok (.aload_n 0, 1) := by decide +kernel
theorem dX11_init_14 : decode cX11_init 14 = .ok (.iconst (-1), 1) := by decide +kernel
theorem dX11_init_15 : decode cX11_init 15 = .ok (.putfield 13, 3) := by decide +kernel
theorem dX11_init_18 : decode cX11_init 18 = .ok (.aload_n 0, 1) := by decide +kernel
theorem dX11_init_19 : decode cX11_init 19 = .ok (.sipush 402, 3) := by decide +kernel
theorem dX11_init_22 : decode cX11_init 22 = .ok (.newarray .int, 2) := by decide +kernel
theorem dX11_init_24 : decode cX11_init 24 = .ok (.putfield 17, 3) := by decide +kernel
theorem dX11_init_27 : decode cX11_init 27 = .ok (.aload_n 0, 1) := by decide +kernel
theorem dX11_init_28 : decode cX11_init 28 = .ok (.sipush 402, 3) := by decide +kernel
theorem dX11_init_31 : decode cX11_init 31 = .ok (.newarray .int, 2) := by decide +kernel
theorem dX11_init_33 : decode cX11_init 33 = .ok (.putfield 20, 3) := by decide +kernel
theorem dX11_init_36 : decode cX11_init 36 = .ok (.aload_n 0, 1) := by decide +kernel
theorem dX11_init_37 : decode cX11_init 37 = .ok (.sipush 402, 3) := by decide +kernel
theorem dX11_init_40 : decode cX11_init 40 = .ok (.newarray .int, 2) := by decide +kernel
theorem dX11_init_42 : decode cX11_init 42 = .ok (.putfield 23, 3) := by decide +kernel
theorem dX11_init_45 : decode cX11_init 45 = .ok (.aload_n 0, 1) := by decide +kernel
theorem dX11_init_46 : decode cX11_init 46 = .ok (.sipush 402, 3) := by decide +kernel
theorem dX11_init_49 : decode cX11_init 49 = .ok (.newarray .int, 2) := by decide +kernel
theorem dX11_init_51 : decode cX11_init 51 = .ok (.putfield 26, 3) := by decide +kernel
theorem dX11_init_54 : decode cX11_init 54 = .ok (.aload_n 0, 1) := by decide +kernel
theorem dX11_init_55 : decode cX11_init 55 = .ok (.bipush 10, 2) := by decide +kernel
theorem dX11_init_57 : decode cX11_init 57 = .ok (.newarray .int, 2) := by decide +kernel
theorem dX11_init_59 : decode cX11_init 59 = .ok (.putfield 29, 3) := by decide +kernel
theorem dX11_init_62 : decode cX11_init 62 = .ok (.aload_n 0, 1) := by decide +kernel
theorem dX11_init_63 : decode cX11_init 63 = .ok (.new 32, 3) := by decide +kernel
theorem dX11_init_66 : decode cX11_init 66 = .ok (.dup, 1) := by decide +kernel
theorem dX11_init_67 : decode cX11_init 67 = .ok (.invokespecial 34, 3) := by decide +kernel
theorem dX11_init_70 : decode cX11_init 70 = .ok (.putfield 35, 3) := by decide +kernel
theorem dX11_init_73 : decode cX11_init 73 = .ok (.aload_n 0, 1) := by decide +kernel
theorem dX11_init_74 : decode cX11_init 74 = .ok (.new 32, 3) := by decide +kernel
theorem dX11_init_77 : decode cX11_init 77 = .ok (.dup, 1) := by decide +kernel
theorem dX11_init_78 : decode cX11_init 78 = .ok (.invokespecial 34, 3) := by decide +kernel
theorem dX11_init_81 : decode cX11_init 81 = .ok (.putfield 39, 3) := by decide +kernel
theorem dX11_init_84 : decode cX11_init 84 = .ok (.aload_n 0, 1) := by decide +kernel
theorem dX11_init_85 : decode cX11_init 85 = .ok (.sipush 800, 3) := by decide +kernel
theorem dX11_init_88 : decode cX11_init 88 = .ok (.newarray .int, 2) := by decide +kernel
theorem dX11_init_90 : decode cX11_init 90 = .ok (.putfield 42, 3) := by decide +kernel
theorem dX11_init_93 : decode cX11_init 93 = .ok (.aload_n 0, 1) := by decide +kernel
theorem dX11_init_94 : decode cX11_init 94 = .ok (.new 45, 3) := by decide +kernel
theorem dX11_init_97 : decode cX11_init 97 = .ok (.dup, 1) := by decide +kernel
theorem dX11_init_98 : decode cX11_init 98 = .ok (.invokespecial 47, 3) := by decide +kernel
theorem dX11_init_101 : decode cX11_init 101 = .ok (.putfield 48, 3) := by decide +kernel
theorem dX11_init_104 : decode cX11_init 104 = .ok (.aload_n 0, 1) := by decide +kernel
theorem dX11_init_105 : decode cX11_init 105 = .ok (.new 45, 3) := by decide +kernel
theorem dX11_init_108 : decode cX11_init 108 = .ok (.dup, 1) := by decide +kernel
theorem dX11_init_109 : decode cX11_init 109 = .ok (.invokespecial 47, 3) := by decide +kernel
theorem dX11_init_112 : decode cX11_init 112 = .ok (.putfield 52, 3) := by decide +kernel
theorem dX11_init_115 : decode cX11_init 115 = .ok (.aload_n 0, 1) := by decide +kernel
theorem dX11_init_116 : decode cX11_init 116 = .ok (.bipush 10, 2) := by decide +kernel
theorem dX11_init_118 : decode cX11_init 118 = .ok (.newarray .int, 2) := by decide +kernel
theorem dX11_init_120 : decode cX11_init 120 = .ok (.putfield 55, 3) := by decide +kernel
theorem dX11_init_123 : decode cX11_init 123 = .ok (.aload_n 0, 1) := by decide +kernel
theorem dX11_init_124 : decode cX11_init 124 = .ok (.bipush 10, 2) := by decide +kernel
theorem dX11_init_126 : decode cX11_init 126 = .ok (.newarray .int, 2) := by decide +kernel
theorem dX11_init_128 : decode cX11_init 128 = .ok (.putfield 58, 3) := by decide +kernel
theorem dX11_init_131 : decode cX11_init 131 = .ok (.aload_n 0, 1) := by decide +kernel
theorem dX11_init_132 : decode cX11_init 132 = .ok (.bipush 10, 2) := by decide +kernel
theorem dX11_init_134 : decode cX11_init 134 = .ok (.newarray .int, 2) := by decide +kernel
theorem dX11_init_136 : decode cX11_init 136 = .ok (.putfield 61, 3) := by decide +kernel
theorem dX11_init_139 : decode cX11_init 139 = .ok (.return_, 1) := by decide +kernel
theorem dX11_thrown_0 : decode cX11_thrown 0 = .ok (.aload_n 0, 1) := by decide +kernel
theorem dX11_thrown_1 : decode cX11_thrown 1 = .ok (.getfield 64, 3) := by decide +kernel
theorem dX11_thrown_4 : decode cX11_thrown 4 = .ok (.ireturn, 1) := by decide +kernel
theorem dX11_no_0 : decode cX11_no 0 = .ok (.aload_n 0, 1) := by decide +kernel
theorem dX11_no_1 : decode cX11_no 1 = .ok (.iload_n 1, 1) := by decide +kernel
theorem dX11_no_2 : decode cX11_no 2 = .ok (.putfield 64, 3) := by decide +kernel
theorem dX11_no_5 : decode cX11_no 5 = .ok (.iconst 0, 1) := by decide +kernel
theorem dX11_no_6 : decode cX11_no 6 = .ok (.ireturn, 1) := by decide +kernel
theorem dX11_ok_0 : decode cX11_ok 0 = .ok (.aload_n 0, 1) := by decide +kernel
theorem dX11_ok_1 : decode cX11_ok 1 = .ok (.iconst 0, 1) := by decide +kernel
theorem dX11_ok_2 : decode cX11_ok 2 = .ok (.putfield 64, 3) := by decide +kernel
theorem dX11_ok_5 : decode cX11_ok 5 = .ok (.iload_n 1, 1) := by decide +kernel
theorem dX11_ok_6 : decode cX11_ok 6 = .ok (.ireturn, 1) := by decide +kernel
theorem dX11_isIn_0 : decode cX11_isIn 0 = .ok (.iload_n 0, 1) := by decide +kernel
theorem dX11_isIn_1 : decode cX11_isIn 1 = .ok (.iload_n 1, 1) := by decide +kernel
theorem dX11_isIn_2 : decode cX11_isIn 2 = .ok (.if_icmp .lt 12, 3) := by decide +kernel
theorem dX11_isIn_5 : decode cX11_isIn 5 = .ok (.iload_n 0, 1) := by decide +kernel
theorem dX11_isIn_6 : decode cX11_isIn 6 = .ok (.iload_n 2, 1) := by decide +kernel
theorem dX11_isIn_7 : decode cX11_isIn 7 = .ok (.if_icmp .gt 7, 3) := by decide +kernel
theorem dX11_isIn_10 : decode cX11_isIn 10 = .ok (.iconst 1, 1) := by decide +kernel
theorem dX11_isIn_11 : decode cX11_isIn 11 = .ok (.goto 4, 3) := by decide +kernel
theorem dX11_isIn_14 : decode cX11_isIn 14 = .ok (.iconst 0, 1) := by decide +kernel
theorem dX11_isIn_15 : decode cX11_isIn 15 = .ok (.ireturn, 1) := by decide +kernel
theorem dX11_isLetter_0 : decode cX11_isLetter 0 = .ok (.iload_n 0, 1) := by decide +kernel
theorem dX11_isLetter_1 : decode cX11_isLetter 1 = .ok (.bipush 97, 2) := by decide +kernel
theorem dX11_isLetter_3 : decode cX11_isLetter 3 = .ok (.bipush 122, 2) := by decide +kernel
theorem dX11_isLetter_5 : decode cX11_isLetter 5 = .ok (.invokestatic 67, 3) := by decide +kernel
theorem dX11_isLetter_8 : decode cX11_isLetter 8 = .ok (.ireturn, 1) := by decide +kernel
theorem dX11_isDigit_0 : decode cX11_isDigit 0 = .ok (.iload_n 0, 1) := by decide +kernel
theorem dX11_isDigit_1 : decode cX11_isDigit 1 = .ok (.bipush 48, 2) := by decide +kernel
theorem dX11_isDigit_3 : decode cX11_isDigit 3 = .ok (.bipush 57, 2) := by decide +kernel
theorem dX11_isDigit_5 : decode cX11_isDigit 5 = .ok (.invokestatic 67, 3) := by decide +kernel
theorem dX11_isDigit_8 : decode cX11_isDigit 8 = .ok (.ireturn, 1) := by decide +kernel
theorem dX11_byteAt_0 : decode cX11_byteAt 0 = .ok (.iload_n 1, 1) := by decide +kernel
theorem dX11_byteAt_1 : decode cX11_byteAt 1 = .ok (.aload_n 0, 1) := by decide +kernel
theorem dX11_byteAt_2 : decode cX11_byteAt 2 = .ok (.getfield 71, 3) := by decide +kernel
theorem dX11_byteAt_5 : decode cX11_byteAt 5 = .ok (.if_icmp .ge 12, 3) := by decide +kernel
theorem dX11_byteAt_8 : decode cX11_byteAt 8 = .ok (.aload_n 0, 1) := by decide +kernel
theorem dX11_byteAt_9 : decode cX11_byteAt 9 = .ok (.getfield 9, 3) := by decide +kernel
theorem dX11_byteAt_12 : decode cX11_byteAt 12 = .ok (.iload_n 1, 1) := by decide +kernel
theorem dX11_byteAt_13 : decode cX11_byteAt 13 = .ok (.iaload, 1) := by decide +kernel
theorem dX11_byteAt_14 : decode cX11_byteAt 14 = .ok (.goto 4, 3) := by decide +kernel
theorem dX11_byteAt_17 : decode cX11_byteAt 17 = .ok (.iconst (-1), 1) := by decide +kernel
theorem dX11_byteAt_18 : decode cX11_byteAt 18 = .ok (.ireturn, 1) := by decide +kernel
theorem dX11_isWord_0 : decode cX11_isWord 0 = .ok (.aload_n 3, 1) := by decide +kernel
theorem dX11_isWord_1 : decode cX11_isWord 1 = .ok (.invokevirtual 74, 3) := by decide +kernel
theorem dX11_isWord_4 : decode cX11_isWord 4 = .ok (.iload_n 2, 1) := by decide +kernel
theorem dX11_isWord_5 : decode cX11_isWord 5 = .ok (.if_icmp .eq 5, 3) := by decide +kernel
theorem dX11_isWord_8 : decode cX11_isWord 8 = .ok (.iconst 0, 1) := by decide +kernel
theorem dX11_isWord_9 : decode cX11_isWord 9 = .ok (.ireturn, 1) := by decide +kernel
theorem dX11_isWord_10 : decode cX11_isWord 10 = .ok (.iconst 0, 1) := by decide +kernel
theorem dX11_isWord_11 : decode cX11_isWord 11 = .ok (.istore 4, 2) := by decide +kernel
theorem dX11_isWord_13 : decode cX11_isWord 13 = .ok (.iload 4, 2) := by decide +kernel
theorem dX11_isWord_15 : decode cX11_isWord 15 = .ok (.iload_n 2, 1) := by decide +kernel
theorem dX11_isWord_16 : decode cX11_isWord 16 = .ok (.if_icmp .ge 29, 3) := by decide +kernel
theorem dX11_isWord_19 : decode cX11_isWord 19 = .ok (.aload_n 3, 1) := by decide +kernel
theorem dX11_isWord_20 : decode cX11_isWord 20 = .ok (.iload 4, 2) := by decide +kernel
theorem dX11_isWord_22 : decode cX11_isWord 22 = .ok (.invokevirtual 79, 3) := by decide +kernel
theorem dX11_isWord_25 : decode cX11_isWord 25 = .ok (.aload_n 0, 1) := by decide +kernel
theorem dX11_isWord_26 : decode cX11_isWord 26 = .ok (.getfield 9, 3) := by decide +kernel
theorem dX11_isWord_29 : decode cX11_isWord 29 = .ok (.iload_n 1, 1) := by decide +kernel
theorem dX11_isWord_30 : decode cX11_isWord 30 = .ok (.iload 4, 2) := by decide +kernel
theorem dX11_isWord_32 : decode cX11_isWord 32 = .ok (.iadd, 1) := by decide +kernel
theorem dX11_isWord_33 : decode cX11_isWord 33 = .ok (.iaload, 1) := by decide +kernel
theorem dX11_isWord_34 : decode cX11_isWord 34 = .ok (.if_icmp .eq 5, 3) := by decide +kernel
theorem dX11_isWord_37 : decode cX11_isWord 37 = .ok (.iconst 0, 1) := by decide +kernel
theorem dX11_isWord_38 : decode cX11_isWord 38 = .ok (.ireturn, 1) := by decide +kernel
theorem dX11_isWord_39 : decode cX11_isWord 39 = .ok (.iinc 4 1, 3) := by decide +kernel
theorem dX11_isWord_42 : decode cX11_isWord 42 = .ok (.goto (-29), 3) := by decide +kernel
theorem dX11_isWord_45 : decode cX11_isWord 45 = .ok (.iconst 1, 1) := by decide +kernel
theorem dX11_isWord_46 : decode cX11_isWord 46 = .ok (.ireturn, 1) := by decide +kernel
theorem dX11_keyword_0 : decode cX11_keyword 0 = .ok (.iconst 0, 1) := by decide +kernel
theorem dX11_keyword_1 : decode cX11_keyword 1 = .ok (.istore_n 3, 1) := by decide +kernel
theorem dX11_keyword_2 : decode cX11_keyword 2 = .ok (.iload_n 3, 1) := by decide +kernel
theorem dX11_keyword_3 : decode cX11_keyword 3 = .ok (.getstatic 83, 3) := by decide +kernel
theorem dX11_keyword_6 : decode cX11_keyword 6 = .ok (.arraylength, 1) := by decide +kernel
theorem dX11_keyword_7 : decode cX11_keyword 7 = .ok (.if_icmp .ge 25, 3) := by decide +kernel
theorem dX11_keyword_10 : decode cX11_keyword 10 = .ok (.aload_n 0, 1) := by decide +kernel
theorem dX11_keyword_11 : decode cX11_keyword 11 = .ok (.iload_n 1, 1) := by decide +kernel
theorem dX11_keyword_12 : decode cX11_keyword 12 = .ok (.iload_n 2, 1) := by decide +kernel
theorem dX11_keyword_13 : decode cX11_keyword 13 = .ok (.getstatic 83, 3) := by decide +kernel
theorem dX11_keyword_16 : decode cX11_keyword 16 = .ok (.iload_n 3, 1) := by decide +kernel
theorem dX11_keyword_17 : decode cX11_keyword 17 = .ok (.aaload, 1) := by decide +kernel
theorem dX11_keyword_18 : decode cX11_keyword 18 = .ok (.invokevirtual 87, 3) := by decide +kernel
theorem dX11_keyword_21 : decode cX11_keyword 21 = .ok (.ifCond .eq 5, 3) := by decide +kernel
theorem dX11_keyword_24 : decode cX11_keyword 24 = .ok (.iload_n 3, 1) := by decide +kernel
theorem dX11_keyword_25 : decode cX11_keyword 25 = .ok (.ireturn, 1) := by decide +kernel
theorem dX11_keyword_26 : decode cX11_keyword 26 = .ok (.iinc 3 1, 3) := by decide +kernel
theorem dX11_keyword_29 : decode cX11_keyword 29 = .ok (.goto (-27), 3) := by decide +kernel
theorem dX11_keyword_32 : decode cX11_keyword 32 = .ok (.iload_n 2, 1) := by decide +kernel
theorem dX11_keyword_33 : decode cX11_keyword 33 = .ok (.bipush 10, 2) := by decide +kernel
theorem dX11_keyword_35 : decode cX11_keyword 35 = .ok (.if_icmp .le 8, 3) := by decide +kernel
theorem dX11_keyword_38 : decode cX11_keyword 38 = .ok (.bipush 32, 2) := by decide +kernel
theorem dX11_keyword_40 : decode cX11_keyword 40 = .ok (.goto 5, 3) := by decide +kernel
theorem dX11_keyword_43 : decode cX11_keyword 43 = .ok (.bipush 30, 2) := by decide +kernel
theorem dX11_keyword_45 : decode cX11_keyword 45 = .ok (.ireturn, 1) := by decide +kernel
theorem dX11_symbol_0 : decode cX11_symbol 0 = .ok (.iload_n 0, 1) := by decide +kernel
theorem dX11_symbol_1 : decode cX11_symbol 1 = .ok (.tableswitch 270 40 93 #[231, 234, 255, 249, 246, 252, 270, 258, 270, 270, 270, 270, 270, 270, 270, 270, 270, 270, 270, 243, 261, 267, 264, 270, 270, 270, 270, 270, 270, 270, 270, 270, 270, 270, 270, 270, 270, 270, 270, 270, 270, 270, 270, 270, 270, 270, 270, 270, 270, 270, 270, 237, 270, 240], 231) := by decide +kernel
theorem dX11_symbol_232 : decode cX11_symbol 232 = .ok (.bipush 49, 2) := by decide +kernel
theorem dX11_symbol_234 : decode cX11_symbol 234 = .ok (.ireturn, 1) := by decide +kernel
theorem dX11_symbol_235 : decode cX11_symbol 235 = .ok (.bipush 50, 2) := by decide +kernel
theorem dX11_symbol_237 : decode cX11_symbol 237 = .ok (.ireturn, 1) := by decide +kernel
theorem dX11_symbol_238 : decode cX11_symbol 238 = .ok (.bipush 51, 2) := by decide +kernel
theorem dX11_symbol_240 : decode cX11_symbol 240 = .ok (.ireturn, 1) := by decide +kernel
theorem dX11_symbol_241 : decode cX11_symbol 241 = .ok (.bipush 52, 2) := by decide +kernel
theorem dX11_symbol_243 : decode cX11_symbol 243 = .ok (.ireturn, 1) := by decide +kernel
theorem dX11_symbol_244 : decode cX11_symbol 244 = .ok (.bipush 53, 2) := by decide +kernel
theorem dX11_symbol_246 : decode cX11_symbol 246 = .ok (.ireturn, 1) := by decide +kernel
theorem dX11_symbol_247 : decode cX11_symbol 247 = .ok (.bipush 54, 2) := by decide +kernel
theorem dX11_symbol_249 : decode cX11_symbol 249 = .ok (.ireturn, 1) := by decide +kernel
theorem dX11_symbol_250 : decode cX11_symbol 250 = .ok (.bipush 40, 2) := by decide +kernel
theorem dX11_symbol_252 : decode cX11_symbol 252 = .ok (.ireturn, 1) := by decide +kernel
theorem dX11_symbol_253 : decode cX11_symbol 253 = .ok (.bipush 41, 2) := by decide +kernel
theorem dX11_symbol_255 : decode cX11_symbol 255 = .ok (.ireturn, 1) := by decide +kernel
theorem dX11_symbol_256 : decode cX11_symbol 256 = .ok (.bipush 42, 2) := by decide +kernel
theorem dX11_symbol_258 : decode cX11_symbol 258 = .ok (.ireturn, 1) := by decide +kernel
theorem dX11_symbol_259 : decode cX11_symbol 259 = .ok (.bipush 43, 2) := by decide +kernel
theorem dX11_symbol_261 : decode cX11_symbol 261 = .ok (.ireturn, 1) := by decide +kernel
theorem dX11_symbol_262 : decode cX11_symbol 262 = .ok (.bipush 44, 2) := by decide +kernel
theorem dX11_symbol_264 : decode cX11_symbol 264 = .ok (.ireturn, 1) := by decide +kernel
theorem dX11_symbol_265 : decode cX11_symbol 265 = .ok (.bipush 45, 2) := by decide +kernel
theorem dX11_symbol_267 : decode cX11_symbol 267 = .ok (.ireturn, 1) := by decide +kernel
theorem dX11_symbol_268 : decode cX11_symbol 268 = .ok (.bipush 46, 2) := by decide +kernel
theorem dX11_symbol_270 : decode cX11_symbol 270 = .ok (.ireturn, 1) := by decide +kernel
theorem dX11_symbol_271 : decode cX11_symbol 271 = .ok (.bipush 32, 2) := by decide +kernel
theorem dX11_symbol_273 : decode cX11_symbol 273 = .ok (.ireturn, 1) := by decide +kernel
theorem dX11_read_0 : decode cX11_read 0 = .ok (.aload_n 0, 1) := by decide +kernel
theorem dX11_read_1 : decode cX11_read 1 = .ok (.getfield 9, 3) := by decide +kernel
theorem dX11_read_4 : decode cX11_read 4 = .ok (.iload_n 1, 1) := by decide +kernel
theorem dX11_read_5 : decode cX11_read 5 = .ok (.iaload, 1) := by decide +kernel
theorem dX11_read_6 : decode cX11_read 6 = .ok (.istore_n 3, 1) := by decide +kernel
theorem dX11_read_7 : decode cX11_read 7 = .ok (.iload_n 1, 1) := by decide +kernel
theorem dX11_read_8 : decode cX11_read 8 = .ok (.iconst 1, 1) := by decide +kernel
theorem dX11_read_9 : decode cX11_read 9 = .ok (.iadd, 1) := by decide +kernel
theorem dX11_read_10 : decode cX11_read 10 = .ok (.istore 4, 2) := by decide +kernel
theorem dX11_read_12 : decode cX11_read 12 = .ok (.aload_n 0, 1) := by decide +kernel
theorem dX11_read_13 : decode cX11_read 13 = .ok (.getfield 23, 3) := by decide +kernel
theorem dX11_read_16 : decode cX11_read 16 = .ok (.iload_n 2, 1) := by decide +kernel
theorem dX11_read_17 : decode cX11_read 17 = .ok (.iload_n 1, 1) := by decide +kernel
theorem dX11_read_18 : decode cX11_read 18 = .ok (.iastore, 1) := by decide +kernel
theorem dX11_read_19 : decode cX11_read 19 = .ok (.iload_n 3, 1) := by decide +kernel
theorem dX11_read_20 : decode cX11_read 20 = .ok (.invokestatic 91, 3) := by decide +kernel
theorem dX11_read_23 : decode cX11_read 23 = .ok (.ifCond .eq 51, 3) := by decide +kernel
theorem dX11_read_26 : decode cX11_read 26 = .ok (.aload_n 0, 1) := by decide +kernel
theorem dX11_read_27 : decode cX11_read 27 = .ok (.iload 4, 2) := by decide +kernel
theorem dX11_read_29 : decode cX11_read 29 = .ok (.invokevirtual 95, 3) := by decide +kernel
theorem dX11_read_32 : decode cX11_read 32 = .ok (.invokestatic 91, 3) := by decide +kernel
theorem dX11_read_35 : decode cX11_read 35 = .ok (.ifCond .ne 15, 3) := by decide +kernel
theorem dX11_read_38 : decode cX11_read 38 = .ok (.aload_n 0, 1) := by decide +kernel
theorem dX11_read_39 : decode cX11_read 39 = .ok (.iload 4, 2) := by decide +kernel
theorem dX11_read_41 : decode cX11_read 41 = .ok (.invokevirtual 95, 3) := by decide +kernel
theorem dX11_read_44 : decode cX11_read 44 = .ok (.invokestatic 99, 3) := by decide +kernel
theorem dX11_read_47 : decode cX11_read 47 = .ok (.ifCond .eq 9, 3) := by decide +kernel
theorem dX11_read_50 : decode cX11_read 50 = .ok (.iinc 4 1, 3) := by decide +kernel
theorem dX11_read_53 : decode cX11_read 53 = .ok (.goto (-27), 3) := by decide +kernel
theorem dX11_read_56 : decode cX11_read 56 = .ok (.aload_n 0, 1) := by decide +kernel
theorem dX11_read_57 : decode cX11_read 57 = .ok (.getfield 17, 3) := by decide +kernel
theorem dX11_read_60 : decode cX11_read 60 = .ok (.iload_n 2, 1) := by decide +kernel
theorem dX11_read_61 : decode cX11_read 61 = .ok (.aload_n 0, 1) := by decide +kernel
theorem dX11_read_62 : decode cX11_read 62 = .ok (.iload_n 1, 1) := by decide +kernel
theorem dX11_read_63 : decode cX11_read 63 = .ok (.iload 4, 2) := by decide +kernel
theorem dX11_read_65 : decode cX11_read 65 = .ok (.iload_n 1, 1) := by decide +kernel
theorem dX11_read_66 : decode cX11_read 66 = .ok (.isub, 1) := by decide +kernel
theorem dX11_read_67 : decode cX11_read 67 = .ok (.invokevirtual 102, 3) := by decide +kernel
theorem dX11_read_70 : decode cX11_read 70 = .ok (.iastore, 1) := by decide +kernel
theorem dX11_read_71 : decode cX11_read 71 = .ok (.goto 168, 3) := by decide +kernel
theorem dX11_read_74 : decode cX11_read 74 = .ok (.iload_n 3, 1) := by decide +kernel
theorem dX11_read_75 : decode cX11_read 75 = .ok (.invokestatic 99, 3) := by decide +kernel
theorem dX11_read_78 : decode cX11_read 78 = .ok (.ifCond .eq 91, 3) := by decide +kernel
theorem dX11_read_81 : decode cX11_read 81 = .ok (.iload_n 3, 1) := by decide +kernel
theorem dX11_read_82 : decode cX11_read 82 = .ok (.bipush 48, 2) := by decide +kernel
theorem dX11_read_84 : decode cX11_read 84 = .ok (.isub, 1) := by decide +kernel
theorem dX11_read_85 : decode cX11_read 85 = .ok (.istore 5, 2) := by decide +kernel
theorem dX11_read_87 : decode cX11_read 87 = .ok (.aload_n 0, 1) := by decide +kernel
theorem dX11_read_88 : decode cX11_read 88 = .ok (.iload 4, 2) := by decide +kernel
theorem dX11_read_90 : decode cX11_read 90 = .ok (.invokevirtual 95, 3) := by decide +kernel
theorem dX11_read_93 : decode cX11_read 93 = .ok (.invokestatic 99, 3) := by decide +kernel
theorem dX11_read_96 : decode cX11_read 96 = .ok (.ifCond .eq 40, 3) := by decide +kernel
theorem dX11_read_99 : decode cX11_read 99 = .ok (.iload 4, 2) := by decide +kernel
theorem dX11_read_101 : decode cX11_read 101 = .ok (.iload_n 1, 1) := by decide +kernel
theorem dX11_read_102 : decode cX11_read 102 = .ok (.isub, 1) := by decide +kernel
theorem dX11_read_103 : decode cX11_read 103 = .ok (.bipush 7, 2) := by decide +kernel
theorem dX11_read_105 : decode cX11_read 105 = .ok (.if_icmp .ge 21, 3) := by decide +kernel
theorem dX11_read_108 : decode cX11_read 108 = .ok (.bipush 10, 2) := by decide +kernel
theorem dX11_read_110 : decode cX11_read 110 = .ok (.iload 5, 2) := by decide +kernel
theorem dX11_read_112 : decode cX11_read 112 = .ok (.imul, 1) := by decide +kernel
theorem dX11_read_113 : decode cX11_read 113 = .ok (.aload_n 0, 1) := by decide +kernel
theorem dX11_read_114 : decode cX11_read 114 = .ok (.iload 4, 2) := by decide +kernel
theorem dX11_read_116 : decode cX11_read 116 = .ok (.invokevirtual 95, 3) := by decide +kernel
theorem dX11_read_119 : decode cX11_read 119 = .ok (.iadd, 1) := by decide +kernel
theorem dX11_read_120 : decode cX11_read 120 = .ok (.bipush 48, 2) := by decide +kernel
theorem dX11_read_122 : decode cX11_read 122 = .ok (.isub, 1) := by decide +kernel
theorem dX11_read_123 : decode cX11_read 123 = .ok (.goto 5, 3) := by decide +kernel
theorem dX11_read_126 : decode cX11_read 126 = .ok (.iload 5, 2) := by decide +kernel
theorem dX11_read_128 : decode cX11_read 128 = .ok (.istore 5, 2) := by decide +kernel
theorem dX11_read_130 : decode cX11_read 130 = .ok (.iinc 4 1, 3) := by decide +kernel
theorem dX11_read_133 : decode cX11_read 133 = .ok (.goto (-46), 3) := by decide +kernel
theorem dX11_read_136 : decode cX11_read 136 = .ok (.aload_n 0, 1) := by decide +kernel
theorem dX11_read_137 : decode cX11_read 137 = .ok (.getfield 20, 3) := by decide +kernel
theorem dX11_read_140 : decode cX11_read 140 = .ok (.iload_n 2, 1) := by decide +kernel
theorem dX11_read_141 : decode cX11_read 141 = .ok (.iload 5, 2) := by decide +kernel
theorem dX11_read_143 : decode cX11_read 143 = .ok (.iastore, 1) := by decide +kernel
theorem dX11_read_144 : decode cX11_read 144 = .ok (.aload_n 0, 1) := by decide +kernel
theorem dX11_read_145 : decode cX11_read 145 = .ok (.getfield 17, 3) := by decide +kernel
theorem dX11_read_148 : decode cX11_read 148 = .ok (.iload_n 2, 1) := by decide +kernel
theorem dX11_read_149 : decode cX11_read 149 = .ok (.iload 4, 2) := by decide +kernel
theorem dX11_read_151 : decode cX11_read 151 = .ok (.iload_n 1, 1) := by decide +kernel
theorem dX11_read_152 : decode cX11_read 152 = .ok (.isub, 1) := by decide +kernel
theorem dX11_read_153 : decode cX11_read 153 = .ok (.bipush 6, 2) := by decide +kernel
theorem dX11_read_155 : decode cX11_read 155 = .ok (.if_icmp .le 8, 3) := by decide +kernel
theorem dX11_read_158 : decode cX11_read 158 = .ok (.bipush 32, 2) := by decide +kernel
theorem dX11_read_160 : decode cX11_read 160 = .ok (.goto 5, 3) := by decide +kernel
theorem dX11_read_163 : decode cX11_read 163 = .ok (.bipush 31, 2) := by decide +kernel
theorem dX11_read_165 : decode cX11_read 165 = .ok (.iastore, 1) := by decide +kernel
theorem dX11_read_166 : decode cX11_read 166 = .ok (.goto 73, 3) := by decide +kernel
theorem dX11_read_169 : decode cX11_read 169 = .ok (.aload_n 0, 1) := by decide +kernel
theorem dX11_read_170 : decode cX11_read 170 = .ok (.getfield 17, 3) := by decide +kernel
theorem dX11_read_173 : decode cX11_read 173 = .ok (.iload_n 2, 1) := by decide +kernel
theorem dX11_read_174 : decode cX11_read 174 = .ok (.iload_n 3, 1) := by decide +kernel
theorem dX11_read_175 : decode cX11_read 175 = .ok (.invokestatic 106, 3) := by decide +kernel
theorem dX11_read_178 : decode cX11_read 178 = .ok (.iastore, 1) := by decide +kernel
theorem dX11_read_179 : decode cX11_read 179 = .ok (.aload_n 0, 1) := by decide +kernel
theorem dX11_read_180 : decode cX11_read 180 = .ok (.getfield 17, 3) := by decide +kernel
theorem dX11_read_183 : decode cX11_read 183 = .ok (.iload_n 2, 1) := by decide +kernel
theorem dX11_read_184 : decode cX11_read 184 = .ok (.iaload, 1) := by decide +kernel
theorem dX11_read_185 : decode cX11_read 185 = .ok (.bipush 44, 2) := by decide +kernel
theorem dX11_read_187 : decode cX11_read 187 = .ok (.if_icmp .eq 14, 3) := by decide +kernel
theorem dX11_read_190 : decode cX11_read 190 = .ok (.aload_n 0, 1) := by decide +kernel
theorem dX11_read_191 : decode cX11_read 191 = .ok (.getfield 17, 3) := by decide +kernel
theorem dX11_read_194 : decode cX11_read 194 = .ok (.iload_n 2, 1) := by decide +kernel
theorem dX11_read_195 : decode cX11_read 195 = .ok (.iaload, 1) := by decide +kernel
theorem dX11_read_196 : decode cX11_read 196 = .ok (.bipush 45, 2) := by decide +kernel
theorem dX11_read_198 : decode cX11_read 198 = .ok (.if_icmp .ne 41, 3) := by decide +kernel
theorem dX11_read_201 : decode cX11_read 201 = .ok (.aload_n 0, 1) := by decide +kernel
theorem dX11_read_202 : decode cX11_read 202 = .ok (.iload 4, 2) := by decide +kernel
theorem dX11_read_204 : decode cX11_read 204 = .ok (.invokevirtual 95, 3) := by decide +kernel
theorem dX11_read_207 : decode cX11_read 207 = .ok (.bipush 61, 2) := by decide +kernel
theorem dX11_read_209 : decode cX11_read 209 = .ok (.if_icmp .ne 30, 3) := by decide +kernel
theorem dX11_read_212 : decode cX11_read 212 = .ok (.aload_n 0, 1) := by decide +kernel
theorem dX11_read_213 : decode cX11_read 213 = .ok (.getfield 17, 3) := by decide +kernel
theorem dX11_read_216 : decode cX11_read 216 = .ok (.iload_n 2, 1) := by decide +kernel
theorem dX11_read_217 : decode cX11_read 217 = .ok (.aload_n 0, 1) := by decide +kernel
theorem dX11_read_218 : decode cX11_read 218 = .ok (.getfield 17, 3) := by decide +kernel
theorem dX11_read_221 : decode cX11_read 221 = .ok (.iload_n 2, 1) := by decide +kernel
theorem dX11_read_222 : decode cX11_read 222 = .ok (.iaload, 1) := by decide +kernel
theorem dX11_read_223 : decode cX11_read 223 = .ok (.bipush 44, 2) := by decide +kernel
theorem dX11_read_225 : decode cX11_read 225 = .ok (.if_icmp .ne 8, 3) := by decide +kernel
theorem dX11_read_228 : decode cX11_read 228 = .ok (.bipush 47, 2) := by decide +kernel
theorem dX11_read_230 : decode cX11_read 230 = .ok (.goto 5, 3) := by decide +kernel
theorem dX11_read_233 : decode cX11_read 233 = .ok (.bipush 48, 2) := by decide +kernel
theorem dX11_read_235 : decode cX11_read 235 = .ok (.iastore, 1) := by decide +kernel
theorem dX11_read_236 : decode cX11_read 236 = .ok (.iinc 4 1, 3) := by decide +kernel
theorem dX11_read_239 : decode cX11_read 239 = .ok (.aload_n 0, 1) := by decide +kernel
theorem dX11_read_240 : decode cX11_read 240 = .ok (.getfield 26, 3) := by decide +kernel
theorem dX11_read_243 : decode cX11_read 243 = .ok (.iload_n 2, 1) := by decide +kernel
theorem dX11_read_244 : decode cX11_read 244 = .ok (.iload 4, 2) := by decide +kernel
theorem dX11_read_246 : decode cX11_read 246 = .ok (.iload_n 1, 1) := by decide +kernel
theorem dX11_read_247 : decode cX11_read 247 = .ok (.isub, 1) := by decide +kernel
theorem dX11_read_248 : decode cX11_read 248 = .ok (.iastore, 1) := by decide +kernel
theorem dX11_read_249 : decode cX11_read 249 = .ok (.iload 4, 2) := by decide +kernel
theorem dX11_read_251 : decode cX11_read 251 = .ok (.ireturn, 1) := by decide +kernel
theorem dX11_skip_0 : decode cX11_skip 0 = .ok (.iload_n 1, 1) := by decide +kernel
theorem dX11_skip_1 : decode cX11_skip 1 = .ok (.istore_n 2, 1) := by decide +kernel
theorem dX11_skip_2 : decode cX11_skip 2 = .ok (.aload_n 0, 1) := by decide +kernel
theorem dX11_skip_3 : decode cX11_skip 3 = .ok (.iload_n 2, 1) := by decide +kernel
theorem dX11_skip_4 : decode cX11_skip 4 = .ok (.invokevirtual 95, 3) := by decide +kernel
theorem dX11_skip_7 : decode cX11_skip 7 = .ok (.bipush 32, 2) := by decide +kernel
theorem dX11_skip_9 : decode cX11_skip 9 = .ok (.if_icmp .eq 13, 3) := by decide +kernel
theorem dX11_skip_12 : decode cX11_skip 12 = .ok (.aload_n 0, 1) := by decide +kernel
theorem dX11_skip_13 : decode cX11_skip 13 = .ok (.iload_n 2, 1) := by decide +kernel
theorem dX11_skip_14 : decode cX11_skip 14 = .ok (.invokevirtual 95, 3) := by decide +kernel
theorem dX11_skip_17 : decode cX11_skip 17 = .ok (.bipush 10, 2) := by decide +kernel
theorem dX11_skip_19 : decode cX11_skip 19 = .ok (.if_icmp .ne 9, 3) := by decide +kernel
theorem dX11_skip_22 : decode cX11_skip 22 = .ok (.iinc 2 1, 3) := by decide +kernel
theorem dX11_skip_25 : decode cX11_skip 25 = .ok (.goto (-23), 3) := by decide +kernel
theorem dX11_skip_28 : decode cX11_skip 28 = .ok (.iload_n 2, 1) := by decide +kernel
theorem dX11_skip_29 : decode cX11_skip 29 = .ok (.ireturn, 1) := by decide +kernel
theorem dX11_readAll_0 : decode cX11_readAll 0 = .ok (.aload_n 0, 1) := by decide +kernel
theorem dX11_readAll_1 : decode cX11_readAll 1 = .ok (.iconst 0, 1) := by decide +kernel
theorem dX11_readAll_2 : decode cX11_readAll 2 = .ok (.invokevirtual 109, 3) := by decide +kernel
theorem dX11_readAll_5 : decode cX11_readAll 5 = .ok (.istore_n 1, 1) := by decide +kernel
theorem dX11_readAll_6 : decode cX11_readAll 6 = .ok (.iconst 0, 1) := by decide +kernel
theorem dX11_readAll_7 : decode cX11_readAll 7 = .ok (.istore_n 2, 1) := by decide +kernel
theorem dX11_readAll_8 : decode cX11_readAll 8 = .ok (.iload_n 1, 1) := by decide +kernel
theorem dX11_readAll_9 : decode cX11_readAll 9 = .ok (.aload_n 0, 1) := by decide +kernel
theorem dX11_readAll_10 : decode cX11_readAll 10 = .ok (.getfield 71, 3) := by decide +kernel
theorem dX11_readAll_13 : decode cX11_readAll 13 = .ok (.if_icmp .ge 52, 3) := by decide +kernel
theorem dX11_readAll_16 : decode cX11_readAll 16 = .ok (.iload_n 2, 1) := by decide +kernel
theorem dX11_readAll_17 : decode cX11_readAll 17 = .ok (.ifCond .eq 16, 3) := by decide +kernel
theorem dX11_readAll_20 : decode cX11_readAll 20 = .ok (.aload_n 0, 1) := by decide +kernel
theorem dX11_readAll_21 : decode cX11_readAll 21 = .ok (.getfield 17, 3) := by decide +kernel
theorem dX11_readAll_24 : decode cX11_readAll 24 = .ok (.iload_n 2, 1) := by decide +kernel
theorem dX11_readAll_25 : decode cX11_readAll 25 = .ok (.iconst 1, 1) := by decide +kernel
theorem dX11_readAll_26 : decode cX11_readAll 26 = .ok (.isub, 1) := by decide +kernel
theorem dX11_readAll_27 : decode cX11_readAll 27 = .ok (.iaload, 1) := by decide +kernel
theorem dX11_readAll_28 : decode cX11_readAll 28 = .ok (.bipush 32, 2) := by decide +kernel
theorem dX11_readAll_30 : decode cX11_readAll 30 = .ok (.if_icmp .eq 35, 3) := by decide +kernel
theorem dX11_readAll_33 : decode cX11_readAll 33 = .ok (.aload_n 0, 1) := by decide +kernel
theorem dX11_readAll_34 : decode cX11_readAll 34 = .ok (.aload_n 0, 1) := by decide +kernel
theorem dX11_readAll_35 : decode cX11_readAll 35 = .ok (.iload_n 1, 1) := by decide +kernel
theorem dX11_readAll_36 : decode cX11_readAll 36 = .ok (.iload_n 2, 1) := by decide +kernel
theorem dX11_readAll_37 : decode cX11_readAll 37 = .ok (.invokevirtual 112, 3) := by decide +kernel
theorem dX11_readAll_40 : decode cX11_readAll 40 = .ok (.invokevirtual 109, 3) := by decide +kernel
theorem dX11_readAll_43 : decode cX11_readAll 43 = .ok (.istore_n 1, 1) := by decide +kernel
theorem dX11_readAll_44 : decode cX11_readAll 44 = .ok (.iload_n 2, 1) := by decide +kernel
theorem dX11_readAll_45 : decode cX11_readAll 45 = .ok (.sipush 400, 3) := by decide +kernel
theorem dX11_readAll_48 : decode cX11_readAll 48 = .ok (.if_icmp .ne 11, 3) := by decide +kernel
theorem dX11_readAll_51 : decode cX11_readAll 51 = .ok (.aload_n 0, 1) := by decide +kernel
theorem dX11_readAll_52 : decode cX11_readAll 52 = .ok (.getfield 17, 3) := by decide +kernel
theorem dX11_readAll_55 : decode cX11_readAll 55 = .ok (.iload_n 2, 1) := by decide +kernel
theorem dX11_readAll_56 : decode cX11_readAll 56 = .ok (.bipush 32, 2) := by decide +kernel
theorem dX11_readAll_58 : decode cX11_readAll 58 = .ok (.iastore, 1) := by decide +kernel
theorem dX11_readAll_59 : decode cX11_readAll 59 = .ok (.iinc 2 1, 3) := by decide +kernel
theorem dX11_readAll_62 : decode cX11_readAll 62 = .ok (.goto (-54), 3) := by decide +kernel
theorem dX11_readAll_65 : decode cX11_readAll 65 = .ok (.aload_n 0, 1) := by decide +kernel
theorem dX11_readAll_66 : decode cX11_readAll 66 = .ok (.getfield 17, 3) := by decide +kernel
theorem dX11_readAll_69 : decode cX11_readAll 69 = .ok (.iload_n 2, 1) := by decide +kernel
theorem dX11_readAll_70 : decode cX11_readAll 70 = .ok (.bipush 33, 2) := by decide +kernel
theorem dX11_readAll_72 : decode cX11_readAll 72 = .ok (.iastore, 1) := by decide +kernel
theorem dX11_readAll_73 : decode cX11_readAll 73 = .ok (.aload_n 0, 1) := by decide +kernel
theorem dX11_readAll_74 : decode cX11_readAll 74 = .ok (.getfield 23, 3) := by decide +kernel
theorem dX11_readAll_77 : decode cX11_readAll 77 = .ok (.iload_n 2, 1) := by decide +kernel
theorem dX11_readAll_78 : decode cX11_readAll 78 = .ok (.aload_n 0, 1) := by decide +kernel
theorem dX11_readAll_79 : decode cX11_readAll 79 = .ok (.getfield 71, 3) := by decide +kernel
theorem dX11_readAll_82 : decode cX11_readAll 82 = .ok (.iastore, 1) := by decide +kernel
theorem dX11_readAll_83 : decode cX11_readAll 83 = .ok (.return_, 1) := by decide +kernel
theorem dX11_is_0 : decode cX11_is 0 = .ok (.aload_n 0, 1) := by decide +kernel
theorem dX11_is_1 : decode cX11_is 1 = .ok (.getfield 115, 3) := by decide +kernel
theorem dX11_is_4 : decode cX11_is 4 = .ok (.ifCond .ne 20, 3) := by decide +kernel
theorem dX11_is_7 : decode cX11_is 7 = .ok (.aload_n 0, 1) := by decide +kernel
theorem dX11_is_8 : decode cX11_is 8 = .ok (.getfield 17, 3) := by decide +kernel
theorem dX11_is_11 : decode cX11_is 11 = .ok (.aload_n 0, 1) := by decide +kernel
theorem dX11_is_12 : decode cX11_is 12 = .ok (.getfield 119, 3) := by decide +kernel
theorem dX11_is_15 : decode cX11_is 15 = .ok (.iaload, 1) := by decide +kernel
theorem dX11_is_16 : decode cX11_is 16 = .ok (.iload_n 1, 1) := by decide +kernel
theorem dX11_is_17 : decode cX11_is 17 = .ok (.if_icmp .ne 7, 3) := by decide +kernel
theorem dX11_is_20 : decode cX11_is 20 = .ok (.iconst 1, 1) := by decide +kernel
theorem dX11_is_21 : decode cX11_is 21 = .ok (.goto 4, 3) := by decide +kernel
theorem dX11_is_24 : decode cX11_is 24 = .ok (.iconst 0, 1) := by decide +kernel
theorem dX11_is_25 : decode cX11_is 25 = .ok (.ireturn, 1) := by decide +kernel
theorem dX11_wrong_0 : decode cX11_wrong 0 = .ok (.aload_n 0, 1) := by decide +kernel
theorem dX11_wrong_1 : decode cX11_wrong 1 = .ok (.getfield 115, 3) := by decide +kernel
theorem dX11_wrong_4 : decode cX11_wrong 4 = .ok (.ifCond .eq 4, 3) := by decide +kernel
theorem dX11_wrong_7 : decode cX11_wrong 7 = .ok (.return_, 1) := by decide +kernel
theorem dX11_wrong_8 : decode cX11_wrong 8 = .ok (.aload_n 0, 1) := by decide +kernel
theorem dX11_wrong_9 : decode cX11_wrong 9 = .ok (.iconst 1, 1) := by decide +kernel
theorem dX11_wrong_10 : decode cX11_wrong 10 = .ok (.putfield 115, 3) := by decide +kernel
theorem dX11_wrong_13 : decode cX11_wrong 13 = .ok (.aload_n 0, 1) := by decide +kernel
theorem dX11_wrong_14 : decode cX11_wrong 14 = .ok (.iconst 1, 1) := by decide +kernel
theorem dX11_wrong_15 : decode cX11_wrong 15 = .ok (.putfield 122, 3) := by decide +kernel
theorem dX11_wrong_18 : decode cX11_wrong 18 = .ok (.aload_n 0, 1) := by decide +kernel
theorem dX11_wrong_19 : decode cX11_wrong 19 = .ok (.aload_n 0, 1) := by decide +kernel
theorem dX11_wrong_20 : decode cX11_wrong 20 = .ok (.getfield 119, 3) := by decide +kernel
theorem dX11_wrong_23 : decode cX11_wrong 23 = .ok (.putfield 125, 3) := by decide +kernel
theorem dX11_wrong_26 : decode cX11_wrong 26 = .ok (.return_, 1) := by decide +kernel
theorem dX11_take_0 : decode cX11_take 0 = .ok (.aload_n 0, 1) := by decide +kernel
theorem dX11_take_1 : decode cX11_take 1 = .ok (.iload_n 1, 1) := by decide +kernel
theorem dX11_take_2 : decode cX11_take 2 = .ok (.invokevirtual 128, 3) := by decide +kernel
theorem dX11_take_5 : decode cX11_take 5 = .ok (.ifCond .eq 16, 3) := by decide +kernel
theorem dX11_take_8 : decode cX11_take 8 = .ok (.aload_n 0, 1) := by decide +kernel
theorem dX11_take_9 : decode cX11_take 9 = .ok (.dup, 1) := by decide +kernel
theorem dX11_take_10 : decode cX11_take 10 = .ok (.getfield 119, 3) := by decide +kernel
theorem dX11_take_13 : decode cX11_take 13 = .ok (.iconst 1, 1) := by decide +kernel
theorem dX11_take_14 : decode cX11_take 14 = .ok (.iadd, 1) := by decide +kernel
theorem dX11_take_15 : decode cX11_take 15 = .ok (.putfield 119, 3) := by decide +kernel
theorem dX11_take_18 : decode cX11_take 18 = .ok (.goto 7, 3) := by decide +kernel
theorem dX11_take_21 : decode cX11_take 21 = .ok (.aload_n 0, 1) := by decide +kernel
theorem dX11_take_22 : decode cX11_take 22 = .ok (.invokevirtual 131, 3) := by decide +kernel
theorem dX11_take_25 : decode cX11_take 25 = .ok (.return_, 1) := by decide +kernel
theorem dX11_takes_0 : decode cX11_takes 0 = .ok (.aload_n 0, 1) := by decide +kernel
theorem dX11_takes_1 : decode cX11_takes 1 = .ok (.iload_n 1, 1) := by decide +kernel
theorem dX11_takes_2 : decode cX11_takes 2 = .ok (.invokevirtual 128, 3) := by decide +kernel
theorem dX11_takes_5 : decode cX11_takes 5 = .ok (.ifCond .ne 5, 3) := by decide +kernel
theorem dX11_takes_8 : decode cX11_takes 8 = .ok (.iconst 0, 1) := by decide +kernel
theorem dX11_takes_9 : decode cX11_takes 9 = .ok (.ireturn, 1) := by decide +kernel
theorem dX11_takes_10 : decode cX11_takes 10 = .ok (.aload_n 0, 1) := by decide +kernel
theorem dX11_takes_11 : decode cX11_takes 11 = .ok (.dup, 1) := by decide +kernel
theorem dX11_takes_12 : decode cX11_takes 12 = .ok (.getfield 119, 3) := by decide +kernel
theorem dX11_takes_15 : decode cX11_takes 15 = .ok (.iconst 1, 1) := by decide +kernel
theorem dX11_takes_16 : decode cX11_takes 16 = .ok (.iadd, 1) := by decide +kernel
theorem dX11_takes_17 : decode cX11_takes 17 = .ok (.putfield 119, 3) := by decide +kernel
theorem dX11_takes_20 : decode cX11_takes 20 = .ok (.iconst 1, 1) := by decide +kernel
theorem dX11_takes_21 : decode cX11_takes 21 = .ok (.ireturn, 1) := by decide +kernel
theorem dX11_deeper_0 : decode cX11_deeper 0 = .ok (.aload_n 0, 1) := by decide +kernel
theorem dX11_deeper_1 : decode cX11_deeper 1 = .ok (.getfield 134, 3) := by decide +kernel
theorem dX11_deeper_4 : decode cX11_deeper 4 = .ok (.bipush 8, 2) := by decide +kernel
theorem dX11_deeper_6 : decode cX11_deeper 6 = .ok (.if_icmp .ne 10, 3) := by decide +kernel
theorem dX11_deeper_9 : decode cX11_deeper 9 = .ok (.aload_n 0, 1) := by decide +kernel
theorem dX11_deeper_10 : decode cX11_deeper 10 = .ok (.invokevirtual 131, 3) := by decide +kernel
theorem dX11_deeper_13 : decode cX11_deeper 13 = .ok (.goto 13, 3) := by decide +kernel
theorem dX11_deeper_16 : decode cX11_deeper 16 = .ok (.aload_n 0, 1) := by decide +kernel
theorem dX11_deeper_17 : decode cX11_deeper 17 = .ok (.dup, 1) := by decide +kernel
theorem dX11_deeper_18 : decode cX11_deeper 18 = .ok (.getfield 119, 3) := by decide +kernel
theorem dX11_deeper_21 : decode cX11_deeper 21 = .ok (.iconst 1, 1) := by decide +kernel
theorem dX11_deeper_22 : decode cX11_deeper 22 = .ok (.iadd, 1) := by decide +kernel
theorem dX11_deeper_23 : decode cX11_deeper 23 = .ok (.putfield 119, 3) := by decide +kernel
theorem dX11_deeper_26 : decode cX11_deeper 26 = .ok (.aload_n 0, 1) := by decide +kernel
theorem dX11_deeper_27 : decode cX11_deeper 27 = .ok (.dup, 1) := by decide +kernel
theorem dX11_deeper_28 : decode cX11_deeper 28 = .ok (.getfield 134, 3) := by decide +kernel
theorem dX11_deeper_31 : decode cX11_deeper 31 = .ok (.iconst 1, 1) := by decide +kernel
theorem dX11_deeper_32 : decode cX11_deeper 32 = .ok (.iadd, 1) := by decide +kernel
theorem dX11_deeper_33 : decode cX11_deeper 33 = .ok (.putfield 134, 3) := by decide +kernel
theorem dX11_deeper_36 : decode cX11_deeper 36 = .ok (.return_, 1) := by decide +kernel
theorem dX11_mark_0 : decode cX11_mark 0 = .ok (.aload_n 0, 1) := by decide +kernel
theorem dX11_mark_1 : decode cX11_mark 1 = .ok (.getfield 115, 3) := by decide +kernel
theorem dX11_mark_4 : decode cX11_mark 4 = .ok (.ifCond .ne 10, 3) := by decide +kernel
theorem dX11_mark_7 : decode cX11_mark 7 = .ok (.aload_n 0, 1) := by decide +kernel
theorem dX11_mark_8 : decode cX11_mark 8 = .ok (.getfield 122, 3) := by decide +kernel
theorem dX11_mark_11 : decode cX11_mark 11 = .ok (.ifCond .eq 4, 3) := by decide +kernel
theorem dX11_mark_14 : decode cX11_mark 14 = .ok (.return_, 1) := by decide +kernel
theorem dX11_mark_15 : decode cX11_mark 15 = .ok (.aload_n 0, 1) := by decide +kernel
theorem dX11_mark_16 : decode cX11_mark 16 = .ok (.iload_n 1, 1) := by decide +kernel
theorem dX11_mark_17 : decode cX11_mark 17 = .ok (.putfield 122, 3) := by decide +kernel
theorem dX11_mark_20 : decode cX11_mark 20 = .ok (.aload_n 0, 1) := by decide +kernel
theorem dX11_mark_21 : decode cX11_mark 21 = .ok (.aload_n 0, 1) := by decide +kernel
theorem dX11_mark_22 : decode cX11_mark 22 = .ok (.getfield 119, 3) := by decide +kernel
theorem dX11_mark_25 : decode cX11_mark 25 = .ok (.putfield 125, 3) := by decide +kernel
theorem dX11_mark_28 : decode cX11_mark 28 = .ok (.return_, 1) := by decide +kernel
theorem dX11_node_0 : decode cX11_node 0 = .ok (.aload_n 0, 1) := by decide +kernel
theorem dX11_node_1 : decode cX11_node 1 = .ok (.getfield 39, 3) := by decide +kernel
theorem dX11_node_4 : decode cX11_node 4 = .ok (.getfield 137, 3) := by decide +kernel
theorem dX11_node_7 : decode cX11_node 7 = .ok (.istore 4, 2) := by decide +kernel
theorem dX11_node_9 : decode cX11_node 9 = .ok (.aload_n 0, 1) := by decide +kernel
theorem dX11_node_10 : decode cX11_node 10 = .ok (.getfield 39, 3) := by decide +kernel
theorem dX11_node_13 : decode cX11_node 13 = .ok (.getfield 140, 3) := by decide +kernel
theorem dX11_node_16 : decode cX11_node 16 = .ok (.iload 4, 2) := by decide +kernel
theorem dX11_node_18 : decode cX11_node 18 = .ok (.iload_n 1, 1) := by decide +kernel
theorem dX11_node_19 : decode cX11_node 19 = .ok (.iastore, 1) := by decide +kernel
theorem dX11_node_20 : decode cX11_node 20 = .ok (.aload_n 0, 1) := by decide +kernel
theorem dX11_node_21 : decode cX11_node 21 = .ok (.getfield 39, 3) := by decide +kernel
theorem dX11_node_24 : decode cX11_node 24 = .ok (.getfield 143, 3) := by decide +kernel
theorem dX11_node_27 : decode cX11_node 27 = .ok (.iload 4, 2) := by decide +kernel
theorem dX11_node_29 : decode cX11_node 29 = .ok (.iload_n 2, 1) := by decide +kernel
theorem dX11_node_30 : decode cX11_node 30 = .ok (.iastore, 1) := by decide +kernel
theorem dX11_node_31 : decode cX11_node 31 = .ok (.aload_n 0, 1) := by decide +kernel
theorem dX11_node_32 : decode cX11_node 32 = .ok (.getfield 39, 3) := by decide +kernel
theorem dX11_node_35 : decode cX11_node 35 = .ok (.getfield 146, 3) := by decide +kernel
theorem dX11_node_38 : decode cX11_node 38 = .ok (.iload 4, 2) := by decide +kernel
theorem dX11_node_40 : decode cX11_node 40 = .ok (.iload_n 3, 1) := by decide +kernel
theorem dX11_node_41 : decode cX11_node 41 = .ok (.iastore, 1) := by decide +kernel
theorem dX11_node_42 : decode cX11_node 42 = .ok (.aload_n 0, 1) := by decide +kernel
theorem dX11_node_43 : decode cX11_node 43 = .ok (.getfield 39, 3) := by decide +kernel
theorem dX11_node_46 : decode cX11_node 46 = .ok (.dup, 1) := by decide +kernel
theorem dX11_node_47 : decode cX11_node 47 = .ok (.getfield 137, 3) := by decide +kernel
theorem dX11_node_50 : decode cX11_node 50 = .ok (.iconst 1, 1) := by decide +kernel
theorem dX11_node_51 : decode cX11_node 51 = .ok (.iadd, 1) := by decide +kernel
theorem dX11_node_52 : decode cX11_node 52 = .ok (.putfield 137, 3) := by decide +kernel
theorem dX11_node_55 : decode cX11_node 55 = .ok (.iload 4, 2) := by decide +kernel
theorem dX11_node_57 : decode cX11_node 57 = .ok (.ireturn, 1) := by decide +kernel
theorem dX11_isSameName_0 : decode cX11_isSameName 0 = .ok (.aload_n 0, 1) := by decide +kernel
theorem dX11_isSameName_1 : decode cX11_isSameName 1 = .ok (.getfield 26, 3) := by decide +kernel
theorem dX11_isSameName_4 : decode cX11_isSameName 4 = .ok (.iload_n 1, 1) := by decide +kernel
theorem dX11_isSameName_5 : decode cX11_isSameName 5 = .ok (.iaload, 1) := by decide +kernel
theorem dX11_isSameName_6 : decode cX11_isSameName 6 = .ok (.aload_n 0, 1) := by decide +kernel
theorem dX11_isSameName_7 : decode cX11_isSameName 7 = .ok (.getfield 26, 3) := by decide +kernel
theorem dX11_isSameName_10 : decode cX11_isSameName 10 = .ok (.iload_n 2, 1) := by decide +kernel
theorem dX11_isSameName_11 : decode cX11_isSameName 11 = .ok (.iaload, 1) := by decide +kernel
theorem dX11_isSameName_12 : decode cX11_isSameName 12 = .ok (.if_icmp .eq 5, 3) := by decide +kernel
theorem dX11_isSameName_15 : decode cX11_isSameName 15 = .ok (.iconst 0, 1) := by decide +kernel
theorem dX11_isSameName_16 : decode cX11_isSameName 16 = .ok (.ireturn, 1) := by decide +kernel
theorem dX11_isSameName_17 : decode cX11_isSameName 17 = .ok (.iconst 0, 1) := by decide +kernel
theorem dX11_isSameName_18 : decode cX11_isSameName 18 = .ok (.istore_n 3, 1) := by decide +kernel
theorem dX11_isSameName_19 : decode cX11_isSameName 19 = .ok (.iload_n 3, 1) := by decide +kernel
theorem dX11_isSameName_20 : decode cX11_isSameName 20 = .ok (.aload_n 0, 1) := by decide +kernel
theorem dX11_isSameName_21 : decode cX11_isSameName 21 = .ok (.getfield 26, 3) := by decide +kernel
theorem dX11_isSameName_24 : decode cX11_isSameName 24 = .ok (.iload_n 1, 1) := by decide +kernel
theorem dX11_isSameName_25 : decode cX11_isSameName 25 = .ok (.iaload, 1) := by decide +kernel
theorem dX11_isSameName_26 : decode cX11_isSameName 26 = .ok (.if_icmp .ge 40, 3) := by decide +kernel
theorem dX11_isSameName_29 : decode cX11_isSameName 29 = .ok (.aload_n 0, 1) := by decide +kernel
theorem dX11_isSameName_30 : decode cX11_isSameName 30 = .ok (.getfield 9, 3) := by decide +kernel
theorem dX11_isSameName_33 : decode cX11_isSameName 33 = .ok (.aload_n 0, 1) := by decide +kernel
theorem dX11_isSameName_34 : decode cX11_isSameName 34 = .ok (.getfield 23, 3) := by decide +kernel
theorem dX11_isSameName_37 : decode cX11_isSameName 37 = .ok (.iload_n 1, 1) := by decide +kernel
theorem dX11_isSameName_38 : decode cX11_isSameName 38 = .ok (.iaload, 1) := by decide +kernel
theorem dX11_isSameName_39 : decode cX11_isSameName 39 = .ok (.iload_n 3, 1) := by decide +kernel
theorem dX11_isSameName_40 : decode cX11_isSameName 40 = .ok (.iadd, 1) := by decide +kernel
theorem dX11_isSameName_41 : decode cX11_isSameName 41 = .ok (.iaload, 1) := by decide +kernel
theorem dX11_isSameName_42 : decode cX11_isSameName 42 = .ok (.aload_n 0, 1) := by decide +kernel
theorem dX11_isSameName_43 : decode cX11_isSameName 43 = .ok (.getfield 9, 3) := by decide +kernel
theorem dX11_isSameName_46 : decode cX11_isSameName 46 = .ok (.aload_n 0, 1) := by decide +kernel
theorem dX11_isSameName_47 : decode cX11_isSameName 47 = .ok (.getfield 23, 3) := by decide +kernel
theorem dX11_isSameName_50 : decode cX11_isSameName 50 = .ok (.iload_n 2, 1) := by decide +kernel
theorem dX11_isSameName_51 : decode cX11_isSameName 51 = .ok (.iaload, 1) := by decide +kernel
theorem dX11_isSameName_52 : decode cX11_isSameName 52 = .ok (.iload_n 3, 1) := by decide +kernel
theorem dX11_isSameName_53 : decode cX11_isSameName 53 = .ok (.iadd, 1) := by decide +kernel
theorem dX11_isSameName_54 : decode cX11_isSameName 54 = .ok (.iaload, 1) := by decide +kernel
theorem dX11_isSameName_55 : decode cX11_isSameName 55 = .ok (.if_icmp .eq 5, 3) := by decide +kernel
theorem dX11_isSameName_58 : decode cX11_isSameName 58 = .ok (.iconst 0, 1) := by decide +kernel
theorem dX11_isSameName_59 : decode cX11_isSameName 59 = .ok (.ireturn, 1) := by decide +kernel
theorem dX11_isSameName_60 : decode cX11_isSameName 60 = .ok (.iinc 3 1, 3) := by decide +kernel
theorem dX11_isSameName_63 : decode cX11_isSameName 63 = .ok (.goto (-44), 3) := by decide +kernel
theorem dX11_isSameName_66 : decode cX11_isSameName 66 = .ok (.iconst 1, 1) := by decide +kernel
theorem dX11_isSameName_67 : decode cX11_isSameName 67 = .ok (.ireturn, 1) := by decide +kernel
theorem dX11_known_0 : decode cX11_known 0 = .ok (.iconst 0, 1) := by decide +kernel
theorem dX11_known_1 : decode cX11_known 1 = .ok (.istore_n 1, 1) := by decide +kernel
theorem dX11_known_2 : decode cX11_known 2 = .ok (.iload_n 1, 1) := by decide +kernel
theorem dX11_known_3 : decode cX11_known 3 = .ok (.aload_n 0, 1) := by decide +kernel
theorem dX11_known_4 : decode cX11_known 4 = .ok (.getfield 39, 3) := by decide +kernel
theorem dX11_known_7 : decode cX11_known 7 = .ok (.getfield 149, 3) := by decide +kernel
theorem dX11_known_10 : decode cX11_known 10 = .ok (.if_icmp .ge 28, 3) := by decide +kernel
theorem dX11_known_13 : decode cX11_known 13 = .ok (.aload_n 0, 1) := by decide +kernel
theorem dX11_known_14 : decode cX11_known 14 = .ok (.aload_n 0, 1) := by decide +kernel
theorem dX11_known_15 : decode cX11_known 15 = .ok (.getfield 29, 3) := by decide +kernel
theorem dX11_known_18 : decode cX11_known 18 = .ok (.iload_n 1, 1) := by decide +kernel
theorem dX11_known_19 : decode cX11_known 19 = .ok (.iaload, 1) := by decide +kernel
theorem dX11_known_20 : decode cX11_known 20 = .ok (.aload_n 0, 1) := by decide +kernel
theorem dX11_known_21 : decode cX11_known 21 = .ok (.getfield 119, 3) := by decide +kernel
theorem dX11_known_24 : decode cX11_known 24 = .ok (.invokevirtual 152, 3) := by decide +kernel
theorem dX11_known_27 : decode cX11_known 27 = .ok (.ifCond .eq 5, 3) := by decide +kernel
theorem dX11_known_30 : decode cX11_known 30 = .ok (.iload_n 1, 1) := by decide +kernel
theorem dX11_known_31 : decode cX11_known 31 = .ok (.ireturn, 1) := by decide +kernel
theorem dX11_known_32 : decode cX11_known 32 = .ok (.iinc 1 1, 3) := by decide +kernel
theorem dX11_known_35 : decode cX11_known 35 = .ok (.goto (-33), 3) := by decide +kernel
theorem dX11_known_38 : decode cX11_known 38 = .ok (.iconst (-1), 1) := by decide +kernel
theorem dX11_known_39 : decode cX11_known 39 = .ok (.ireturn, 1) := by decide +kernel
theorem dX11_name_0 : decode cX11_name 0 = .ok (.aload_n 0, 1) := by decide +kernel
theorem dX11_name_1 : decode cX11_name 1 = .ok (.bipush 30, 2) := by decide +kernel
theorem dX11_name_3 : decode cX11_name 3 = .ok (.invokevirtual 128, 3) := by decide +kernel
theorem dX11_name_6 : decode cX11_name 6 = .ok (.ifCond .eq 10, 3) := by decide +kernel
theorem dX11_name_9 : decode cX11_name 9 = .ok (.aload_n 0, 1) := by decide +kernel
theorem dX11_name_10 : decode cX11_name 10 = .ok (.invokevirtual 156, 3) := by decide +kernel
theorem dX11_name_13 : decode cX11_name 13 = .ok (.goto 4, 3) := by decide +kernel
theorem dX11_name_16 : decode cX11_name 16 = .ok (.iconst 0, 1) := by decide +kernel
theorem dX11_name_17 : decode cX11_name 17 = .ok (.istore_n 1, 1) := by decide +kernel
theorem dX11_name_18 : decode cX11_name 18 = .ok (.iload_n 1, 1) := by decide +kernel
theorem dX11_name_19 : decode cX11_name 19 = .ok (.iconst (-1), 1) := by decide +kernel
theorem dX11_name_20 : decode cX11_name 20 = .ok (.if_icmp .ne 8, 3) := by decide +kernel
theorem dX11_name_23 : decode cX11_name 23 = .ok (.aload_n 0, 1) := by decide +kernel
theorem dX11_name_24 : decode cX11_name 24 = .ok (.iconst 3, 1) := by decide +kernel
theorem dX11_name_25 : decode cX11_name 25 = .ok (.invokevirtual 159, 3) := by decide +kernel
theorem dX11_name_28 : decode cX11_name 28 = .ok (.aload_n 0, 1) := by decide +kernel
theorem dX11_name_29 : decode cX11_name 29 = .ok (.bipush 30, 2) := by decide +kernel
theorem dX11_name_31 : decode cX11_name 31 = .ok (.invokevirtual 163, 3) := by decide +kernel
theorem dX11_name_34 : decode cX11_name 34 = .ok (.iconst 0, 1) := by decide +kernel
theorem dX11_name_35 : decode cX11_name 35 = .ok (.iload_n 1, 1) := by decide +kernel
theorem dX11_name_36 : decode cX11_name 36 = .ok (.invokestatic 166, 3) := by decide +kernel
theorem dX11_name_39 : decode cX11_name 39 = .ok (.ireturn, 1) := by decide +kernel
theorem dX11_inBrackets_0 : decode cX11_inBrackets 0 = .ok (.aload_n 0, 1) := by decide +kernel
theorem dX11_inBrackets_1 : decode cX11_inBrackets 1 = .ok (.invokevirtual 171, 3) := by decide +kernel
theorem dX11_inBrackets_4 : decode cX11_inBrackets 4 = .ok (.aload_n 0, 1) := by decide +kernel
theorem dX11_inBrackets_5 : decode cX11_inBrackets 5 = .ok (.invokevirtual 174, 3) := by decide +kernel
theorem dX11_inBrackets_8 : decode cX11_inBrackets 8 = .ok (.istore_n 1, 1) := by decide +kernel
theorem dX11_inBrackets_9 : decode cX11_inBrackets 9 = .ok (.aload_n 0, 1) := by decide +kernel
theorem dX11_inBrackets_10 : decode cX11_inBrackets 10 = .ok (.bipush 50, 2) := by decide +kernel
theorem dX11_inBrackets_12 : decode cX11_inBrackets 12 = .ok (.invokevirtual 163, 3) := by decide +kernel
theorem dX11_inBrackets_15 : decode cX11_inBrackets 15 = .ok (.aload_n 0, 1) := by decide +kernel
theorem dX11_inBrackets_16 : decode cX11_inBrackets 16 = .ok (.dup, 1) := by decide +kernel
theorem dX11_inBrackets_17 : decode cX11_inBrackets 17 = .ok (.getfield 134, 3) := by decide +kernel
theorem dX11_inBrackets_20 : decode cX11_inBrackets 20 = .ok (.iconst 1, 1) := by decide +kernel
theorem dX11_inBrackets_21 : decode cX11_inBrackets 21 = .ok (.isub, 1) := by decide +kernel
theorem dX11_inBrackets_22 : decode cX11_inBrackets 22 = .ok (.putfield 134, 3) := by decide +kernel
theorem dX11_inBrackets_25 : decode cX11_inBrackets 25 = .ok (.iload_n 1, 1) := by decide +kernel
theorem dX11_inBrackets_26 : decode cX11_inBrackets 26 = .ok (.ireturn, 1) := by decide +kernel
theorem dX11_ofTwo_0 : decode cX11_ofTwo 0 = .ok (.aload_n 0, 1) := by decide +kernel
theorem dX11_ofTwo_1 : decode cX11_ofTwo 1 = .ok (.dup, 1) := by decide +kernel
theorem dX11_ofTwo_2 : decode cX11_ofTwo 2 = .ok (.getfield 119, 3) := by decide +kernel
theorem dX11_ofTwo_5 : decode cX11_ofTwo 5 = .ok (.iconst 1, 1) := by decide +kernel
theorem dX11_ofTwo_6 : decode cX11_ofTwo 6 = .ok (.iadd, 1) := by decide +kernel
theorem dX11_ofTwo_7 : decode cX11_ofTwo 7 = .ok (.putfield 119, 3) := by decide +kernel
theorem dX11_ofTwo_10 : decode cX11_ofTwo 10 = .ok (.aload_n 0, 1) := by decide +kernel
theorem dX11_ofTwo_11 : decode cX11_ofTwo 11 = .ok (.bipush 49, 2) := by decide +kernel
theorem dX11_ofTwo_13 : decode cX11_ofTwo 13 = .ok (.invokevirtual 128, 3) := by decide +kernel
theorem dX11_ofTwo_16 : decode cX11_ofTwo 16 = .ok (.ifCond .ne 9, 3) := by decide +kernel
theorem dX11_ofTwo_19 : decode cX11_ofTwo 19 = .ok (.aload_n 0, 1) := by decide +kernel
theorem dX11_ofTwo_20 : decode cX11_ofTwo 20 = .ok (.invokevirtual 131, 3) := by decide +kernel
theorem dX11_ofTwo_23 : decode cX11_ofTwo 23 = .ok (.iconst 0, 1) := by decide +kernel
theorem dX11_ofTwo_24 : decode cX11_ofTwo 24 = .ok (.ireturn, 1) := by decide +kernel
theorem dX11_ofTwo_25 : decode cX11_ofTwo 25 = .ok (.aload_n 0, 1) := by decide +kernel
theorem dX11_ofTwo_26 : decode cX11_ofTwo 26 = .ok (.invokevirtual 171, 3) := by decide +kernel
theorem dX11_ofTwo_29 : decode cX11_ofTwo 29 = .ok (.aload_n 0, 1) := by decide +kernel
theorem dX11_ofTwo_30 : decode cX11_ofTwo 30 = .ok (.invokevirtual 174, 3) := by decide +kernel
theorem dX11_ofTwo_33 : decode cX11_ofTwo 33 = .ok (.istore_n 2, 1) := by decide +kernel
theorem dX11_ofTwo_34 : decode cX11_ofTwo 34 = .ok (.aload_n 0, 1) := by decide +kernel
theorem dX11_ofTwo_35 : decode cX11_ofTwo 35 = .ok (.bipush 54, 2) := by decide +kernel
theorem dX11_ofTwo_37 : decode cX11_ofTwo 37 = .ok (.invokevirtual 163, 3) := by decide +kernel
theorem dX11_ofTwo_40 : decode cX11_ofTwo 40 = .ok (.aload_n 0, 1) := by decide +kernel
theorem dX11_ofTwo_41 : decode cX11_ofTwo 41 = .ok (.invokevirtual 174, 3) := by decide +kernel
theorem dX11_ofTwo_44 : decode cX11_ofTwo 44 = .ok (.istore_n 3, 1) := by decide +kernel
theorem dX11_ofTwo_45 : decode cX11_ofTwo 45 = .ok (.aload_n 0, 1) := by decide +kernel
theorem dX11_ofTwo_46 : decode cX11_ofTwo 46 = .ok (.bipush 50, 2) := by decide +kernel
theorem dX11_ofTwo_48 : decode cX11_ofTwo 48 = .ok (.invokevirtual 163, 3) := by decide +kernel
theorem dX11_ofTwo_51 : decode cX11_ofTwo 51 = .ok (.aload_n 0, 1) := by decide +kernel
theorem dX11_ofTwo_52 : decode cX11_ofTwo 52 = .ok (.dup, 1) := by decide +kernel
theorem dX11_ofTwo_53 : decode cX11_ofTwo 53 = .ok (.getfield 134, 3) := by decide +kernel
theorem dX11_ofTwo_56 : decode cX11_ofTwo 56 = .ok (.iconst 1, 1) := by decide +kernel
theorem dX11_ofTwo_57 : decode cX11_ofTwo 57 = .ok (.isub, 1) := by decide +kernel
theorem dX11_ofTwo_58 : decode cX11_ofTwo 58 = .ok (.putfield 134, 3) := by decide +kernel
theorem dX11_ofTwo_61 : decode cX11_ofTwo 61 = .ok (.aload_n 0, 1) := by decide +kernel
theorem dX11_ofTwo_62 : decode cX11_ofTwo 62 = .ok (.iload_n 1, 1) := by decide +kernel
theorem dX11_ofTwo_63 : decode cX11_ofTwo 63 = .ok (.iload_n 2, 1) := by decide +kernel
theorem dX11_ofTwo_64 : decode cX11_ofTwo 64 = .ok (.iload_n 3, 1) := by decide +kernel
theorem dX11_ofTwo_65 : decode cX11_ofTwo 65 = .ok (.invokevirtual 177, 3) := by decide +kernel
theorem dX11_ofTwo_68 : decode cX11_ofTwo 68 = .ok (.ireturn, 1) := by decide +kernel
theorem dX11_isMeasure_0 : decode cX11_isMeasure 0 = .ok (.aload_n 0, 1) := by decide +kernel
theorem dX11_isMeasure_1 : decode cX11_isMeasure 1 = .ok (.iconst 2, 1) := by decide +kernel
theorem dX11_isMeasure_2 : decode cX11_isMeasure 2 = .ok (.invokevirtual 128, 3) := by decide +kernel
theorem dX11_isMeasure_5 : decode cX11_isMeasure 5 = .ok (.ifCond .ne 38, 3) := by decide +kernel
theorem dX11_isMeasure_8 : decode cX11_isMeasure 8 = .ok (.aload_n 0, 1) := by decide +kernel
theorem dX11_isMeasure_9 : decode cX11_isMeasure 9 = .ok (.iconst 1, 1) := by decide +kernel
theorem dX11_isMeasure_10 : decode cX11_isMeasure 10 = .ok (.invokevirtual 128, 3) := by decide +kernel
theorem dX11_isMeasure_13 : decode cX11_isMeasure 13 = .ok (.ifCond .ne 30, 3) := by decide +kernel
theorem dX11_isMeasure_16 : decode cX11_isMeasure 16 = .ok (.aload_n 0, 1) := by decide +kernel
theorem dX11_isMeasure_17 : decode cX11_isMeasure 17 = .ok (.bipush 17, 2) := by decide +kernel
theorem dX11_isMeasure_19 : decode cX11_isMeasure 19 = .ok (.invokevirtual 128, 3) := by decide +kernel
theorem dX11_isMeasure_22 : decode cX11_isMeasure 22 = .ok (.ifCond .ne 21, 3) := by decide +kernel
theorem dX11_isMeasure_25 : decode cX11_isMeasure 25 = .ok (.aload_n 0, 1) := by decide +kernel
theorem dX11_isMeasure_26 : decode cX11_isMeasure 26 = .ok (.bipush 15, 2) := by decide +kernel
theorem dX11_isMeasure_28 : decode cX11_isMeasure 28 = .ok (.invokevirtual 128, 3) := by decide +kernel
theorem dX11_isMeasure_31 : decode cX11_isMeasure 31 = .ok (.ifCond .ne 12, 3) := by decide +kernel
theorem dX11_isMeasure_34 : decode cX11_isMeasure 34 = .ok (.aload_n 0, 1) := by decide +kernel
theorem dX11_isMeasure_35 : decode cX11_isMeasure 35 = .ok (.bipush 16, 2) := by decide +kernel
theorem dX11_isMeasure_37 : decode cX11_isMeasure 37 = .ok (.invokevirtual 128, 3) := by decide +kernel
theorem dX11_isMeasure_40 : decode cX11_isMeasure 40 = .ok (.ifCond .eq 7, 3) := by decide +kernel
theorem dX11_isMeasure_43 : decode cX11_isMeasure 43 = .ok (.iconst 1, 1) := by decide +kernel
theorem dX11_isMeasure_44 : decode cX11_isMeasure 44 = .ok (.goto 4, 3) := by decide +kernel
theorem dX11_isMeasure_47 : decode cX11_isMeasure 47 = .ok (.iconst 0, 1) := by decide +kernel
theorem dX11_isMeasure_48 : decode cX11_isMeasure 48 = .ok (.ireturn, 1) := by decide +kernel
theorem dX11_measure_0 : decode cX11_measure 0 = .ok (.aload_n 0, 1) := by decide +kernel
theorem dX11_measure_1 : decode cX11_measure 1 = .ok (.getfield 17, 3) := by decide +kernel
theorem dX11_measure_4 : decode cX11_measure 4 = .ok (.aload_n 0, 1) := by decide +kernel
theorem dX11_measure_5 : decode cX11_measure 5 = .ok (.getfield 119, 3) := by decide +kernel
theorem dX11_measure_8 : decode cX11_measure 8 = .ok (.iaload, 1) := by decide +kernel
theorem dX11_measure_9 : decode cX11_measure 9 = .ok (.istore_n 1, 1) := by decide +kernel
theorem dX11_measure_10 : decode cX11_measure 10 = .ok (.aload_n 0, 1) := by decide +kernel
theorem dX11_measure_11 : decode cX11_measure 11 = .ok (.dup, 1) := by decide +kernel
theorem dX11_measure_12 : decode cX11_measure 12 = .ok (.getfield 119, 3) := by decide +kernel
theorem dX11_measure_15 : decode cX11_measure 15 = .ok (.iconst 1, 1) := by decide +kernel
theorem dX11_measure_16 : decode cX11_measure 16 = .ok (.iadd, 1) := by decide +kernel
theorem dX11_measure_17 : decode cX11_measure 17 = .ok (.putfield 119, 3) := by decide +kernel
theorem dX11_measure_20 : decode cX11_measure 20 = .ok (.aload_n 0, 1) := by decide +kernel
theorem dX11_measure_21 : decode cX11_measure 21 = .ok (.bipush 18, 2) := by decide +kernel
theorem dX11_measure_23 : decode cX11_measure 23 = .ok (.invokevirtual 163, 3) := by decide +kernel
theorem dX11_measure_26 : decode cX11_measure 26 = .ok (.aload_n 0, 1) := by decide +kernel
theorem dX11_measure_27 : decode cX11_measure 27 = .ok (.iload_n 1, 1) := by decide +kernel
theorem dX11_measure_28 : decode cX11_measure 28 = .ok (.aload_n 0, 1) := by decide +kernel
theorem dX11_measure_29 : decode cX11_measure 29 = .ok (.invokevirtual 181, 3) := by decide +kernel
theorem dX11_measure_32 : decode cX11_measure 32 = .ok (.iconst 0, 1) := by decide +kernel
theorem dX11_measure_33 : decode cX11_measure 33 = .ok (.invokevirtual 177, 3) := by decide +kernel
theorem dX11_measure_36 : decode cX11_measure 36 = .ok (.ireturn, 1) := by decide +kernel
theorem dX11_value_0 : decode cX11_value 0 = .ok (.aload_n 0, 1) := by decide +kernel
theorem dX11_value_1 : decode cX11_value 1 = .ok (.bipush 31, 2) := by decide +kernel
theorem dX11_value_3 : decode cX11_value 3 = .ok (.invokevirtual 128, 3) := by decide +kernel
theorem dX11_value_6 : decode cX11_value 6 = .ok (.ifCond .eq 32, 3) := by decide +kernel
theorem dX11_value_9 : decode cX11_value 9 = .ok (.aload_n 0, 1) := by decide +kernel
theorem dX11_value_10 : decode cX11_value 10 = .ok (.dup, 1) := by decide +kernel
theorem dX11_value_11 : decode cX11_value 11 = .ok (.getfield 119, 3) := by decide +kernel
theorem dX11_value_14 : decode cX11_value 14 = .ok (.iconst 1, 1) := by decide +kernel
theorem dX11_value_15 : decode cX11_value 15 = .ok (.iadd, 1) := by decide +kernel
theorem dX11_value_16 : decode cX11_value 16 = .ok (.putfield 119, 3) := by decide +kernel
theorem dX11_value_19 : decode cX11_value 19 = .ok (.aload_n 0, 1) := by decide +kernel
theorem dX11_value_20 : decode cX11_value 20 = .ok (.bipush 31, 2) := by decide +kernel
theorem dX11_value_22 : decode cX11_value 22 = .ok (.aload_n 0, 1) := by decide +kernel
theorem dX11_value_23 : decode cX11_value 23 = .ok (.getfield 20, 3) := by decide +kernel
theorem dX11_value_26 : decode cX11_value 26 = .ok (.aload_n 0, 1) := by decide +kernel
theorem dX11_value_27 : decode cX11_value 27 = .ok (.getfield 119, 3) := by decide +kernel
theorem dX11_value_30 : decode cX11_value 30 = .ok (.iconst 1, 1) := by decide +kernel
theorem dX11_value_31 : decode cX11_value 31 = .ok (.isub, 1) := by decide +kernel
theorem dX11_value_32 : decode cX11_value 32 = .ok (.iaload, 1) := by decide +kernel
theorem dX11_value_33 : decode cX11_value 33 = .ok (.iconst 0, 1) := by decide +kernel
theorem dX11_value_34 : decode cX11_value 34 = .ok (.invokevirtual 177, 3) := by decide +kernel
theorem dX11_value_37 : decode cX11_value 37 = .ok (.ireturn, 1) := by decide +kernel
theorem dX11_value_38 : decode cX11_value 38 = .ok (.bipush 12, 2) := by decide +kernel
theorem dX11_value_40 : decode cX11_value 40 = .ok (.istore_n 1, 1) := by decide +kernel
theorem dX11_value_41 : decode cX11_value 41 = .ok (.iload_n 1, 1) := by decide +kernel
theorem dX11_value_42 : decode cX11_value 42 = .ok (.bipush 14, 2) := by decide +kernel
theorem dX11_value_44 : decode cX11_value 44 = .ok (.if_icmp .gt 25, 3) := by decide +kernel
theorem dX11_value_47 : decode cX11_value 47 = .ok (.aload_n 0, 1) := by decide +kernel
theorem dX11_value_48 : decode cX11_value 48 = .ok (.iload_n 1, 1) := by decide +kernel
theorem dX11_value_49 : decode cX11_value 49 = .ok (.invokevirtual 184, 3) := by decide +kernel
theorem dX11_value_52 : decode cX11_value 52 = .ok (.ifCond .eq 11, 3) := by decide +kernel
theorem dX11_value_55 : decode cX11_value 55 = .ok (.aload_n 0, 1) := by decide +kernel
theorem dX11_value_56 : decode cX11_value 56 = .ok (.iload_n 1, 1) := by decide +kernel
theorem dX11_value_57 : decode cX11_value 57 = .ok (.iconst 0, 1) := by decide +kernel
theorem dX11_value_58 : decode cX11_value 58 = .ok (.iconst 0, 1) := by decide +kernel
theorem dX11_value_59 : decode cX11_value 59 = .ok (.invokevirtual 177, 3) := by decide +kernel
theorem dX11_value_62 : decode cX11_value 62 = .ok (.ireturn, 1) := by decide +kernel
theorem dX11_value_63 : decode cX11_value 63 = .ok (.iinc 1 1, 3) := by decide +kernel
theorem dX11_value_66 : decode cX11_value 66 = .ok (.goto (-25), 3) := by decide +kernel
theorem dX11_value_69 : decode cX11_value 69 = .ok (.aload_n 0, 1) := by decide +kernel
theorem dX11_value_70 : decode cX11_value 70 = .ok (.invokevirtual 187, 3) := by decide +kernel
theorem dX11_value_73 : decode cX11_value 73 = .ok (.ifCond .eq 8, 3) := by decide +kernel
theorem dX11_value_76 : decode cX11_value 76 = .ok (.aload_n 0, 1) := by decide +kernel
theorem dX11_value_77 : decode cX11_value 77 = .ok (.invokevirtual 191, 3) := by decide +kernel
theorem dX11_value_80 : decode cX11_value 80 = .ok (.ireturn, 1) := by decide +kernel
theorem dX11_value_81 : decode cX11_value 81 = .ok (.aload_n 0, 1) := by decide +kernel
theorem dX11_value_82 : decode cX11_value 82 = .ok (.bipush 24, 2) := by decide +kernel
theorem dX11_value_84 : decode cX11_value 84 = .ok (.invokevirtual 128, 3) := by decide +kernel
theorem dX11_value_87 : decode cX11_value 87 = .ok (.ifCond .ne 12, 3) := by decide +kernel
theorem dX11_value_90 : decode cX11_value 90 = .ok (.aload_n 0, 1) := by decide +kernel
theorem dX11_value_91 : decode cX11_value 91 = .ok (.bipush 25, 2) := by decide +kernel
theorem dX11_value_93 : decode cX11_value 93 = .ok (.invokevirtual 128, 3) := by decide +kernel
theorem dX11_value_96 : decode cX11_value 96 = .ok (.ifCond .eq 17, 3) := by decide +kernel
theorem dX11_value_99 : decode cX11_value 99 = .ok (.aload_n 0, 1) := by decide +kernel
theorem dX11_value_100 : decode cX11_value 100 = .ok (.aload_n 0, 1) := by decide +kernel
theorem dX11_value_101 : decode cX11_value 101 = .ok (.getfield 17, 3) := by decide +kernel
theorem dX11_value_104 : decode cX11_value 104 = .ok (.aload_n 0, 1) := by decide +kernel
theorem dX11_value_105 : decode cX11_value 105 = .ok (.getfield 119, 3) := by decide +kernel
theorem dX11_value_108 : decode cX11_value 108 = .ok (.iaload, 1) := by decide +kernel
theorem dX11_value_109 : decode cX11_value 109 = .ok (.invokevirtual 194, 3) := by decide +kernel
theorem dX11_value_112 : decode cX11_value 112 = .ok (.ireturn, 1) := by decide +kernel
theorem dX11_value_113 : decode cX11_value 113 = .ok (.aload_n 0, 1) := by decide +kernel
theorem dX11_value_114 : decode cX11_value 114 = .ok (.bipush 49, 2) := by decide +kernel
theorem dX11_value_116 : decode cX11_value 116 = .ok (.invokevirtual 128, 3) := by decide +kernel
theorem dX11_value_119 : decode cX11_value 119 = .ok (.ifCond .eq 8, 3) := by decide +kernel
theorem dX11_value_122 : decode cX11_value 122 = .ok (.aload_n 0, 1) := by decide +kernel
theorem dX11_value_123 : decode cX11_value 123 = .ok (.invokevirtual 197, 3) := by decide +kernel
theorem dX11_value_126 : decode cX11_value 126 = .ok (.ireturn, 1) := by decide +kernel
theorem dX11_value_127 : decode cX11_value 127 = .ok (.aload_n 0, 1) := by decide +kernel
theorem dX11_value_128 : decode cX11_value 128 = .ok (.bipush 41, 2) := by decide +kernel
theorem dX11_value_130 : decode cX11_value 130 = .ok (.invokevirtual 128, 3) := by decide +kernel
theorem dX11_value_133 : decode cX11_value 133 = .ok (.ifCond .ne 9, 3) := by decide +kernel
theorem dX11_value_136 : decode cX11_value 136 = .ok (.aload_n 0, 1) := by decide +kernel
theorem dX11_value_137 : decode cX11_value 137 = .ok (.invokevirtual 131, 3) := by decide +kernel
theorem dX11_value_140 : decode cX11_value 140 = .ok (.iconst 0, 1) := by decide +kernel
theorem dX11_value_141 : decode cX11_value 141 = .ok (.ireturn, 1) := by decide +kernel
theorem dX11_value_142 : decode cX11_value 142 = .ok (.aload_n 0, 1) := by decide +kernel
theorem dX11_value_143 : decode cX11_value 143 = .ok (.invokevirtual 171, 3) := by decide +kernel
theorem dX11_value_146 : decode cX11_value 146 = .ok (.aload_n 0, 1) := by decide +kernel
theorem dX11_value_147 : decode cX11_value 147 = .ok (.invokevirtual 200, 3) := by decide +kernel
theorem dX11_value_150 : decode cX11_value 150 = .ok (.istore_n 1, 1) := by decide +kernel
theorem dX11_value_151 : decode cX11_value 151 = .ok (.aload_n 0, 1) := by decide +kernel
theorem dX11_value_152 : decode cX11_value 152 = .ok (.dup, 1) := by decide +kernel
theorem dX11_value_153 : decode cX11_value 153 = .ok (.getfield 134, 3) := by decide +kernel
theorem dX11_value_156 : decode cX11_value 156 = .ok (.iconst 1, 1) := by decide +kernel
theorem dX11_value_157 : decode cX11_value 157 = .ok (.isub, 1) := by decide +kernel
theorem dX11_value_158 : decode cX11_value 158 = .ok (.putfield 134, 3) := by decide +kernel
theorem dX11_value_161 : decode cX11_value 161 = .ok (.aload_n 0, 1) := by decide +kernel
theorem dX11_value_162 : decode cX11_value 162 = .ok (.bipush 60, 2) := by decide +kernel
theorem dX11_value_164 : decode cX11_value 164 = .ok (.iload_n 1, 1) := by decide +kernel
theorem dX11_value_165 : decode cX11_value 165 = .ok (.iconst 0, 1) := by decide +kernel
theorem dX11_value_166 : decode cX11_value 166 = .ok (.invokevirtual 177, 3) := by decide +kernel
theorem dX11_value_169 : decode cX11_value 169 = .ok (.ireturn, 1) := by decide +kernel
theorem dX11_product_0 : decode cX11_product 0 = .ok (.aload_n 0, 1) := by decide +kernel
theorem dX11_product_1 : decode cX11_product 1 = .ok (.invokevirtual 200, 3) := by decide +kernel
theorem dX11_product_4 : decode cX11_product 4 = .ok (.istore_n 1, 1) := by decide +kernel
theorem dX11_product_5 : decode cX11_product 5 = .ok (.aload_n 0, 1) := by decide +kernel
theorem dX11_product_6 : decode cX11_product 6 = .ok (.bipush 42, 2) := by decide +kernel
theorem dX11_product_8 : decode cX11_product 8 = .ok (.invokevirtual 128, 3) := by decide +kernel
theorem dX11_product_11 : decode cX11_product 11 = .ok (.ifCond .ne 12, 3) := by decide +kernel
theorem dX11_product_14 : decode cX11_product 14 = .ok (.aload_n 0, 1) := by decide +kernel
theorem dX11_product_15 : decode cX11_product 15 = .ok (.bipush 43, 2) := by decide +kernel
theorem dX11_product_17 : decode cX11_product 17 = .ok (.invokevirtual 128, 3) := by decide +kernel
theorem dX11_product_20 : decode cX11_product 20 = .ok (.ifCond .eq 37, 3) := by decide +kernel
theorem dX11_product_23 : decode cX11_product 23 = .ok (.aload_n 0, 1) := by decide +kernel
theorem dX11_product_24 : decode cX11_product 24 = .ok (.getfield 17, 3) := by decide +kernel
theorem dX11_product_27 : decode cX11_product 27 = .ok (.aload_n 0, 1) := by decide +kernel
theorem dX11_product_28 : decode cX11_product 28 = .ok (.getfield 119, 3) := by decide +kernel
theorem dX11_product_31 : decode cX11_product 31 = .ok (.iaload, 1) := by decide +kernel
theorem dX11_product_32 : decode cX11_product 32 = .ok (.istore_n 2, 1) := by decide +kernel
theorem dX11_product_33 : decode cX11_product 33 = .ok (.aload_n 0, 1) := by decide +kernel
theorem dX11_product_34 : decode cX11_product 34 = .ok (.dup, 1) := by decide +kernel
theorem dX11_product_35 : decode cX11_product 35 = .ok (.getfield 119, 3) := by decide +kernel
theorem dX11_product_38 : decode cX11_product 38 = .ok (.iconst 1, 1) := by decide +kernel
theorem dX11_product_39 : decode cX11_product 39 = .ok (.iadd, 1) := by decide +kernel
theorem dX11_product_40 : decode cX11_product 40 = .ok (.putfield 119, 3) := by decide +kernel
theorem dX11_product_43 : decode cX11_product 43 = .ok (.aload_n 0, 1) := by decide +kernel
theorem dX11_product_44 : decode cX11_product 44 = .ok (.iload_n 2, 1) := by decide +kernel
theorem dX11_product_45 : decode cX11_product 45 = .ok (.iload_n 1, 1) := by decide +kernel
theorem dX11_product_46 : decode cX11_product 46 = .ok (.aload_n 0, 1) := by decide +kernel
theorem dX11_product_47 : decode cX11_product 47 = .ok (.invokevirtual 200, 3) := by decide +kernel
theorem dX11_product_50 : decode cX11_product 50 = .ok (.invokevirtual 177, 3) := by decide +kernel
theorem dX11_product_53 : decode cX11_product 53 = .ok (.istore_n 1, 1) := by decide +kernel
theorem dX11_product_54 : decode cX11_product 54 = .ok (.goto (-49), 3) := by decide +kernel
theorem dX11_product_57 : decode cX11_product 57 = .ok (.iload_n 1, 1) := by decide +kernel
theorem dX11_product_58 : decode cX11_product 58 = .ok (.ireturn, 1) := by decide +kernel
theorem dX11_sum_0 : decode cX11_sum 0 = .ok (.aload_n 0, 1) := by decide +kernel
theorem dX11_sum_1 : decode cX11_sum 1 = .ok (.invokevirtual 202, 3) := by decide +kernel
theorem dX11_sum_4 : decode cX11_sum 4 = .ok (.istore_n 1, 1) := by decide +kernel
theorem dX11_sum_5 : decode cX11_sum 5 = .ok (.aload_n 0, 1) := by decide +kernel
theorem dX11_sum_6 : decode cX11_sum 6 = .ok (.bipush 40, 2) := by decide +kernel
theorem dX11_sum_8 : decode cX11_sum 8 = .ok (.invokevirtual 128, 3) := by decide +kernel
theorem dX11_sum_11 : decode cX11_sum 11 = .ok (.ifCond .ne 12, 3) := by decide +kernel
theorem dX11_sum_14 : decode cX11_sum 14 = .ok (.aload_n 0, 1) := by decide +kernel
theorem dX11_sum_15 : decode cX11_sum 15 = .ok (.bipush 41, 2) := by decide +kernel
theorem dX11_sum_17 : decode cX11_sum 17 = .ok (.invokevirtual 128, 3) := by decide +kernel
theorem dX11_sum_20 : decode cX11_sum 20 = .ok (.ifCond .eq 37, 3) := by decide +kernel
theorem dX11_sum_23 : decode cX11_sum 23 = .ok (.aload_n 0, 1) := by decide +kernel
theorem dX11_sum_24 : decode cX11_sum 24 = .ok (.getfield 17, 3) := by decide +kernel
theorem dX11_sum_27 : decode cX11_sum 27 = .ok (.aload_n 0, 1) := by decide +kernel
theorem dX11_sum_28 : decode cX11_sum 28 = .ok (.getfield 119, 3) := by decide +kernel
theorem dX11_sum_31 : decode cX11_sum 31 = .ok (.iaload, 1) := by decide +kernel
theorem dX11_sum_32 : decode cX11_sum 32 = .ok (.istore_n 2, 1) := by decide +kernel
theorem dX11_sum_33 : decode cX11_sum 33 = .ok (.aload_n 0, 1) := by decide +kernel
theorem dX11_sum_34 : decode cX11_sum 34 = .ok (.dup, 1) := by decide +kernel
theorem dX11_sum_35 : decode cX11_sum 35 = .ok (.getfield 119, 3) := by decide +kernel
theorem dX11_sum_38 : decode cX11_sum 38 = .ok (.iconst 1, 1) := by decide +kernel
theorem dX11_sum_39 : decode cX11_sum 39 = .ok (.iadd, 1) := by decide +kernel
theorem dX11_sum_40 : decode cX11_sum 40 = .ok (.putfield 119, 3) := by decide +kernel
theorem dX11_sum_43 : decode cX11_sum 43 = .ok (.aload_n 0, 1) := by decide +kernel
theorem dX11_sum_44 : decode cX11_sum 44 = .ok (.iload_n 2, 1) := by decide +kernel
theorem dX11_sum_45 : decode cX11_sum 45 = .ok (.iload_n 1, 1) := by decide +kernel
theorem dX11_sum_46 : decode cX11_sum 46 = .ok (.aload_n 0, 1) := by decide +kernel
theorem dX11_sum_47 : decode cX11_sum 47 = .ok (.invokevirtual 202, 3) := by decide +kernel
theorem dX11_sum_50 : decode cX11_sum 50 = .ok (.invokevirtual 177, 3) := by decide +kernel
theorem dX11_sum_53 : decode cX11_sum 53 = .ok (.istore_n 1, 1) := by decide +kernel
theorem dX11_sum_54 : decode cX11_sum 54 = .ok (.goto (-49), 3) := by decide +kernel
theorem dX11_sum_57 : decode cX11_sum 57 = .ok (.iload_n 1, 1) := by decide +kernel
theorem dX11_sum_58 : decode cX11_sum 58 = .ok (.ireturn, 1) := by decide +kernel
theorem dX11_comparison_0 : decode cX11_comparison 0 = .ok (.aload_n 0, 1) := by decide +kernel
theorem dX11_comparison_1 : decode cX11_comparison 1 = .ok (.invokevirtual 174, 3) := by decide +kernel
theorem dX11_comparison_4 : decode cX11_comparison 4 = .ok (.istore_n 1, 1) := by decide +kernel
theorem dX11_comparison_5 : decode cX11_comparison 5 = .ok (.aload_n 0, 1) := by decide +kernel
theorem dX11_comparison_6 : decode cX11_comparison 6 = .ok (.getfield 17, 3) := by decide +kernel
theorem dX11_comparison_9 : decode cX11_comparison 9 = .ok (.aload_n 0, 1) := by decide +kernel
theorem dX11_comparison_10 : decode cX11_comparison 10 = .ok (.getfield 119, 3) := by decide +kernel
theorem dX11_comparison_13 : decode cX11_comparison 13 = .ok (.iaload, 1) := by decide +kernel
theorem dX11_comparison_14 : decode cX11_comparison 14 = .ok (.istore_n 2, 1) := by decide +kernel
theorem dX11_comparison_15 : decode cX11_comparison 15 = .ok (.aload_n 0, 1) := by decide +kernel
theorem dX11_comparison_16 : decode cX11_comparison 16 = .ok (.getfield 115, 3) := by decide +kernel
theorem dX11_comparison_19 : decode cX11_comparison 19 = .ok (.ifCond .ne 14, 3) := by decide +kernel
theorem dX11_comparison_22 : decode cX11_comparison 22 = .ok (.iload_n 2, 1) := by decide +kernel
theorem dX11_comparison_23 : decode cX11_comparison 23 = .ok (.bipush 44, 2) := by decide +kernel
theorem dX11_comparison_25 : decode cX11_comparison 25 = .ok (.bipush 48, 2) := by decide +kernel
theorem dX11_comparison_27 : decode cX11_comparison 27 = .ok (.invokestatic 67, 3) := by decide +kernel
theorem dX11_comparison_30 : decode cX11_comparison 30 = .ok (.ifCond .ne 9, 3) := by decide +kernel
theorem dX11_comparison_33 : decode cX11_comparison 33 = .ok (.aload_n 0, 1) := by decide +kernel
theorem dX11_comparison_34 : decode cX11_comparison 34 = .ok (.invokevirtual 131, 3) := by decide +kernel
theorem dX11_comparison_37 : decode cX11_comparison 37 = .ok (.iconst 0, 1) := by decide +kernel
theorem dX11_comparison_38 : decode cX11_comparison 38 = .ok (.ireturn, 1) := by decide +kernel
theorem dX11_comparison_39 : decode cX11_comparison 39 = .ok (.aload_n 0, 1) := by decide +kernel
theorem dX11_comparison_40 : decode cX11_comparison 40 = .ok (.dup, 1) := by decide +kernel
theorem dX11_comparison_41 : decode cX11_comparison 41 = .ok (.getfield 119, 3) := by decide +kernel
theorem dX11_comparison_44 : decode cX11_comparison 44 = .ok (.iconst 1, 1) := by decide +kernel
theorem dX11_comparison_45 : decode cX11_comparison 45 = .ok (.iadd, 1) := by decide +kernel
theorem dX11_comparison_46 : decode cX11_comparison 46 = .ok (.putfield 119, 3) := by decide +kernel
theorem dX11_comparison_49 : decode cX11_comparison 49 = .ok (.aload_n 0, 1) := by decide +kernel
theorem dX11_comparison_50 : decode cX11_comparison 50 = .ok (.iload_n 2, 1) := by decide +kernel
theorem dX11_comparison_51 : decode cX11_comparison 51 = .ok (.iload_n 1, 1) := by decide +kernel
theorem dX11_comparison_52 : decode cX11_comparison 52 = .ok (.aload_n 0, 1) := by decide +kernel
theorem dX11_comparison_53 : decode cX11_comparison 53 = .ok (.invokevirtual 174, 3) := by decide +kernel
theorem dX11_comparison_56 : decode cX11_comparison 56 = .ok (.invokevirtual 177, 3) := by decide +kernel
theorem dX11_comparison_59 : decode cX11_comparison 59 = .ok (.ireturn, 1) := by decide +kernel
theorem dX11_single_0 : decode cX11_single 0 = .ok (.aload_n 0, 1) := by decide +kernel
theorem dX11_single_1 : decode cX11_single 1 = .ok (.bipush 21, 2) := by decide +kernel
theorem dX11_single_3 : decode cX11_single 3 = .ok (.invokevirtual 128, 3) := by decide +kernel
theorem dX11_single_6 : decode cX11_single 6 = .ok (.ifCond .eq 31, 3) := by decide +kernel
theorem dX11_single_9 : decode cX11_single 9 = .ok (.aload_n 0, 1) := by decide +kernel
theorem dX11_single_10 : decode cX11_single 10 = .ok (.invokevirtual 171, 3) := by decide +kernel
theorem dX11_single_13 : decode cX11_single 13 = .ok (.aload_n 0, 1) := by decide +kernel
theorem dX11_single_14 : decode cX11_single 14 = .ok (.invokevirtual 205, 3) := by decide +kernel
theorem dX11_single_17 : decode cX11_single 17 = .ok (.istore_n 1, 1) := by decide +kernel
theorem dX11_single_18 : decode cX11_single 18 = .ok (.aload_n 0, 1) := by decide +kernel
theorem dX11_single_19 : decode cX11_single 19 = .ok (.dup, 1) := by decide +kernel
theorem dX11_single_20 : decode cX11_single 20 = .ok (.getfield 134, 3) := by decide +kernel
theorem dX11_single_23 : decode cX11_single 23 = .ok (.iconst 1, 1) := by decide +kernel
theorem dX11_single_24 : decode cX11_single 24 = .ok (.isub, 1) := by decide +kernel
theorem dX11_single_25 : decode cX11_single 25 = .ok (.putfield 134, 3) := by decide +kernel
theorem dX11_single_28 : decode cX11_single 28 = .ok (.aload_n 0, 1) := by decide +kernel
theorem dX11_single_29 : decode cX11_single 29 = .ok (.bipush 21, 2) := by decide +kernel
theorem dX11_single_31 : decode cX11_single 31 = .ok (.iload_n 1, 1) := by decide +kernel
theorem dX11_single_32 : decode cX11_single 32 = .ok (.iconst 0, 1) := by decide +kernel
theorem dX11_single_33 : decode cX11_single 33 = .ok (.invokevirtual 177, 3) := by decide +kernel
theorem dX11_single_36 : decode cX11_single 36 = .ok (.ireturn, 1) := by decide +kernel
theorem dX11_single_37 : decode cX11_single 37 = .ok (.aload_n 0, 1) := by decide +kernel
theorem dX11_single_38 : decode cX11_single 38 = .ok (.bipush 51, 2) := by decide +kernel
theorem dX11_single_40 : decode cX11_single 40 = .ok (.invokevirtual 128, 3) := by decide +kernel
theorem dX11_single_43 : decode cX11_single 43 = .ok (.ifCond .eq 30, 3) := by decide +kernel
theorem dX11_single_46 : decode cX11_single 46 = .ok (.aload_n 0, 1) := by decide +kernel
theorem dX11_single_47 : decode cX11_single 47 = .ok (.invokevirtual 171, 3) := by decide +kernel
theorem dX11_single_50 : decode cX11_single 50 = .ok (.aload_n 0, 1) := by decide +kernel
theorem dX11_single_51 : decode cX11_single 51 = .ok (.invokevirtual 208, 3) := by decide +kernel
theorem dX11_single_54 : decode cX11_single 54 = .ok (.istore_n 1, 1) := by decide +kernel
theorem dX11_single_55 : decode cX11_single 55 = .ok (.aload_n 0, 1) := by decide +kernel
theorem dX11_single_56 : decode cX11_single 56 = .ok (.bipush 52, 2) := by decide +kernel
theorem dX11_single_58 : decode cX11_single 58 = .ok (.invokevirtual 163, 3) := by decide +kernel
theorem dX11_single_61 : decode cX11_single 61 = .ok (.aload_n 0, 1) := by decide +kernel
theorem dX11_single_62 : decode cX11_single 62 = .ok (.dup, 1) := by decide +kernel
theorem dX11_single_63 : decode cX11_single 63 = .ok (.getfield 134, 3) := by decide +kernel
theorem dX11_single_66 : decode cX11_single 66 = .ok (.iconst 1, 1) := by decide +kernel
theorem dX11_single_67 : decode cX11_single 67 = .ok (.isub, 1) := by decide +kernel
theorem dX11_single_68 : decode cX11_single 68 = .ok (.putfield 134, 3) := by decide +kernel
theorem dX11_single_71 : decode cX11_single 71 = .ok (.iload_n 1, 1) := by decide +kernel
theorem dX11_single_72 : decode cX11_single 72 = .ok (.ireturn, 1) := by decide +kernel
theorem dX11_single_73 : decode cX11_single 73 = .ok (.aload_n 0, 1) := by decide +kernel
theorem dX11_single_74 : decode cX11_single 74 = .ok (.bipush 19, 2) := by decide +kernel
theorem dX11_single_76 : decode cX11_single 76 = .ok (.invokevirtual 184, 3) := by decide +kernel
theorem dX11_single_79 : decode cX11_single 79 = .ok (.ifCond .eq 12, 3) := by decide +kernel
theorem dX11_single_82 : decode cX11_single 82 = .ok (.aload_n 0, 1) := by decide +kernel
theorem dX11_single_83 : decode cX11_single 83 = .ok (.bipush 19, 2) := by decide +kernel
theorem dX11_single_85 : decode cX11_single 85 = .ok (.iconst 0, 1) := by decide +kernel
theorem dX11_single_86 : decode cX11_single 86 = .ok (.iconst 0, 1) := by decide +kernel
theorem dX11_single_87 : decode cX11_single 87 = .ok (.invokevirtual 177, 3) := by decide +kernel
theorem dX11_single_90 : decode cX11_single 90 = .ok (.ireturn, 1) := by decide +kernel
theorem dX11_single_91 : decode cX11_single 91 = .ok (.aload_n 0, 1) := by decide +kernel
theorem dX11_single_92 : decode cX11_single 92 = .ok (.bipush 20, 2) := by decide +kernel
theorem dX11_single_94 : decode cX11_single 94 = .ok (.invokevirtual 184, 3) := by decide +kernel
theorem dX11_single_97 : decode cX11_single 97 = .ok (.ifCond .eq 17, 3) := by decide +kernel
theorem dX11_single_100 : decode cX11_single 100 = .ok (.aload_n 0, 1) := by decide +kernel
theorem dX11_single_101 : decode cX11_single 101 = .ok (.bipush 20, 2) := by decide +kernel
theorem dX11_single_103 : decode cX11_single 103 = .ok (.aload_n 0, 1) := by decide +kernel
theorem dX11_single_104 : decode cX11_single 104 = .ok (.invokevirtual 181, 3) := by decide +kernel
theorem dX11_single_107 : decode cX11_single 107 = .ok (.iconst 0, 1) := by decide +kernel
theorem dX11_single_108 : decode cX11_single 108 = .ok (.invokevirtual 177, 3) := by decide +kernel
theorem dX11_single_111 : decode cX11_single 111 = .ok (.goto 7, 3) := by decide +kernel
theorem dX11_single_114 : decode cX11_single 114 = .ok (.aload_n 0, 1) := by decide +kernel
theorem dX11_single_115 : decode cX11_single 115 = .ok (.invokevirtual 211, 3) := by decide +kernel
theorem dX11_single_118 : decode cX11_single 118 = .ok (.ireturn, 1) := by decide +kernel
theorem dX11_both_0 : decode cX11_both 0 = .ok (.aload_n 0, 1) := by decide +kernel
theorem dX11_both_1 : decode cX11_both 1 = .ok (.invokevirtual 205, 3) := by decide +kernel
theorem dX11_both_4 : decode cX11_both 4 = .ok (.istore_n 1, 1) := by decide +kernel
theorem dX11_both_5 : decode cX11_both 5 = .ok (.aload_n 0, 1) := by decide +kernel
theorem dX11_both_6 : decode cX11_both 6 = .ok (.bipush 22, 2) := by decide +kernel
theorem dX11_both_8 : decode cX11_both 8 = .ok (.invokevirtual 184, 3) := by decide +kernel
theorem dX11_both_11 : decode cX11_both 11 = .ok (.ifCond .eq 18, 3) := by decide +kernel
theorem dX11_both_14 : decode cX11_both 14 = .ok (.aload_n 0, 1) := by decide +kernel
theorem dX11_both_15 : decode cX11_both 15 = .ok (.bipush 22, 2) := by decide +kernel
theorem dX11_both_17 : decode cX11_both 17 = .ok (.iload_n 1, 1) := by decide +kernel
theorem dX11_both_18 : decode cX11_both 18 = .ok (.aload_n 0, 1) := by decide +kernel
theorem dX11_both_19 : decode cX11_both 19 = .ok (.invokevirtual 205, 3) := by decide +kernel
theorem dX11_both_22 : decode cX11_both 22 = .ok (.invokevirtual 177, 3) := by decide +kernel
theorem dX11_both_25 : decode cX11_both 25 = .ok (.istore_n 1, 1) := by decide +kernel
theorem dX11_both_26 : decode cX11_both 26 = .ok (.goto (-21), 3) := by decide +kernel
theorem dX11_both_29 : decode cX11_both 29 = .ok (.iload_n 1, 1) := by decide +kernel
theorem dX11_both_30 : decode cX11_both 30 = .ok (.ireturn, 1) := by decide +kernel
theorem dX11_test_0 : decode cX11_test 0 = .ok (.aload_n 0, 1) := by decide +kernel
theorem dX11_test_1 : decode cX11_test 1 = .ok (.invokevirtual 214, 3) := by decide +kernel
theorem dX11_test_4 : decode cX11_test 4 = .ok (.istore_n 1, 1) := by decide +kernel
theorem dX11_test_5 : decode cX11_test 5 = .ok (.aload_n 0, 1) := by decide +kernel
theorem dX11_test_6 : decode cX11_test 6 = .ok (.bipush 23, 2) := by decide +kernel
theorem dX11_test_8 : decode cX11_test 8 = .ok (.invokevirtual 184, 3) := by decide +kernel
theorem dX11_test_11 : decode cX11_test 11 = .ok (.ifCond .eq 18, 3) := by decide +kernel
theorem dX11_test_14 : decode cX11_test 14 = .ok (.aload_n 0, 1) := by decide +kernel
theorem dX11_test_15 : decode cX11_test 15 = .ok (.bipush 23, 2) := by decide +kernel
theorem dX11_test_17 : decode cX11_test 17 = .ok (.iload_n 1, 1) := by decide +kernel
theorem dX11_test_18 : decode cX11_test 18 = .ok (.aload_n 0, 1) := by decide +kernel
theorem dX11_test_19 : decode cX11_test 19 = .ok (.invokevirtual 214, 3) := by decide +kernel
theorem dX11_test_22 : decode cX11_test 22 = .ok (.invokevirtual 177, 3) := by decide +kernel
theorem dX11_test_25 : decode cX11_test 25 = .ok (.istore_n 1, 1) := by decide +kernel
theorem dX11_test_26 : decode cX11_test 26 = .ok (.goto (-21), 3) := by decide +kernel
theorem dX11_test_29 : decode cX11_test 29 = .ok (.iload_n 1, 1) := by decide +kernel
theorem dX11_test_30 : decode cX11_test 30 = .ok (.ireturn, 1) := by decide +kernel
theorem dX11_numberTo_0 : decode cX11_numberTo 0 = .ok (.aload_n 0, 1) := by decide +kernel
theorem dX11_numberTo_1 : decode cX11_numberTo 1 = .ok (.getfield 20, 3) := by decide +kernel
theorem dX11_numberTo_4 : decode cX11_numberTo 4 = .ok (.aload_n 0, 1) := by decide +kernel
theorem dX11_numberTo_5 : decode cX11_numberTo 5 = .ok (.getfield 119, 3) := by decide +kernel
theorem dX11_numberTo_8 : decode cX11_numberTo 8 = .ok (.iaload, 1) := by decide +kernel
theorem dX11_numberTo_9 : decode cX11_numberTo 9 = .ok (.istore_n 2, 1) := by decide +kernel
theorem dX11_numberTo_10 : decode cX11_numberTo 10 = .ok (.aload_n 0, 1) := by decide +kernel
theorem dX11_numberTo_11 : decode cX11_numberTo 11 = .ok (.bipush 31, 2) := by decide +kernel
theorem dX11_numberTo_13 : decode cX11_numberTo 13 = .ok (.invokevirtual 128, 3) := by decide +kernel
theorem dX11_numberTo_16 : decode cX11_numberTo 16 = .ok (.ifCond .eq 13, 3) := by decide +kernel
theorem dX11_numberTo_19 : decode cX11_numberTo 19 = .ok (.iload_n 2, 1) := by decide +kernel
theorem dX11_numberTo_20 : decode cX11_numberTo 20 = .ok (.iload_n 1, 1) := by decide +kernel
theorem dX11_numberTo_21 : decode cX11_numberTo 21 = .ok (.if_icmp .le 8, 3) := by decide +kernel
theorem dX11_numberTo_24 : decode cX11_numberTo 24 = .ok (.aload_n 0, 1) := by decide +kernel
theorem dX11_numberTo_25 : decode cX11_numberTo 25 = .ok (.iconst 5, 1) := by decide +kernel
theorem dX11_numberTo_26 : decode cX11_numberTo 26 = .ok (.invokevirtual 159, 3) := by decide +kernel
theorem dX11_numberTo_29 : decode cX11_numberTo 29 = .ok (.aload_n 0, 1) := by decide +kernel
theorem dX11_numberTo_30 : decode cX11_numberTo 30 = .ok (.bipush 31, 2) := by decide +kernel
theorem dX11_numberTo_32 : decode cX11_numberTo 32 = .ok (.invokevirtual 163, 3) := by decide +kernel
theorem dX11_numberTo_35 : decode cX11_numberTo 35 = .ok (.iload_n 2, 1) := by decide +kernel
theorem dX11_numberTo_36 : decode cX11_numberTo 36 = .ok (.ireturn, 1) := by decide +kernel
theorem dX11_mirror_0 : decode cX11_mirror 0 = .ok (.bipush 10, 2) := by decide +kernel
theorem dX11_mirror_2 : decode cX11_mirror 2 = .ok (.aload_n 0, 1) := by decide +kernel
theorem dX11_mirror_3 : decode cX11_mirror 3 = .ok (.getfield 39, 3) := by decide +kernel
theorem dX11_mirror_6 : decode cX11_mirror 6 = .ok (.getfield 149, 3) := by decide +kernel
theorem dX11_mirror_9 : decode cX11_mirror 9 = .ok (.invokestatic 217, 3) := by decide +kernel
theorem dX11_mirror_12 : decode cX11_mirror 12 = .ok (.istore_n 1, 1) := by decide +kernel
theorem dX11_mirror_13 : decode cX11_mirror 13 = .ok (.aload_n 0, 1) := by decide +kernel
theorem dX11_mirror_14 : decode cX11_mirror 14 = .ok (.bipush 30, 2) := by decide +kernel
theorem dX11_mirror_16 : decode cX11_mirror 16 = .ok (.invokevirtual 128, 3) := by decide +kernel
theorem dX11_mirror_19 : decode cX11_mirror 19 = .ok (.ifCond .eq 16, 3) := by decide +kernel
theorem dX11_mirror_22 : decode cX11_mirror 22 = .ok (.aload_n 0, 1) := by decide +kernel
theorem dX11_mirror_23 : decode cX11_mirror 23 = .ok (.invokevirtual 156, 3) := by decide +kernel
theorem dX11_mirror_26 : decode cX11_mirror 26 = .ok (.iconst (-1), 1) := by decide +kernel
theorem dX11_mirror_27 : decode cX11_mirror 27 = .ok (.if_icmp .eq 8, 3) := by decide +kernel
theorem dX11_mirror_30 : decode cX11_mirror 30 = .ok (.aload_n 0, 1) := by decide +kernel
theorem dX11_mirror_31 : decode cX11_mirror 31 = .ok (.iconst 2, 1) := by decide +kernel
theorem dX11_mirror_32 : decode cX11_mirror 32 = .ok (.invokevirtual 159, 3) := by decide +kernel
theorem dX11_mirror_35 : decode cX11_mirror 35 = .ok (.aload_n 0, 1) := by decide +kernel
theorem dX11_mirror_36 : decode cX11_mirror 36 = .ok (.bipush 30, 2) := by decide +kernel
theorem dX11_mirror_38 : decode cX11_mirror 38 = .ok (.invokevirtual 128, 3) := by decide +kernel
theorem dX11_mirror_41 : decode cX11_mirror 41 = .ok (.ifCond .eq 14, 3) := by decide +kernel
theorem dX11_mirror_44 : decode cX11_mirror 44 = .ok (.iload_n 1, 1) := by decide +kernel
theorem dX11_mirror_45 : decode cX11_mirror 45 = .ok (.bipush 10, 2) := by decide +kernel
theorem dX11_mirror_47 : decode cX11_mirror 47 = .ok (.if_icmp .ne 8, 3) := by decide +kernel
theorem dX11_mirror_50 : decode cX11_mirror 50 = .ok (.aload_n 0, 1) := by decide +kernel
theorem dX11_mirror_51 : decode cX11_mirror 51 = .ok (.iconst 4, 1) := by decide +kernel
theorem dX11_mirror_52 : decode cX11_mirror 52 = .ok (.invokevirtual 159, 3) := by decide +kernel
theorem dX11_mirror_55 : decode cX11_mirror 55 = .ok (.aload_n 0, 1) := by decide +kernel
theorem dX11_mirror_56 : decode cX11_mirror 56 = .ok (.bipush 30, 2) := by decide +kernel
theorem dX11_mirror_58 : decode cX11_mirror 58 = .ok (.invokevirtual 128, 3) := by decide +kernel
theorem dX11_mirror_61 : decode cX11_mirror 61 = .ok (.ifCond .eq 19, 3) := by decide +kernel
theorem dX11_mirror_64 : decode cX11_mirror 64 = .ok (.iload_n 1, 1) := by decide +kernel
theorem dX11_mirror_65 : decode cX11_mirror 65 = .ok (.bipush 10, 2) := by decide +kernel
theorem dX11_mirror_67 : decode cX11_mirror 67 = .ok (.if_icmp .ge 13, 3) := by decide +kernel
theorem dX11_mirror_70 : decode cX11_mirror 70 = .ok (.aload_n 0, 1) := by decide +kernel
theorem dX11_mirror_71 : decode cX11_mirror 71 = .ok (.getfield 29, 3) := by decide +kernel
theorem dX11_mirror_74 : decode cX11_mirror 74 = .ok (.iload_n 1, 1) := by decide +kernel
theorem dX11_mirror_75 : decode cX11_mirror 75 = .ok (.aload_n 0, 1) := by decide +kernel
theorem dX11_mirror_76 : decode cX11_mirror 76 = .ok (.getfield 119, 3) := by decide +kernel
theorem dX11_mirror_79 : decode cX11_mirror 79 = .ok (.iastore, 1) := by decide +kernel
theorem dX11_mirror_80 : decode cX11_mirror 80 = .ok (.aload_n 0, 1) := by decide +kernel
theorem dX11_mirror_81 : decode cX11_mirror 81 = .ok (.bipush 30, 2) := by decide +kernel
theorem dX11_mirror_83 : decode cX11_mirror 83 = .ok (.invokevirtual 163, 3) := by decide +kernel
theorem dX11_mirror_86 : decode cX11_mirror 86 = .ok (.aload_n 0, 1) := by decide +kernel
theorem dX11_mirror_87 : decode cX11_mirror 87 = .ok (.iconst 1, 1) := by decide +kernel
theorem dX11_mirror_88 : decode cX11_mirror 88 = .ok (.invokevirtual 163, 3) := by decide +kernel
theorem dX11_mirror_91 : decode cX11_mirror 91 = .ok (.aload_n 0, 1) := by decide +kernel
theorem dX11_mirror_92 : decode cX11_mirror 92 = .ok (.getfield 39, 3) := by decide +kernel
theorem dX11_mirror_95 : decode cX11_mirror 95 = .ok (.getfield 220, 3) := by decide +kernel
theorem dX11_mirror_98 : decode cX11_mirror 98 = .ok (.iload_n 1, 1) := by decide +kernel
theorem dX11_mirror_99 : decode cX11_mirror 99 = .ok (.aload_n 0, 1) := by decide +kernel
theorem dX11_mirror_100 : decode cX11_mirror 100 = .ok (.bipush 100, 2) := by decide +kernel
theorem dX11_mirror_102 : decode cX11_mirror 102 = .ok (.invokevirtual 223, 3) := by decide +kernel
theorem dX11_mirror_105 : decode cX11_mirror 105 = .ok (.iastore, 1) := by decide +kernel
theorem dX11_mirror_106 : decode cX11_mirror 106 = .ok (.aload_n 0, 1) := by decide +kernel
theorem dX11_mirror_107 : decode cX11_mirror 107 = .ok (.iconst 2, 1) := by decide +kernel
theorem dX11_mirror_108 : decode cX11_mirror 108 = .ok (.invokevirtual 163, 3) := by decide +kernel
theorem dX11_mirror_111 : decode cX11_mirror 111 = .ok (.aload_n 0, 1) := by decide +kernel
theorem dX11_mirror_112 : decode cX11_mirror 112 = .ok (.bipush 41, 2) := by decide +kernel
theorem dX11_mirror_114 : decode cX11_mirror 114 = .ok (.invokevirtual 184, 3) := by decide +kernel
theorem dX11_mirror_117 : decode cX11_mirror 117 = .ok (.ifCond .eq 7, 3) := by decide +kernel
theorem dX11_mirror_120 : decode cX11_mirror 120 = .ok (.iconst (-1), 1) := by decide +kernel
theorem dX11_mirror_121 : decode cX11_mirror 121 = .ok (.goto 4, 3) := by decide +kernel
theorem dX11_mirror_124 : decode cX11_mirror 124 = .ok (.iconst 1, 1) := by decide +kernel
theorem dX11_mirror_125 : decode cX11_mirror 125 = .ok (.istore_n 2, 1) := by decide +kernel
theorem dX11_mirror_126 : decode cX11_mirror 126 = .ok (.aload_n 0, 1) := by decide +kernel
theorem dX11_mirror_127 : decode cX11_mirror 127 = .ok (.getfield 39, 3) := by decide +kernel
theorem dX11_mirror_130 : decode cX11_mirror 130 = .ok (.getfield 226, 3) := by decide +kernel
theorem dX11_mirror_133 : decode cX11_mirror 133 = .ok (.iload_n 1, 1) := by decide +kernel
theorem dX11_mirror_134 : decode cX11_mirror 134 = .ok (.iload_n 2, 1) := by decide +kernel
theorem dX11_mirror_135 : decode cX11_mirror 135 = .ok (.aload_n 0, 1) := by decide +kernel
theorem dX11_mirror_136 : decode cX11_mirror 136 = .ok (.bipush 90, 2) := by decide +kernel
theorem dX11_mirror_138 : decode cX11_mirror 138 = .ok (.invokevirtual 223, 3) := by decide +kernel
theorem dX11_mirror_141 : decode cX11_mirror 141 = .ok (.imul, 1) := by decide +kernel
theorem dX11_mirror_142 : decode cX11_mirror 142 = .ok (.iastore, 1) := by decide +kernel
theorem dX11_mirror_143 : decode cX11_mirror 143 = .ok (.aload_n 0, 1) := by decide +kernel
theorem dX11_mirror_144 : decode cX11_mirror 144 = .ok (.getfield 39, 3) := by decide +kernel
theorem dX11_mirror_147 : decode cX11_mirror 147 = .ok (.bipush 10, 2) := by decide +kernel
theorem dX11_mirror_149 : decode cX11_mirror 149 = .ok (.iload_n 1, 1) := by decide +kernel
theorem dX11_mirror_150 : decode cX11_mirror 150 = .ok (.iconst 1, 1) := by decide +kernel
theorem dX11_mirror_151 : decode cX11_mirror 151 = .ok (.iadd, 1) := by decide +kernel
theorem dX11_mirror_152 : decode cX11_mirror 152 = .ok (.invokestatic 217, 3) := by decide +kernel
theorem dX11_mirror_155 : decode cX11_mirror 155 = .ok (.putfield 149, 3) := by decide +kernel
theorem dX11_mirror_158 : decode cX11_mirror 158 = .ok (.return_, 1) := by decide +kernel
theorem dX11_order_0 : decode cX11_order 0 = .ok (.bipush 16, 2) := by decide +kernel
theorem dX11_order_2 : decode cX11_order 2 = .ok (.aload_n 0, 1) := by decide +kernel
theorem dX11_order_3 : decode cX11_order 3 = .ok (.getfield 39, 3) := by decide +kernel
theorem dX11_order_6 : decode cX11_order 6 = .ok (.getfield 229, 3) := by decide +kernel
theorem dX11_order_9 : decode cX11_order 9 = .ok (.invokestatic 217, 3) := by decide +kernel
theorem dX11_order_12 : decode cX11_order 12 = .ok (.istore_n 2, 1) := by decide +kernel
theorem dX11_order_13 : decode cX11_order 13 = .ok (.iload_n 2, 1) := by decide +kernel
theorem dX11_order_14 : decode cX11_order 14 = .ok (.bipush 16, 2) := by decide +kernel
theorem dX11_order_16 : decode cX11_order 16 = .ok (.if_icmp .ne 8, 3) := by decide +kernel
theorem dX11_order_19 : decode cX11_order 19 = .ok (.aload_n 0, 1) := by decide +kernel
theorem dX11_order_20 : decode cX11_order 20 = .ok (.iconst 4, 1) := by decide +kernel
theorem dX11_order_21 : decode cX11_order 21 = .ok (.invokevirtual 159, 3) := by decide +kernel
theorem dX11_order_24 : decode cX11_order 24 = .ok (.aload_n 0, 1) := by decide +kernel
theorem dX11_order_25 : decode cX11_order 25 = .ok (.dup, 1) := by decide +kernel
theorem dX11_order_26 : decode cX11_order 26 = .ok (.getfield 119, 3) := by decide +kernel
theorem dX11_order_29 : decode cX11_order 29 = .ok (.iconst 1, 1) := by decide +kernel
theorem dX11_order_30 : decode cX11_order 30 = .ok (.iadd, 1) := by decide +kernel
theorem dX11_order_31 : decode cX11_order 31 = .ok (.putfield 119, 3) := by decide +kernel
theorem dX11_order_34 : decode cX11_order 34 = .ok (.aload_n 0, 1) := by decide +kernel
theorem dX11_order_35 : decode cX11_order 35 = .ok (.getfield 39, 3) := by decide +kernel
theorem dX11_order_38 : decode cX11_order 38 = .ok (.getfield 232, 3) := by decide +kernel
theorem dX11_order_41 : decode cX11_order 41 = .ok (.iload_n 2, 1) := by decide +kernel
theorem dX11_order_42 : decode cX11_order 42 = .ok (.aload_n 0, 1) := by decide +kernel
theorem dX11_order_43 : decode cX11_order 43 = .ok (.getfield 39, 3) := by decide +kernel
theorem dX11_order_46 : decode cX11_order 46 = .ok (.getfield 137, 3) := by decide +kernel
theorem dX11_order_49 : decode cX11_order 49 = .ok (.iastore, 1) := by decide +kernel
theorem dX11_order_50 : decode cX11_order 50 = .ok (.aload_n 0, 1) := by decide +kernel
theorem dX11_order_51 : decode cX11_order 51 = .ok (.getfield 39, 3) := by decide +kernel
theorem dX11_order_54 : decode cX11_order 54 = .ok (.getfield 235, 3) := by decide +kernel
theorem dX11_order_57 : decode cX11_order 57 = .ok (.iload_n 2, 1) := by decide +kernel
theorem dX11_order_58 : decode cX11_order 58 = .ok (.iload_n 1, 1) := by decide +kernel
theorem dX11_order_59 : decode cX11_order 59 = .ok (.iastore, 1) := by decide +kernel
theorem dX11_order_60 : decode cX11_order 60 = .ok (.aload_n 0, 1) := by decide +kernel
theorem dX11_order_61 : decode cX11_order 61 = .ok (.getfield 39, 3) := by decide +kernel
theorem dX11_order_64 : decode cX11_order 64 = .ok (.getfield 238, 3) := by decide +kernel
theorem dX11_order_67 : decode cX11_order 67 = .ok (.iload_n 2, 1) := by decide +kernel
theorem dX11_order_68 : decode cX11_order 68 = .ok (.aload_n 0, 1) := by decide +kernel
theorem dX11_order_69 : decode cX11_order 69 = .ok (.invokevirtual 181, 3) := by decide +kernel
theorem dX11_order_72 : decode cX11_order 72 = .ok (.iastore, 1) := by decide +kernel
theorem dX11_order_73 : decode cX11_order 73 = .ok (.aload_n 0, 1) := by decide +kernel
theorem dX11_order_74 : decode cX11_order 74 = .ok (.getfield 39, 3) := by decide +kernel
theorem dX11_order_77 : decode cX11_order 77 = .ok (.getfield 241, 3) := by decide +kernel
theorem dX11_order_80 : decode cX11_order 80 = .ok (.iload_n 2, 1) := by decide +kernel
theorem dX11_order_81 : decode cX11_order 81 = .ok (.iconst (-1), 1) := by decide +kernel
theorem dX11_order_82 : decode cX11_order 82 = .ok (.iastore, 1) := by decide +kernel
theorem dX11_order_83 : decode cX11_order 83 = .ok (.iload_n 1, 1) := by decide +kernel
theorem dX11_order_84 : decode cX11_order 84 = .ok (.iconst 3, 1) := by decide +kernel
theorem dX11_order_85 : decode cX11_order 85 = .ok (.if_icmp .lt 22, 3) := by decide +kernel
theorem dX11_order_88 : decode cX11_order 88 = .ok (.aload_n 0, 1) := by decide +kernel
theorem dX11_order_89 : decode cX11_order 89 = .ok (.bipush 6, 2) := by decide +kernel
theorem dX11_order_91 : decode cX11_order 91 = .ok (.invokevirtual 163, 3) := by decide +kernel
theorem dX11_order_94 : decode cX11_order 94 = .ok (.aload_n 0, 1) := by decide +kernel
theorem dX11_order_95 : decode cX11_order 95 = .ok (.getfield 39, 3) := by decide +kernel
theorem dX11_order_98 : decode cX11_order 98 = .ok (.getfield 241, 3) := by decide +kernel
theorem dX11_order_101 : decode cX11_order 101 = .ok (.iload_n 2, 1) := by decide +kernel
theorem dX11_order_102 : decode cX11_order 102 = .ok (.aload_n 0, 1) := by decide +kernel
theorem dX11_order_103 : decode cX11_order 103 = .ok (.invokevirtual 174, 3) := by decide +kernel
theorem dX11_order_106 : decode cX11_order 106 = .ok (.iastore, 1) := by decide +kernel
theorem dX11_order_107 : decode cX11_order 107 = .ok (.aload_n 0, 1) := by decide +kernel
theorem dX11_order_108 : decode cX11_order 108 = .ok (.getfield 39, 3) := by decide +kernel
theorem dX11_order_111 : decode cX11_order 111 = .ok (.getfield 243, 3) := by decide +kernel
theorem dX11_order_114 : decode cX11_order 114 = .ok (.iload_n 2, 1) := by decide +kernel
theorem dX11_order_115 : decode cX11_order 115 = .ok (.aload_n 0, 1) := by decide +kernel
theorem dX11_order_116 : decode cX11_order 116 = .ok (.bipush 11, 2) := by decide +kernel
theorem dX11_order_118 : decode cX11_order 118 = .ok (.invokevirtual 184, 3) := by decide +kernel
theorem dX11_order_121 : decode cX11_order 121 = .ok (.ifCond .eq 10, 3) := by decide +kernel
theorem dX11_order_124 : decode cX11_order 124 = .ok (.aload_n 0, 1) := by decide +kernel
theorem dX11_order_125 : decode cX11_order 125 = .ok (.invokevirtual 208, 3) := by decide +kernel
theorem dX11_order_128 : decode cX11_order 128 = .ok (.goto 4, 3) := by decide +kernel
theorem dX11_order_131 : decode cX11_order 131 = .ok (.iconst (-1), 1) := by decide +kernel
theorem dX11_order_132 : decode cX11_order 132 = .ok (.iastore, 1) := by decide +kernel
theorem dX11_order_133 : decode cX11_order 133 = .ok (.aload_n 0, 1) := by decide +kernel
theorem dX11_order_134 : decode cX11_order 134 = .ok (.getfield 39, 3) := by decide +kernel
theorem dX11_order_137 : decode cX11_order 137 = .ok (.getfield 245, 3) := by decide +kernel
theorem dX11_order_140 : decode cX11_order 140 = .ok (.iload_n 2, 1) := by decide +kernel
theorem dX11_order_141 : decode cX11_order 141 = .ok (.aload_n 0, 1) := by decide +kernel
theorem dX11_order_142 : decode cX11_order 142 = .ok (.getfield 39, 3) := by decide +kernel
theorem dX11_order_145 : decode cX11_order 145 = .ok (.getfield 137, 3) := by decide +kernel
theorem dX11_order_148 : decode cX11_order 148 = .ok (.iastore, 1) := by decide +kernel
theorem dX11_order_149 : decode cX11_order 149 = .ok (.aload_n 0, 1) := by decide +kernel
theorem dX11_order_150 : decode cX11_order 150 = .ok (.getfield 39, 3) := by decide +kernel
theorem dX11_order_153 : decode cX11_order 153 = .ok (.bipush 16, 2) := by decide +kernel
theorem dX11_order_155 : decode cX11_order 155 = .ok (.iload_n 2, 1) := by decide +kernel
theorem dX11_order_156 : decode cX11_order 156 = .ok (.iconst 1, 1) := by decide +kernel
theorem dX11_order_157 : decode cX11_order 157 = .ok (.iadd, 1) := by decide +kernel
theorem dX11_order_158 : decode cX11_order 158 = .ok (.invokestatic 217, 3) := by decide +kernel
theorem dX11_order_161 : decode cX11_order 161 = .ok (.putfield 229, 3) := by decide +kernel
theorem dX11_order_164 : decode cX11_order 164 = .ok (.return_, 1) := by decide +kernel
theorem dX11_line_0 : decode cX11_line 0 = .ok (.aload_n 0, 1) := by decide +kernel
theorem dX11_line_1 : decode cX11_line 1 = .ok (.iconst 0, 1) := by decide +kernel
theorem dX11_line_2 : decode cX11_line 2 = .ok (.invokevirtual 184, 3) := by decide +kernel
theorem dX11_line_5 : decode cX11_line 5 = .ok (.ifCond .eq 10, 3) := by decide +kernel
theorem dX11_line_8 : decode cX11_line 8 = .ok (.aload_n 0, 1) := by decide +kernel
theorem dX11_line_9 : decode cX11_line 9 = .ok (.invokevirtual 248, 3) := by decide +kernel
theorem dX11_line_12 : decode cX11_line 12 = .ok (.goto 128, 3) := by decide +kernel
theorem dX11_line_15 : decode cX11_line 15 = .ok (.aload_n 0, 1) := by decide +kernel
theorem dX11_line_16 : decode cX11_line 16 = .ok (.iconst 3, 1) := by decide +kernel
theorem dX11_line_17 : decode cX11_line 17 = .ok (.invokevirtual 184, 3) := by decide +kernel
theorem dX11_line_20 : decode cX11_line 20 = .ok (.ifCond .eq 20, 3) := by decide +kernel
theorem dX11_line_23 : decode cX11_line 23 = .ok (.aload_n 0, 1) := by decide +kernel
theorem dX11_line_24 : decode cX11_line 24 = .ok (.getfield 39, 3) := by decide +kernel
theorem dX11_line_27 : decode cX11_line 27 = .ok (.aload_n 0, 1) := by decide +kernel
theorem dX11_line_28 : decode cX11_line 28 = .ok (.sipush 180, 3) := by decide +kernel
theorem dX11_line_31 : decode cX11_line 31 = .ok (.invokevirtual 223, 3) := by decide +kernel
theorem dX11_line_34 : decode cX11_line 34 = .ok (.putfield 250, 3) := by decide +kernel
theorem dX11_line_37 : decode cX11_line 37 = .ok (.goto 103, 3) := by decide +kernel
theorem dX11_line_40 : decode cX11_line 40 = .ok (.aload_n 0, 1) := by decide +kernel
theorem dX11_line_41 : decode cX11_line 41 = .ok (.iconst 4, 1) := by decide +kernel
theorem dX11_line_42 : decode cX11_line 42 = .ok (.invokevirtual 184, 3) := by decide +kernel
theorem dX11_line_45 : decode cX11_line 45 = .ok (.ifCond .eq 20, 3) := by decide +kernel
theorem dX11_line_48 : decode cX11_line 48 = .ok (.aload_n 0, 1) := by decide +kernel
theorem dX11_line_49 : decode cX11_line 49 = .ok (.getfield 39, 3) := by decide +kernel
theorem dX11_line_52 : decode cX11_line 52 = .ok (.aload_n 0, 1) := by decide +kernel
theorem dX11_line_53 : decode cX11_line 53 = .ok (.sipush 10000, 3) := by decide +kernel
theorem dX11_line_56 : decode cX11_line 56 = .ok (.invokevirtual 223, 3) := by decide +kernel
theorem dX11_line_59 : decode cX11_line 59 = .ok (.putfield 253, 3) := by decide +kernel
theorem dX11_line_62 : decode cX11_line 62 = .ok (.goto 78, 3) := by decide +kernel
theorem dX11_line_65 : decode cX11_line 65 = .ok (.aload_n 0, 1) := by decide +kernel
theorem dX11_line_66 : decode cX11_line 66 = .ok (.iconst 5, 1) := by decide +kernel
theorem dX11_line_67 : decode cX11_line 67 = .ok (.invokevirtual 128, 3) := by decide +kernel
theorem dX11_line_70 : decode cX11_line 70 = .ok (.ifCond .eq 11, 3) := by decide +kernel
theorem dX11_line_73 : decode cX11_line 73 = .ok (.aload_n 0, 1) := by decide +kernel
theorem dX11_line_74 : decode cX11_line 74 = .ok (.iconst 3, 1) := by decide +kernel
theorem dX11_line_75 : decode cX11_line 75 = .ok (.invokevirtual 256, 3) := by decide +kernel
theorem dX11_line_78 : decode cX11_line 78 = .ok (.goto 62, 3) := by decide +kernel
theorem dX11_line_81 : decode cX11_line 81 = .ok (.aload_n 0, 1) := by decide +kernel
theorem dX11_line_82 : decode cX11_line 82 = .ok (.bipush 7, 2) := by decide +kernel
theorem dX11_line_84 : decode cX11_line 84 = .ok (.invokevirtual 128, 3) := by decide +kernel
theorem dX11_line_87 : decode cX11_line 87 = .ok (.ifCond .eq 11, 3) := by decide +kernel
theorem dX11_line_90 : decode cX11_line 90 = .ok (.aload_n 0, 1) := by decide +kernel
theorem dX11_line_91 : decode cX11_line 91 = .ok (.iconst 4, 1) := by decide +kernel
theorem dX11_line_92 : decode cX11_line 92 = .ok (.invokevirtual 256, 3) := by decide +kernel
theorem dX11_line_95 : decode cX11_line 95 = .ok (.goto 45, 3) := by decide +kernel
theorem dX11_line_98 : decode cX11_line 98 = .ok (.aload_n 0, 1) := by decide +kernel
theorem dX11_line_99 : decode cX11_line 99 = .ok (.getfield 17, 3) := by decide +kernel
theorem dX11_line_102 : decode cX11_line 102 = .ok (.aload_n 0, 1) := by decide +kernel
theorem dX11_line_103 : decode cX11_line 103 = .ok (.getfield 119, 3) := by decide +kernel
theorem dX11_line_106 : decode cX11_line 106 = .ok (.iaload, 1) := by decide +kernel
theorem dX11_line_107 : decode cX11_line 107 = .ok (.bipush 8, 2) := by decide +kernel
theorem dX11_line_109 : decode cX11_line 109 = .ok (.bipush 10, 2) := by decide +kernel
theorem dX11_line_111 : decode cX11_line 111 = .ok (.invokestatic 67, 3) := by decide +kernel
theorem dX11_line_114 : decode cX11_line 114 = .ok (.ifCond .eq 22, 3) := by decide +kernel
theorem dX11_line_117 : decode cX11_line 117 = .ok (.aload_n 0, 1) := by decide +kernel
theorem dX11_line_118 : decode cX11_line 118 = .ok (.aload_n 0, 1) := by decide +kernel
theorem dX11_line_119 : decode cX11_line 119 = .ok (.getfield 17, 3) := by decide +kernel
theorem dX11_line_122 : decode cX11_line 122 = .ok (.aload_n 0, 1) := by decide +kernel
theorem dX11_line_123 : decode cX11_line 123 = .ok (.getfield 119, 3) := by decide +kernel
theorem dX11_line_126 : decode cX11_line 126 = .ok (.iaload, 1) := by decide +kernel
theorem dX11_line_127 : decode cX11_line 127 = .ok (.bipush 8, 2) := by decide +kernel
theorem dX11_line_129 : decode cX11_line 129 = .ok (.isub, 1) := by decide +kernel
theorem dX11_line_130 : decode cX11_line 130 = .ok (.invokevirtual 256, 3) := by decide +kernel
theorem dX11_line_133 : decode cX11_line 133 = .ok (.goto 7, 3) := by decide +kernel
theorem dX11_line_136 : decode cX11_line 136 = .ok (.aload_n 0, 1) := by decide +kernel
theorem dX11_line_137 : decode cX11_line 137 = .ok (.invokevirtual 131, 3) := by decide +kernel
theorem dX11_line_140 : decode cX11_line 140 = .ok (.return_, 1) := by decide +kernel
theorem dX11_train_0 : decode cX11_train 0 = .ok (.aload_n 0, 1) := by decide +kernel
theorem dX11_train_1 : decode cX11_train 1 = .ok (.getfield 115, 3) := by decide +kernel
theorem dX11_train_4 : decode cX11_train 4 = .ok (.ifCond .ne 30, 3) := by decide +kernel
theorem dX11_train_7 : decode cX11_train 7 = .ok (.aload_n 0, 1) := by decide +kernel
theorem dX11_train_8 : decode cX11_train 8 = .ok (.getfield 17, 3) := by decide +kernel
theorem dX11_train_11 : decode cX11_train 11 = .ok (.aload_n 0, 1) := by decide +kernel
theorem dX11_train_12 : decode cX11_train 12 = .ok (.getfield 119, 3) := by decide +kernel
theorem dX11_train_15 : decode cX11_train 15 = .ok (.iaload, 1) := by decide +kernel
theorem dX11_train_16 : decode cX11_train 16 = .ok (.bipush 33, 2) := by decide +kernel
theorem dX11_train_18 : decode cX11_train 18 = .ok (.if_icmp .eq 16, 3) := by decide +kernel
theorem dX11_train_21 : decode cX11_train 21 = .ok (.aload_n 0, 1) := by decide +kernel
theorem dX11_train_22 : decode cX11_train 22 = .ok (.invokevirtual 259, 3) := by decide +kernel
theorem dX11_train_25 : decode cX11_train 25 = .ok (.aload_n 0, 1) := by decide +kernel
theorem dX11_train_26 : decode cX11_train 26 = .ok (.bipush 53, 2) := by decide +kernel
theorem dX11_train_28 : decode cX11_train 28 = .ok (.invokevirtual 163, 3) := by decide +kernel
theorem dX11_train_31 : decode cX11_train 31 = .ok (.goto (-31), 3) := by decide +kernel
theorem dX11_train_34 : decode cX11_train 34 = .ok (.return_, 1) := by decide +kernel
theorem dX11_feed_0 : decode cX11_feed 0 = .ok (.aload_n 0, 1) := by decide +kernel
theorem dX11_feed_1 : decode cX11_feed 1 = .ok (.iconst 0, 1) := by decide +kernel
theorem dX11_feed_2 : decode cX11_feed 2 = .ok (.putfield 64, 3) := by decide +kernel
theorem dX11_feed_5 : decode cX11_feed 5 = .ok (.aload_n 0, 1) := by decide +kernel
theorem dX11_feed_6 : decode cX11_feed 6 = .ok (.getfield 71, 3) := by decide +kernel
theorem dX11_feed_9 : decode cX11_feed 9 = .ok (.bipush 20, 2) := by decide +kernel
theorem dX11_feed_11 : decode cX11_feed 11 = .ok (.iadd, 1) := by decide +kernel
theorem dX11_feed_12 : decode cX11_feed 12 = .ok (.sipush 2000, 3) := by decide +kernel
theorem dX11_feed_15 : decode cX11_feed 15 = .ok (.if_icmp .le 9, 3) := by decide +kernel
theorem dX11_feed_18 : decode cX11_feed 18 = .ok (.aload_n 0, 1) := by decide +kernel
theorem dX11_feed_19 : decode cX11_feed 19 = .ok (.iconst 1, 1) := by decide +kernel
theorem dX11_feed_20 : decode cX11_feed 20 = .ok (.invokevirtual 262, 3) := by decide +kernel
theorem dX11_feed_23 : decode cX11_feed 23 = .ok (.ireturn, 1) := by decide +kernel
theorem dX11_feed_24 : decode cX11_feed 24 = .ok (.iconst 5, 1) := by decide +kernel
theorem dX11_feed_25 : decode cX11_feed 25 = .ok (.newarray .int, 2) := by decide +kernel
theorem dX11_feed_27 : decode cX11_feed 27 = .ok (.dup, 1) := by decide +kernel
theorem dX11_feed_28 : decode cX11_feed 28 = .ok (.iconst 0, 1) := by decide +kernel
theorem dX11_feed_29 : decode cX11_feed 29 = .ok (.iload_n 1, 1) := by decide +kernel
theorem dX11_feed_30 : decode cX11_feed 30 = .ok (.iastore, 1) := by decide +kernel
theorem dX11_feed_31 : decode cX11_feed 31 = .ok (.dup, 1) := by decide +kernel
theorem dX11_feed_32 : decode cX11_feed 32 = .ok (.iconst 1, 1) := by decide +kernel
theorem dX11_feed_33 : decode cX11_feed 33 = .ok (.iload_n 2, 1) := by decide +kernel
theorem dX11_feed_34 : decode cX11_feed 34 = .ok (.iastore, 1) := by decide +kernel
theorem dX11_feed_35 : decode cX11_feed 35 = .ok (.dup, 1) := by decide +kernel
theorem dX11_feed_36 : decode cX11_feed 36 = .ok (.iconst 2, 1) := by decide +kernel
theorem dX11_feed_37 : decode cX11_feed 37 = .ok (.iload_n 3, 1) := by decide +kernel
theorem dX11_feed_38 : decode cX11_feed 38 = .ok (.iastore, 1) := by decide +kernel
theorem dX11_feed_39 : decode cX11_feed 39 = .ok (.dup, 1) := by decide +kernel
theorem dX11_feed_40 : decode cX11_feed 40 = .ok (.iconst 3, 1) := by decide +kernel
theorem dX11_feed_41 : decode cX11_feed 41 = .ok (.iload 4, 2) := by decide +kernel
theorem dX11_feed_43 : decode cX11_feed 43 = .ok (.iastore, 1) := by decide +kernel
theorem dX11_feed_44 : decode cX11_feed 44 = .ok (.dup, 1) := by decide +kernel
theorem dX11_feed_45 : decode cX11_feed 45 = .ok (.iconst 4, 1) := by decide +kernel
theorem dX11_feed_46 : decode cX11_feed 46 = .ok (.iload 5, 2) := by decide +kernel
theorem dX11_feed_48 : decode cX11_feed 48 = .ok (.iastore, 1) := by decide +kernel
theorem dX11_feed_49 : decode cX11_feed 49 = .ok (.astore 6, 2) := by decide +kernel
theorem dX11_feed_51 : decode cX11_feed 51 = .ok (.aload 6, 2) := by decide +kernel
theorem dX11_feed_53 : decode cX11_feed 53 = .ok (.astore 7, 2) := by decide +kernel
theorem dX11_feed_55 : decode cX11_feed 55 = .ok (.aload 7, 2) := by decide +kernel
theorem dX11_feed_57 : decode cX11_feed 57 = .ok (.arraylength, 1) := by decide +kernel
theorem dX11_feed_58 : decode cX11_feed 58 = .ok (.istore 8, 2) := by decide +kernel
theorem dX11_feed_60 : decode cX11_feed 60 = .ok (.iconst 0, 1) := by decide +kernel
theorem dX11_feed_61 : decode cX11_feed 61 = .ok (.istore 9, 2) := by decide +kernel
theorem dX11_feed_63 : decode cX11_feed 63 = .ok (.iload 9, 2) := by decide +kernel
theorem dX11_feed_65 : decode cX11_feed 65 = .ok (.iload 8, 2) := by decide +kernel
theorem dX11_feed_67 : decode cX11_feed 67 = .ok (.if_icmp .ge 59, 3) := by decide +kernel
theorem dX11_feed_70 : decode cX11_feed 70 = .ok (.aload 7, 2) := by decide +kernel
theorem dX11_feed_72 : decode cX11_feed 72 = .ok (.iload 9, 2) := by decide +kernel
theorem dX11_feed_74 : decode cX11_feed 74 = .ok (.iaload, 1) := by decide +kernel
theorem dX11_feed_75 : decode cX11_feed 75 = .ok (.istore 10, 2) := by decide +kernel
theorem dX11_feed_77 : decode cX11_feed 77 = .ok (.bipush 24, 2) := by decide +kernel
theorem dX11_feed_79 : decode cX11_feed 79 = .ok (.istore 11, 2) := by decide +kernel
theorem dX11_feed_81 : decode cX11_feed 81 = .ok (.iload 11, 2) := by decide +kernel
theorem dX11_feed_83 : decode cX11_feed 83 = .ok (.ifCond .lt 37, 3) := by decide +kernel
theorem dX11_feed_86 : decode cX11_feed 86 = .ok (.aload_n 0, 1) := by decide +kernel
theorem dX11_feed_87 : decode cX11_feed 87 = .ok (.getfield 9, 3) := by decide +kernel
theorem dX11_feed_90 : decode cX11_feed 90 = .ok (.aload_n 0, 1) := by decide +kernel
theorem dX11_feed_91 : decode cX11_feed 91 = .ok (.getfield 71, 3) := by decide +kernel
theorem dX11_feed_94 : decode cX11_feed 94 = .ok (.iload 10, 2) := by decide +kernel
theorem dX11_feed_96 : decode cX11_feed 96 = .ok (.iload 11, 2) := by decide +kernel
theorem dX11_feed_98 : decode cX11_feed 98 = .ok (.ishr, 1) := by decide +kernel
theorem dX11_feed_99 : decode cX11_feed 99 = .ok (.sipush 255, 3) := by decide +kernel
theorem dX11_feed_102 : decode cX11_feed 102 = .ok (.iand, 1) := by decide +kernel
theorem dX11_feed_103 : decode cX11_feed 103 = .ok (.iastore, 1) := by decide +kernel
theorem dX11_feed_104 : decode cX11_feed 104 = .ok (.aload_n 0, 1) := by decide +kernel
theorem dX11_feed_105 : decode cX11_feed 105 = .ok (.dup, 1) := by decide +kernel
theorem dX11_feed_106 : decode cX11_feed 106 = .ok (.getfield 71, 3) := by decide +kernel
theorem dX11_feed_109 : decode cX11_feed 109 = .ok (.iconst 1, 1) := by decide +kernel
theorem dX11_feed_110 : decode cX11_feed 110 = .ok (.iadd, 1) := by decide +kernel
theorem dX11_feed_111 : decode cX11_feed 111 = .ok (.putfield 71, 3) := by decide +kernel
theorem dX11_feed_114 : decode cX11_feed 114 = .ok (.iinc 11 (-8), 3) := by decide +kernel
theorem dX11_feed_117 : decode cX11_feed 117 = .ok (.goto (-36), 3) := by decide +kernel
theorem dX11_feed_120 : decode cX11_feed 120 = .ok (.iinc 9 1, 3) := by decide +kernel
theorem dX11_feed_123 : decode cX11_feed 123 = .ok (.goto (-60), 3) := by decide +kernel
theorem dX11_feed_126 : decode cX11_feed 126 = .ok (.aload_n 0, 1) := by decide +kernel
theorem dX11_feed_127 : decode cX11_feed 127 = .ok (.getfield 71, 3) := by decide +kernel
theorem dX11_feed_130 : decode cX11_feed 130 = .ok (.ireturn, 1) := by decide +kernel
theorem dX11_trim_0 : decode cX11_trim 0 = .ok (.aload_n 0, 1) := by decide +kernel
theorem dX11_trim_1 : decode cX11_trim 1 = .ok (.iconst 0, 1) := by decide +kernel
theorem dX11_trim_2 : decode cX11_trim 2 = .ok (.putfield 64, 3) := by decide +kernel
theorem dX11_trim_5 : decode cX11_trim 5 = .ok (.iload_n 1, 1) := by decide +kernel
theorem dX11_trim_6 : decode cX11_trim 6 = .ok (.iconst 0, 1) := by decide +kernel
theorem dX11_trim_7 : decode cX11_trim 7 = .ok (.aload_n 0, 1) := by decide +kernel
theorem dX11_trim_8 : decode cX11_trim 8 = .ok (.getfield 71, 3) := by decide +kernel
theorem dX11_trim_11 : decode cX11_trim 11 = .ok (.invokestatic 67, 3) := by decide +kernel
theorem dX11_trim_14 : decode cX11_trim 14 = .ok (.ifCond .ne 9, 3) := by decide +kernel
theorem dX11_trim_17 : decode cX11_trim 17 = .ok (.aload_n 0, 1) := by decide +kernel
theorem dX11_trim_18 : decode cX11_trim 18 = .ok (.iconst 1, 1) := by decide +kernel
theorem dX11_trim_19 : decode cX11_trim 19 = .ok (.invokevirtual 262, 3) := by decide +kernel
theorem dX11_trim_22 : decode cX11_trim 22 = .ok (.ireturn, 1) := by decide +kernel
theorem dX11_trim_23 : decode cX11_trim 23 = .ok (.aload_n 0, 1) := by decide +kernel
theorem dX11_trim_24 : decode cX11_trim 24 = .ok (.iload_n 1, 1) := by decide +kernel
theorem dX11_trim_25 : decode cX11_trim 25 = .ok (.putfield 71, 3) := by decide +kernel
theorem dX11_trim_28 : decode cX11_trim 28 = .ok (.iload_n 1, 1) := by decide +kernel
theorem dX11_trim_29 : decode cX11_trim 29 = .ok (.ireturn, 1) := by decide +kernel
theorem dX11_teach_0 : decode cX11_teach 0 = .ok (.aload_n 0, 1) := by decide +kernel
theorem dX11_teach_1 : decode cX11_teach 1 = .ok (.iconst 0, 1) := by decide +kernel
theorem dX11_teach_2 : decode cX11_teach 2 = .ok (.putfield 64, 3) := by decide +kernel
theorem dX11_teach_5 : decode cX11_teach 5 = .ok (.aload_n 0, 1) := by decide +kernel
theorem dX11_teach_6 : decode cX11_teach 6 = .ok (.iconst 0, 1) := by decide +kernel
theorem dX11_teach_7 : decode cX11_teach 7 = .ok (.putfield 119, 3) := by decide +kernel
theorem dX11_teach_10 : decode cX11_teach 10 = .ok (.aload_n 0, 1) := by decide +kernel
theorem dX11_teach_11 : decode cX11_teach 11 = .ok (.iconst 0, 1) := by decide +kernel
theorem dX11_teach_12 : decode cX11_teach 12 = .ok (.putfield 115, 3) := by decide +kernel
theorem dX11_teach_15 : decode cX11_teach 15 = .ok (.aload_n 0, 1) := by decide +kernel
theorem dX11_teach_16 : decode cX11_teach 16 = .ok (.iconst 0, 1) := by decide +kernel
theorem dX11_teach_17 : decode cX11_teach 17 = .ok (.putfield 122, 3) := by decide +kernel
theorem dX11_teach_20 : decode cX11_teach 20 = .ok (.aload_n 0, 1) := by decide +kernel
theorem dX11_teach_21 : decode cX11_teach 21 = .ok (.iconst 0, 1) := by decide +kernel
theorem dX11_teach_22 : decode cX11_teach 22 = .ok (.putfield 134, 3) := by decide +kernel
theorem dX11_teach_25 : decode cX11_teach 25 = .ok (.aload_n 0, 1) := by decide +kernel
theorem dX11_teach_26 : decode cX11_teach 26 = .ok (.getfield 39, 3) := by decide +kernel
theorem dX11_teach_29 : decode cX11_teach 29 = .ok (.invokevirtual 265, 3) := by decide +kernel
theorem dX11_teach_32 : decode cX11_teach 32 = .ok (.aload_n 0, 1) := by decide +kernel
theorem dX11_teach_33 : decode cX11_teach 33 = .ok (.invokevirtual 268, 3) := by decide +kernel
theorem dX11_teach_36 : decode cX11_teach 36 = .ok (.aload_n 0, 1) := by decide +kernel
theorem dX11_teach_37 : decode cX11_teach 37 = .ok (.invokevirtual 271, 3) := by decide +kernel
theorem dX11_teach_40 : decode cX11_teach 40 = .ok (.aload_n 0, 1) := by decide +kernel
theorem dX11_teach_41 : decode cX11_teach 41 = .ok (.iconst 0, 1) := by decide +kernel
theorem dX11_teach_42 : decode cX11_teach 42 = .ok (.putfield 71, 3) := by decide +kernel
theorem dX11_teach_45 : decode cX11_teach 45 = .ok (.aload_n 0, 1) := by decide +kernel
theorem dX11_teach_46 : decode cX11_teach 46 = .ok (.aload_n 0, 1) := by decide +kernel
theorem dX11_teach_47 : decode cX11_teach 47 = .ok (.getfield 122, 3) := by decide +kernel
theorem dX11_teach_50 : decode cX11_teach 50 = .ok (.ifCond .ne 7, 3) := by decide +kernel
theorem dX11_teach_53 : decode cX11_teach 53 = .ok (.iconst (-1), 1) := by decide +kernel
theorem dX11_teach_54 : decode cX11_teach 54 = .ok (.goto 12, 3) := by decide +kernel
theorem dX11_teach_57 : decode cX11_teach 57 = .ok (.aload_n 0, 1) := by decide +kernel
theorem dX11_teach_58 : decode cX11_teach 58 = .ok (.getfield 23, 3) := by decide +kernel
theorem dX11_teach_61 : decode cX11_teach 61 = .ok (.aload_n 0, 1) := by decide +kernel
theorem dX11_teach_62 : decode cX11_teach 62 = .ok (.getfield 125, 3) := by decide +kernel
theorem dX11_teach_65 : decode cX11_teach 65 = .ok (.iaload, 1) := by decide +kernel
theorem dX11_teach_66 : decode cX11_teach 66 = .ok (.putfield 13, 3) := by decide +kernel
theorem dX11_teach_69 : decode cX11_teach 69 = .ok (.aload_n 0, 1) := by decide +kernel
theorem dX11_teach_70 : decode cX11_teach 70 = .ok (.getfield 122, 3) := by decide +kernel
theorem dX11_teach_73 : decode cX11_teach 73 = .ok (.ifCond .eq 8, 3) := by decide +kernel
theorem dX11_teach_76 : decode cX11_teach 76 = .ok (.aload_n 0, 1) := by decide +kernel
theorem dX11_teach_77 : decode cX11_teach 77 = .ok (.getfield 122, 3) := by decide +kernel
theorem dX11_teach_80 : decode cX11_teach 80 = .ok (.ireturn, 1) := by decide +kernel
theorem dX11_teach_81 : decode cX11_teach 81 = .ok (.aload_n 0, 1) := by decide +kernel
theorem dX11_teach_82 : decode cX11_teach 82 = .ok (.getfield 35, 3) := by decide +kernel
theorem dX11_teach_85 : decode cX11_teach 85 = .ok (.aload_n 0, 1) := by decide +kernel
theorem dX11_teach_86 : decode cX11_teach 86 = .ok (.getfield 39, 3) := by decide +kernel
theorem dX11_teach_89 : decode cX11_teach 89 = .ok (.invokevirtual 274, 3) := by decide +kernel
theorem dX11_teach_92 : decode cX11_teach 92 = .ok (.aload_n 0, 1) := by decide +kernel
theorem dX11_teach_93 : decode cX11_teach 93 = .ok (.getfield 48, 3) := by decide +kernel
theorem dX11_teach_96 : decode cX11_teach 96 = .ok (.aload_n 0, 1) := by decide +kernel
theorem dX11_teach_97 : decode cX11_teach 97 = .ok (.getfield 35, 3) := by decide +kernel
theorem dX11_teach_100 : decode cX11_teach 100 = .ok (.invokevirtual 278, 3) := by decide +kernel
theorem dX11_teach_103 : decode cX11_teach 103 = .ok (.iconst 0, 1) := by decide +kernel
theorem dX11_teach_104 : decode cX11_teach 104 = .ok (.ireturn, 1) := by decide +kernel
theorem dX11_errorAt_0 : decode cX11_errorAt 0 = .ok (.aload_n 0, 1) := by decide +kernel
theorem dX11_errorAt_1 : decode cX11_errorAt 1 = .ok (.aload_n 0, 1) := by decide +kernel
theorem dX11_errorAt_2 : decode cX11_errorAt 2 = .ok (.getfield 13, 3) := by decide +kernel
theorem dX11_errorAt_5 : decode cX11_errorAt 5 = .ok (.invokevirtual 280, 3) := by decide +kernel
theorem dX11_errorAt_8 : decode cX11_errorAt 8 = .ok (.ireturn, 1) := by decide +kernel
theorem dX11_isWide_0 : decode cX11_isWide 0 = .ok (.iload_n 1, 1) := by decide +kernel
theorem dX11_isWide_1 : decode cX11_isWide 1 = .ok (.aload_n 0, 1) := by decide +kernel
theorem dX11_isWide_2 : decode cX11_isWide 2 = .ok (.getfield 35, 3) := by decide +kernel
theorem dX11_isWide_5 : decode cX11_isWide 5 = .ok (.getfield 250, 3) := by decide +kernel
theorem dX11_isWide_8 : decode cX11_isWide 8 = .ok (.ineg, 1) := by decide +kernel
theorem dX11_isWide_9 : decode cX11_isWide 9 = .ok (.aload_n 0, 1) := by decide +kernel
theorem dX11_isWide_10 : decode cX11_isWide 10 = .ok (.getfield 35, 3) := by decide +kernel
theorem dX11_isWide_13 : decode cX11_isWide 13 = .ok (.getfield 250, 3) := by decide +kernel
theorem dX11_isWide_16 : decode cX11_isWide 16 = .ok (.invokestatic 67, 3) := by decide +kernel
theorem dX11_isWide_19 : decode cX11_isWide 19 = .ok (.ireturn, 1) := by decide +kernel
theorem dX11_shine_0 : decode cX11_shine 0 = .ok (.sipush 10000, 3) := by decide +kernel
theorem dX11_shine_3 : decode cX11_shine 3 = .ok (.istore_n 2, 1) := by decide +kernel
theorem dX11_shine_4 : decode cX11_shine 4 = .ok (.iconst 0, 1) := by decide +kernel
theorem dX11_shine_5 : decode cX11_shine 5 = .ok (.istore_n 3, 1) := by decide +kernel
theorem dX11_shine_6 : decode cX11_shine 6 = .ok (.iconst 0, 1) := by decide +kernel
theorem dX11_shine_7 : decode cX11_shine 7 = .ok (.istore 4, 2) := by decide +kernel
theorem dX11_shine_9 : decode cX11_shine 9 = .ok (.iload 4, 2) := by decide +kernel
theorem dX11_shine_11 : decode cX11_shine 11 = .ok (.aload_n 0, 1) := by decide +kernel
theorem dX11_shine_12 : decode cX11_shine 12 = .ok (.getfield 35, 3) := by decide +kernel
theorem dX11_shine_15 : decode cX11_shine 15 = .ok (.getfield 149, 3) := by decide +kernel
theorem dX11_shine_18 : decode cX11_shine 18 = .ok (.if_icmp .ge 88, 3) := by decide +kernel
theorem dX11_shine_21 : decode cX11_shine 21 = .ok (.aload_n 1, 1) := by decide +kernel
theorem dX11_shine_22 : decode cX11_shine 22 = .ok (.getfield 283, 3) := by decide +kernel
theorem dX11_shine_25 : decode cX11_shine 25 = .ok (.iload 4, 2) := by decide +kernel
theorem dX11_shine_27 : decode cX11_shine 27 = .ok (.iaload, 1) := by decide +kernel
theorem dX11_shine_28 : decode cX11_shine 28 = .ok (.istore 5, 2) := by decide +kernel
theorem dX11_shine_30 : decode cX11_shine 30 = .ok (.aload_n 0, 1) := by decide +kernel
theorem dX11_shine_31 : decode cX11_shine 31 = .ok (.getfield 55, 3) := by decide +kernel
theorem dX11_shine_34 : decode cX11_shine 34 = .ok (.iload 5, 2) := by decide +kernel
theorem dX11_shine_36 : decode cX11_shine 36 = .ok (.iload_n 2, 1) := by decide +kernel
theorem dX11_shine_37 : decode cX11_shine 37 = .ok (.iastore, 1) := by decide +kernel
theorem dX11_shine_38 : decode cX11_shine 38 = .ok (.aload_n 0, 1) := by decide +kernel
theorem dX11_shine_39 : decode cX11_shine 39 = .ok (.iload_n 3, 1) := by decide +kernel
theorem dX11_shine_40 : decode cX11_shine 40 = .ok (.invokevirtual 286, 3) := by decide +kernel
theorem dX11_shine_43 : decode cX11_shine 43 = .ok (.ifCond .eq 12, 3) := by decide +kernel
theorem dX11_shine_46 : decode cX11_shine 46 = .ok (.aload_n 1, 1) := by decide +kernel
theorem dX11_shine_47 : decode cX11_shine 47 = .ok (.iload 5, 2) := by decide +kernel
theorem dX11_shine_49 : decode cX11_shine 49 = .ok (.invokevirtual 289, 3) := by decide +kernel
theorem dX11_shine_52 : decode cX11_shine 52 = .ok (.ifCond .eq 7, 3) := by decide +kernel
theorem dX11_shine_55 : decode cX11_shine 55 = .ok (.iconst 0, 1) := by decide +kernel
theorem dX11_shine_56 : decode cX11_shine 56 = .ok (.goto 15, 3) := by decide +kernel
theorem dX11_shine_59 : decode cX11_shine 59 = .ok (.iload_n 2, 1) := by decide +kernel
theorem dX11_shine_60 : decode cX11_shine 60 = .ok (.aload_n 1, 1) := by decide +kernel
theorem dX11_shine_61 : decode cX11_shine 61 = .ok (.getfield 292, 3) := by decide +kernel
theorem dX11_shine_64 : decode cX11_shine 64 = .ok (.iload 5, 2) := by decide +kernel
theorem dX11_shine_66 : decode cX11_shine 66 = .ok (.iaload, 1) := by decide +kernel
theorem dX11_shine_67 : decode cX11_shine 67 = .ok (.imul, 1) := by decide +kernel
theorem dX11_shine_68 : decode cX11_shine 68 = .ok (.bipush 100, 2) := by decide +kernel
theorem dX11_shine_70 : decode cX11_shine 70 = .ok (.idiv, 1) := by decide +kernel
theorem dX11_shine_71 : decode cX11_shine 71 = .ok (.istore_n 2, 1) := by decide +kernel
theorem dX11_shine_72 : decode cX11_shine 72 = .ok (.aload_n 0, 1) := by decide +kernel
theorem dX11_shine_73 : decode cX11_shine 73 = .ok (.getfield 58, 3) := by decide +kernel
theorem dX11_shine_76 : decode cX11_shine 76 = .ok (.iload 5, 2) := by decide +kernel
theorem dX11_shine_78 : decode cX11_shine 78 = .ok (.iload_n 2, 1) := by decide +kernel
theorem dX11_shine_79 : decode cX11_shine 79 = .ok (.iastore, 1) := by decide +kernel
theorem dX11_shine_80 : decode cX11_shine 80 = .ok (.iload_n 3, 1) := by decide +kernel
theorem dX11_shine_81 : decode cX11_shine 81 = .ok (.iconst 2, 1) := by decide +kernel
theorem dX11_shine_82 : decode cX11_shine 82 = .ok (.aload_n 1, 1) := by decide +kernel
theorem dX11_shine_83 : decode cX11_shine 83 = .ok (.getfield 293, 3) := by decide +kernel
theorem dX11_shine_86 : decode cX11_shine 86 = .ok (.iload 5, 2) := by decide +kernel
theorem dX11_shine_88 : decode cX11_shine 88 = .ok (.iaload, 1) := by decide +kernel
theorem dX11_shine_89 : decode cX11_shine 89 = .ok (.imul, 1) := by decide +kernel
theorem dX11_shine_90 : decode cX11_shine 90 = .ok (.iadd, 1) := by decide +kernel
theorem dX11_shine_91 : decode cX11_shine 91 = .ok (.istore_n 3, 1) := by decide +kernel
theorem dX11_shine_92 : decode cX11_shine 92 = .ok (.aload_n 0, 1) := by decide +kernel
theorem dX11_shine_93 : decode cX11_shine 93 = .ok (.getfield 61, 3) := by decide +kernel
theorem dX11_shine_96 : decode cX11_shine 96 = .ok (.iload 5, 2) := by decide +kernel
theorem dX11_shine_98 : decode cX11_shine 98 = .ok (.iload_n 3, 1) := by decide +kernel
theorem dX11_shine_99 : decode cX11_shine 99 = .ok (.iastore, 1) := by decide +kernel
theorem dX11_shine_100 : decode cX11_shine 100 = .ok (.iinc 4 1, 3) := by decide +kernel
theorem dX11_shine_103 : decode cX11_shine 103 = .ok (.goto (-94), 3) := by decide +kernel
theorem dX11_shine_106 : decode cX11_shine 106 = .ok (.aload_n 0, 1) := by decide +kernel
theorem dX11_shine_107 : decode cX11_shine 107 = .ok (.iload_n 2, 1) := by decide +kernel
theorem dX11_shine_108 : decode cX11_shine 108 = .ok (.putfield 294, 3) := by decide +kernel
theorem dX11_shine_111 : decode cX11_shine 111 = .ok (.aload_n 0, 1) := by decide +kernel
theorem dX11_shine_112 : decode cX11_shine 112 = .ok (.iload_n 3, 1) := by decide +kernel
theorem dX11_shine_113 : decode cX11_shine 113 = .ok (.putfield 297, 3) := by decide +kernel
theorem dX11_shine_116 : decode cX11_shine 116 = .ok (.return_, 1) := by decide +kernel
theorem dX11_light_0 : decode cX11_light 0 = .ok (.aload_n 0, 1) := by decide +kernel
theorem dX11_light_1 : decode cX11_light 1 = .ok (.aload_n 1, 1) := by decide +kernel
theorem dX11_light_2 : decode cX11_light 2 = .ok (.invokevirtual 300, 3) := by decide +kernel
theorem dX11_light_5 : decode cX11_light 5 = .ok (.aload_n 0, 1) := by decide +kernel
theorem dX11_light_6 : decode cX11_light 6 = .ok (.getfield 294, 3) := by decide +kernel
theorem dX11_light_9 : decode cX11_light 9 = .ok (.ireturn, 1) := by decide +kernel
theorem dX11_seen_0 : decode cX11_seen 0 = .ok (.aload_n 0, 1) := by decide +kernel
theorem dX11_seen_1 : decode cX11_seen 1 = .ok (.aload_n 1, 1) := by decide +kernel
theorem dX11_seen_2 : decode cX11_seen 2 = .ok (.invokevirtual 304, 3) := by decide +kernel
theorem dX11_seen_5 : decode cX11_seen 5 = .ok (.aload_n 0, 1) := by decide +kernel
theorem dX11_seen_6 : decode cX11_seen 6 = .ok (.getfield 35, 3) := by decide +kernel
theorem dX11_seen_9 : decode cX11_seen 9 = .ok (.getfield 253, 3) := by decide +kernel
theorem dX11_seen_12 : decode cX11_seen 12 = .ok (.if_icmp .lt 18, 3) := by decide +kernel
theorem dX11_seen_15 : decode cX11_seen 15 = .ok (.aload_n 0, 1) := by decide +kernel
theorem dX11_seen_16 : decode cX11_seen 16 = .ok (.aload_n 0, 1) := by decide +kernel
theorem dX11_seen_17 : decode cX11_seen 17 = .ok (.getfield 297, 3) := by decide +kernel
theorem dX11_seen_20 : decode cX11_seen 20 = .ok (.invokevirtual 286, 3) := by decide +kernel
theorem dX11_seen_23 : decode cX11_seen 23 = .ok (.ifCond .eq 7, 3) := by decide +kernel
theorem dX11_seen_26 : decode cX11_seen 26 = .ok (.iconst 1, 1) := by decide +kernel
theorem dX11_seen_27 : decode cX11_seen 27 = .ok (.goto 4, 3) := by decide +kernel
theorem dX11_seen_30 : decode cX11_seen 30 = .ok (.iconst 0, 1) := by decide +kernel
theorem dX11_seen_31 : decode cX11_seen 31 = .ok (.ireturn, 1) := by decide +kernel
theorem dX11_reckon_0 : decode cX11_reckon 0 = .ok (.iload_n 2, 1) := by decide +kernel
theorem dX11_reckon_1 : decode cX11_reckon 1 = .ok (.lookupswitch 252 #[(1, 140), (2, 133), (12, 117), (13, 122), (14, 128), (15, 154), (16, 173), (17, 147), (19, 185), (20, 199), (21, 243), (31, 115), (60, 235)], 115) := by decide +kernel
theorem dX11_reckon_116 : decode cX11_reckon 116 = .ok (.iload_n 3, 1) := by decide +kernel
theorem dX11_reckon_117 : decode cX11_reckon 117 = .ok (.ireturn, 1) := by decide +kernel
theorem dX11_reckon_118 : decode cX11_reckon 118 = .ok (.aload_n 1, 1) := by decide +kernel
theorem dX11_reckon_119 : decode cX11_reckon 119 = .ok (.getfield 308, 3) := by decide +kernel
theorem dX11_reckon_122 : decode cX11_reckon 122 = .ok (.ireturn, 1) := by decide +kernel
theorem dX11_reckon_123 : decode cX11_reckon 123 = .ok (.aload_n 0, 1) := by decide +kernel
theorem dX11_reckon_124 : decode cX11_reckon 124 = .ok (.aload_n 1, 1) := by decide +kernel
theorem dX11_reckon_125 : decode cX11_reckon 125 = .ok (.invokevirtual 304, 3) := by decide +kernel
theorem dX11_reckon_128 : decode cX11_reckon 128 = .ok (.ireturn, 1) := by decide +kernel
theorem dX11_reckon_129 : decode cX11_reckon 129 = .ok (.aload_n 1, 1) := by decide +kernel
theorem dX11_reckon_130 : decode cX11_reckon 130 = .ok (.getfield 311, 3) := by decide +kernel
theorem dX11_reckon_133 : decode cX11_reckon 133 = .ok (.ireturn, 1) := by decide +kernel
theorem dX11_reckon_134 : decode cX11_reckon 134 = .ok (.aload_n 1, 1) := by decide +kernel
theorem dX11_reckon_135 : decode cX11_reckon 135 = .ok (.getfield 293, 3) := by decide +kernel
theorem dX11_reckon_138 : decode cX11_reckon 138 = .ok (.iload_n 3, 1) := by decide +kernel
theorem dX11_reckon_139 : decode cX11_reckon 139 = .ok (.iaload, 1) := by decide +kernel
theorem dX11_reckon_140 : decode cX11_reckon 140 = .ok (.ireturn, 1) := by decide +kernel
theorem dX11_reckon_141 : decode cX11_reckon 141 = .ok (.aload_n 1, 1) := by decide +kernel
theorem dX11_reckon_142 : decode cX11_reckon 142 = .ok (.getfield 292, 3) := by decide +kernel
theorem dX11_reckon_145 : decode cX11_reckon 145 = .ok (.iload_n 3, 1) := by decide +kernel
theorem dX11_reckon_146 : decode cX11_reckon 146 = .ok (.iaload, 1) := by decide +kernel
theorem dX11_reckon_147 : decode cX11_reckon 147 = .ok (.ireturn, 1) := by decide +kernel
theorem dX11_reckon_148 : decode cX11_reckon 148 = .ok (.aload_n 1, 1) := by decide +kernel
theorem dX11_reckon_149 : decode cX11_reckon 149 = .ok (.getfield 314, 3) := by decide +kernel
theorem dX11_reckon_152 : decode cX11_reckon 152 = .ok (.iload_n 3, 1) := by decide +kernel
theorem dX11_reckon_153 : decode cX11_reckon 153 = .ok (.iaload, 1) := by decide +kernel
theorem dX11_reckon_154 : decode cX11_reckon 154 = .ok (.ireturn, 1) := by decide +kernel
theorem dX11_reckon_155 : decode cX11_reckon 155 = .ok (.aload_n 0, 1) := by decide +kernel
theorem dX11_reckon_156 : decode cX11_reckon 156 = .ok (.aload_n 1, 1) := by decide +kernel
theorem dX11_reckon_157 : decode cX11_reckon 157 = .ok (.invokevirtual 300, 3) := by decide +kernel
theorem dX11_reckon_160 : decode cX11_reckon 160 = .ok (.aload_n 0, 1) := by decide +kernel
theorem dX11_reckon_161 : decode cX11_reckon 161 = .ok (.getfield 55, 3) := by decide +kernel
theorem dX11_reckon_164 : decode cX11_reckon 164 = .ok (.iload_n 3, 1) := by decide +kernel
theorem dX11_reckon_165 : decode cX11_reckon 165 = .ok (.iaload, 1) := by decide +kernel
theorem dX11_reckon_166 : decode cX11_reckon 166 = .ok (.aload_n 0, 1) := by decide +kernel
theorem dX11_reckon_167 : decode cX11_reckon 167 = .ok (.getfield 58, 3) := by decide +kernel
theorem dX11_reckon_170 : decode cX11_reckon 170 = .ok (.iload_n 3, 1) := by decide +kernel
theorem dX11_reckon_171 : decode cX11_reckon 171 = .ok (.iaload, 1) := by decide +kernel
theorem dX11_reckon_172 : decode cX11_reckon 172 = .ok (.isub, 1) := by decide +kernel
theorem dX11_reckon_173 : decode cX11_reckon 173 = .ok (.ireturn, 1) := by decide +kernel
theorem dX11_reckon_174 : decode cX11_reckon 174 = .ok (.aload_n 0, 1) := by decide +kernel
theorem dX11_reckon_175 : decode cX11_reckon 175 = .ok (.aload_n 1, 1) := by decide +kernel
theorem dX11_reckon_176 : decode cX11_reckon 176 = .ok (.invokevirtual 300, 3) := by decide +kernel
theorem dX11_reckon_179 : decode cX11_reckon 179 = .ok (.aload_n 0, 1) := by decide +kernel
theorem dX11_reckon_180 : decode cX11_reckon 180 = .ok (.getfield 61, 3) := by decide +kernel
theorem dX11_reckon_183 : decode cX11_reckon 183 = .ok (.iload_n 3, 1) := by decide +kernel
theorem dX11_reckon_184 : decode cX11_reckon 184 = .ok (.iaload, 1) := by decide +kernel
theorem dX11_reckon_185 : decode cX11_reckon 185 = .ok (.ireturn, 1) := by decide +kernel
theorem dX11_reckon_186 : decode cX11_reckon 186 = .ok (.aload_n 0, 1) := by decide +kernel
theorem dX11_reckon_187 : decode cX11_reckon 187 = .ok (.aload_n 1, 1) := by decide +kernel
theorem dX11_reckon_188 : decode cX11_reckon 188 = .ok (.invokevirtual 317, 3) := by decide +kernel
theorem dX11_reckon_191 : decode cX11_reckon 191 = .ok (.ifCond .eq 7, 3) := by decide +kernel
theorem dX11_reckon_194 : decode cX11_reckon 194 = .ok (.iconst 1, 1) := by decide +kernel
theorem dX11_reckon_195 : decode cX11_reckon 195 = .ok (.goto 4, 3) := by decide +kernel
theorem dX11_reckon_198 : decode cX11_reckon 198 = .ok (.iconst 0, 1) := by decide +kernel
theorem dX11_reckon_199 : decode cX11_reckon 199 = .ok (.ireturn, 1) := by decide +kernel
theorem dX11_reckon_200 : decode cX11_reckon 200 = .ok (.aload_n 1, 1) := by decide +kernel
theorem dX11_reckon_201 : decode cX11_reckon 201 = .ok (.iconst 0, 1) := by decide +kernel
theorem dX11_reckon_202 : decode cX11_reckon 202 = .ok (.iload_n 3, 1) := by decide +kernel
theorem dX11_reckon_203 : decode cX11_reckon 203 = .ok (.invokevirtual 321, 3) := by decide +kernel
theorem dX11_reckon_206 : decode cX11_reckon 206 = .ok (.iconst (-1), 1) := by decide +kernel
theorem dX11_reckon_207 : decode cX11_reckon 207 = .ok (.if_icmp .ne 23, 3) := by decide +kernel
theorem dX11_reckon_210 : decode cX11_reckon 210 = .ok (.aload_n 1, 1) := by decide +kernel
theorem dX11_reckon_211 : decode cX11_reckon 211 = .ok (.iconst 1, 1) := by decide +kernel
theorem dX11_reckon_212 : decode cX11_reckon 212 = .ok (.iload_n 3, 1) := by decide +kernel
theorem dX11_reckon_213 : decode cX11_reckon 213 = .ok (.invokevirtual 321, 3) := by decide +kernel
theorem dX11_reckon_216 : decode cX11_reckon 216 = .ok (.iconst (-1), 1) := by decide +kernel
theorem dX11_reckon_217 : decode cX11_reckon 217 = .ok (.if_icmp .ne 13, 3) := by decide +kernel
theorem dX11_reckon_220 : decode cX11_reckon 220 = .ok (.aload_n 1, 1) := by decide +kernel
theorem dX11_reckon_221 : decode cX11_reckon 221 = .ok (.iconst 2, 1) := by decide +kernel
theorem dX11_reckon_222 : decode cX11_reckon 222 = .ok (.iload_n 3, 1) := by decide +kernel
theorem dX11_reckon_223 : decode cX11_reckon 223 = .ok (.invokevirtual 321, 3) := by decide +kernel
theorem dX11_reckon_226 : decode cX11_reckon 226 = .ok (.iconst (-1), 1) := by decide +kernel
theorem dX11_reckon_227 : decode cX11_reckon 227 = .ok (.if_icmp .eq 7, 3) := by decide +kernel
theorem dX11_reckon_230 : decode cX11_reckon 230 = .ok (.iconst 1, 1) := by decide +kernel
theorem dX11_reckon_231 : decode cX11_reckon 231 = .ok (.goto 4, 3) := by decide +kernel
theorem dX11_reckon_234 : decode cX11_reckon 234 = .ok (.iconst 0, 1) := by decide +kernel
theorem dX11_reckon_235 : decode cX11_reckon 235 = .ok (.ireturn, 1) := by decide +kernel
theorem dX11_reckon_236 : decode cX11_reckon 236 = .ok (.aload_n 0, 1) := by decide +kernel
theorem dX11_reckon_237 : decode cX11_reckon 237 = .ok (.getfield 42, 3) := by decide +kernel
theorem dX11_reckon_240 : decode cX11_reckon 240 = .ok (.iload_n 3, 1) := by decide +kernel
theorem dX11_reckon_241 : decode cX11_reckon 241 = .ok (.iaload, 1) := by decide +kernel
theorem dX11_reckon_242 : decode cX11_reckon 242 = .ok (.ineg, 1) := by decide +kernel
theorem dX11_reckon_243 : decode cX11_reckon 243 = .ok (.ireturn, 1) := by decide +kernel
theorem dX11_reckon_244 : decode cX11_reckon 244 = .ok (.iconst 1, 1) := by decide +kernel
theorem dX11_reckon_245 : decode cX11_reckon 245 = .ok (.aload_n 0, 1) := by decide +kernel
theorem dX11_reckon_246 : decode cX11_reckon 246 = .ok (.getfield 42, 3) := by decide +kernel
theorem dX11_reckon_249 : decode cX11_reckon 249 = .ok (.iload_n 3, 1) := by decide +kernel
theorem dX11_reckon_250 : decode cX11_reckon 250 = .ok (.iaload, 1) := by decide +kernel
theorem dX11_reckon_251 : decode cX11_reckon 251 = .ok (.isub, 1) := by decide +kernel
theorem dX11_reckon_252 : decode cX11_reckon 252 = .ok (.ireturn, 1) := by decide +kernel
theorem dX11_reckon_253 : decode cX11_reckon 253 = .ok (.iload_n 2, 1) := by decide +kernel
theorem dX11_reckon_254 : decode cX11_reckon 254 = .ok (.aload_n 0, 1) := by decide +kernel
theorem dX11_reckon_255 : decode cX11_reckon 255 = .ok (.getfield 42, 3) := by decide +kernel
theorem dX11_reckon_258 : decode cX11_reckon 258 = .ok (.iload_n 3, 1) := by decide +kernel
theorem dX11_reckon_259 : decode cX11_reckon 259 = .ok (.iaload, 1) := by decide +kernel
theorem dX11_reckon_260 : decode cX11_reckon 260 = .ok (.aload_n 0, 1) := by decide +kernel
theorem dX11_reckon_261 : decode cX11_reckon 261 = .ok (.getfield 42, 3) := by decide +kernel
theorem dX11_reckon_264 : decode cX11_reckon 264 = .ok (.iload 4, 2) := by decide +kernel
theorem dX11_reckon_266 : decode cX11_reckon 266 = .ok (.iaload, 1) := by decide +kernel
theorem dX11_reckon_267 : decode cX11_reckon 267 = .ok (.invokestatic 324, 3) := by decide +kernel
theorem dX11_reckon_270 : decode cX11_reckon 270 = .ok (.ireturn, 1) := by decide +kernel
theorem dX11_joined_0 : decode cX11_joined 0 = .ok (.iload_n 0, 1) := by decide +kernel
theorem dX11_joined_1 : decode cX11_joined 1 = .ok (.tableswitch 207 22 47 #[155, 159, 143, 149, 207, 207, 207, 207, 207, 207, 207, 207, 207, 207, 207, 207, 207, 207, 119, 123, 127, 131, 163, 174, 185, 196], 119) := by decide +kernel
theorem dX11_joined_120 : decode cX11_joined 120 = .ok (.iload_n 1, 1) := by decide +kernel
theorem dX11_joined_121 : decode cX11_joined 121 = .ok (.iload_n 2, 1) := by decide +kernel
theorem dX11_joined_122 : decode cX11_joined 122 = .ok (.iadd, 1) := by decide +kernel
theorem dX11_joined_123 : decode cX11_joined 123 = .ok (.ireturn, 1) := by decide +kernel
theorem dX11_joined_124 : decode cX11_joined 124 = .ok (.iload_n 1, 1) := by decide +kernel
theorem dX11_joined_125 : decode cX11_joined 125 = .ok (.iload_n 2, 1) := by decide +kernel
theorem dX11_joined_126 : decode cX11_joined 126 = .ok (.isub, 1) := by decide +kernel
theorem dX11_joined_127 : decode cX11_joined 127 = .ok (.ireturn, 1) := by decide +kernel
theorem dX11_joined_128 : decode cX11_joined 128 = .ok (.iload_n 1, 1) := by decide +kernel
theorem dX11_joined_129 : decode cX11_joined 129 = .ok (.iload_n 2, 1) := by decide +kernel
theorem dX11_joined_130 : decode cX11_joined 130 = .ok (.imul, 1) := by decide +kernel
theorem dX11_joined_131 : decode cX11_joined 131 = .ok (.ireturn, 1) := by decide +kernel
theorem dX11_joined_132 : decode cX11_joined 132 = .ok (.iload_n 2, 1) := by decide +kernel
theorem dX11_joined_133 : decode cX11_joined 133 = .ok (.ifCond .ne 7, 3) := by decide +kernel
theorem dX11_joined_136 : decode cX11_joined 136 = .ok (.iconst 0, 1) := by decide +kernel
theorem dX11_joined_137 : decode cX11_joined 137 = .ok (.goto 6, 3) := by decide +kernel
theorem dX11_joined_140 : decode cX11_joined 140 = .ok (.iload_n 1, 1) := by decide +kernel
theorem dX11_joined_141 : decode cX11_joined 141 = .ok (.iload_n 2, 1) := by decide +kernel
theorem dX11_joined_142 : decode cX11_joined 142 = .ok (.idiv, 1) := by decide +kernel
theorem dX11_joined_143 : decode cX11_joined 143 = .ok (.ireturn, 1) := by decide +kernel
theorem dX11_joined_144 : decode cX11_joined 144 = .ok (.iload_n 1, 1) := by decide +kernel
theorem dX11_joined_145 : decode cX11_joined 145 = .ok (.iload_n 2, 1) := by decide +kernel
theorem dX11_joined_146 : decode cX11_joined 146 = .ok (.invokestatic 217, 3) := by decide +kernel
theorem dX11_joined_149 : decode cX11_joined 149 = .ok (.ireturn, 1) := by decide +kernel
theorem dX11_joined_150 : decode cX11_joined 150 = .ok (.iload_n 1, 1) := by decide +kernel
theorem dX11_joined_151 : decode cX11_joined 151 = .ok (.iload_n 2, 1) := by decide +kernel
theorem dX11_joined_152 : decode cX11_joined 152 = .ok (.invokestatic 166, 3) := by decide +kernel
theorem dX11_joined_155 : decode cX11_joined 155 = .ok (.ireturn, 1) := by decide +kernel
theorem dX11_joined_156 : decode cX11_joined 156 = .ok (.iload_n 1, 1) := by decide +kernel
theorem dX11_joined_157 : decode cX11_joined 157 = .ok (.iload_n 2, 1) := by decide +kernel
theorem dX11_joined_158 : decode cX11_joined 158 = .ok (.iand, 1) := by decide +kernel
theorem dX11_joined_159 : decode cX11_joined 159 = .ok (.ireturn, 1) := by decide +kernel
theorem dX11_joined_160 : decode cX11_joined 160 = .ok (.iload_n 1, 1) := by decide +kernel
theorem dX11_joined_161 : decode cX11_joined 161 = .ok (.iload_n 2, 1) := by decide +kernel
theorem dX11_joined_162 : decode cX11_joined 162 = .ok (.ior, 1) := by decide +kernel
theorem dX11_joined_163 : decode cX11_joined 163 = .ok (.ireturn, 1) := by decide +kernel
theorem dX11_joined_164 : decode cX11_joined 164 = .ok (.iload_n 1, 1) := by decide +kernel
theorem dX11_joined_165 : decode cX11_joined 165 = .ok (.iload_n 2, 1) := by decide +kernel
theorem dX11_joined_166 : decode cX11_joined 166 = .ok (.if_icmp .ge 7, 3) := by decide +kernel
theorem dX11_joined_169 : decode cX11_joined 169 = .ok (.iconst 1, 1) := by decide +kernel
theorem dX11_joined_170 : decode cX11_joined 170 = .ok (.goto 4, 3) := by decide +kernel
theorem dX11_joined_173 : decode cX11_joined 173 = .ok (.iconst 0, 1) := by decide +kernel
theorem dX11_joined_174 : decode cX11_joined 174 = .ok (.ireturn, 1) := by decide +kernel
theorem dX11_joined_175 : decode cX11_joined 175 = .ok (.iload_n 1, 1) := by decide +kernel
theorem dX11_joined_176 : decode cX11_joined 176 = .ok (.iload_n 2, 1) := by decide +kernel
theorem dX11_joined_177 : decode cX11_joined 177 = .ok (.if_icmp .le 7, 3) := by decide +kernel
theorem dX11_joined_180 : decode cX11_joined 180 = .ok (.iconst 1, 1) := by decide +kernel
theorem dX11_joined_181 : decode cX11_joined 181 = .ok (.goto 4, 3) := by decide +kernel
theorem dX11_joined_184 : decode cX11_joined 184 = .ok (.iconst 0, 1) := by decide +kernel
theorem dX11_joined_185 : decode cX11_joined 185 = .ok (.ireturn, 1) := by decide +kernel
theorem dX11_joined_186 : decode cX11_joined 186 = .ok (.iload_n 1, 1) := by decide +kernel
theorem dX11_joined_187 : decode cX11_joined 187 = .ok (.iload_n 2, 1) := by decide +kernel
theorem dX11_joined_188 : decode cX11_joined 188 = .ok (.if_icmp .ne 7, 3) := by decide +kernel
theorem dX11_joined_191 : decode cX11_joined 191 = .ok (.iconst 1, 1) := by decide +kernel
theorem dX11_joined_192 : decode cX11_joined 192 = .ok (.goto 4, 3) := by decide +kernel
theorem dX11_joined_195 : decode cX11_joined 195 = .ok (.iconst 0, 1) := by decide +kernel
theorem dX11_joined_196 : decode cX11_joined 196 = .ok (.ireturn, 1) := by decide +kernel
theorem dX11_joined_197 : decode cX11_joined 197 = .ok (.iload_n 1, 1) := by decide +kernel
theorem dX11_joined_198 : decode cX11_joined 198 = .ok (.iload_n 2, 1) := by decide +kernel
theorem dX11_joined_199 : decode cX11_joined 199 = .ok (.if_icmp .gt 7, 3) := by decide +kernel
theorem dX11_joined_202 : decode cX11_joined 202 = .ok (.iconst 1, 1) := by decide +kernel
theorem dX11_joined_203 : decode cX11_joined 203 = .ok (.goto 4, 3) := by decide +kernel
theorem dX11_joined_206 : decode cX11_joined 206 = .ok (.iconst 0, 1) := by decide +kernel
theorem dX11_joined_207 : decode cX11_joined 207 = .ok (.ireturn, 1) := by decide +kernel
theorem dX11_joined_208 : decode cX11_joined 208 = .ok (.iload_n 1, 1) := by decide +kernel
theorem dX11_joined_209 : decode cX11_joined 209 = .ok (.iload_n 2, 1) := by decide +kernel
theorem dX11_joined_210 : decode cX11_joined 210 = .ok (.if_icmp .lt 7, 3) := by decide +kernel
theorem dX11_joined_213 : decode cX11_joined 213 = .ok (.iconst 1, 1) := by decide +kernel
theorem dX11_joined_214 : decode cX11_joined 214 = .ok (.goto 4, 3) := by decide +kernel
theorem dX11_joined_217 : decode cX11_joined 217 = .ok (.iconst 0, 1) := by decide +kernel
theorem dX11_joined_218 : decode cX11_joined 218 = .ok (.ireturn, 1) := by decide +kernel
theorem dX11_held_0 : decode cX11_held 0 = .ok (.iload_n 2, 1) := by decide +kernel
theorem dX11_held_1 : decode cX11_held 1 = .ok (.i2l, 1) := by decide +kernel
theorem dX11_held_2 : decode cX11_held 2 = .ok (.iload_n 3, 1) := by decide +kernel
theorem dX11_held_3 : decode cX11_held 3 = .ok (.i2l, 1) := by decide +kernel
theorem dX11_held_4 : decode cX11_held 4 = .ok (.lload_n 0, 1) := by decide +kernel
theorem dX11_held_5 : decode cX11_held 5 = .ok (.invokestatic 327, 3) := by decide +kernel
theorem dX11_held_8 : decode cX11_held 8 = .ok (.invokestatic 330, 3) := by decide +kernel
theorem dX11_held_11 : decode cX11_held 11 = .ok (.l2i, 1) := by decide +kernel
theorem dX11_held_12 : decode cX11_held 12 = .ok (.ireturn, 1) := by decide +kernel
theorem dX11_carryOut_0 : decode cX11_carryOut 0 = .ok (.aload_n 0, 1) := by decide +kernel
theorem dX11_carryOut_1 : decode cX11_carryOut 1 = .ok (.getfield 35, 3) := by decide +kernel
theorem dX11_carryOut_4 : decode cX11_carryOut 4 = .ok (.getfield 232, 3) := by decide +kernel
theorem dX11_carryOut_7 : decode cX11_carryOut 7 = .ok (.iload_n 2, 1) := by decide +kernel
theorem dX11_carryOut_8 : decode cX11_carryOut 8 = .ok (.iaload, 1) := by decide +kernel
theorem dX11_carryOut_9 : decode cX11_carryOut 9 = .ok (.istore_n 3, 1) := by decide +kernel
theorem dX11_carryOut_10 : decode cX11_carryOut 10 = .ok (.iload_n 3, 1) := by decide +kernel
theorem dX11_carryOut_11 : decode cX11_carryOut 11 = .ok (.istore 4, 2) := by decide +kernel
theorem dX11_carryOut_13 : decode cX11_carryOut 13 = .ok (.iload 4, 2) := by decide +kernel
theorem dX11_carryOut_15 : decode cX11_carryOut 15 = .ok (.aload_n 0, 1) := by decide +kernel
theorem dX11_carryOut_16 : decode cX11_carryOut 16 = .ok (.getfield 35, 3) := by decide +kernel
theorem dX11_carryOut_19 : decode cX11_carryOut 19 = .ok (.getfield 245, 3) := by decide +kernel
theorem dX11_carryOut_22 : decode cX11_carryOut 22 = .ok (.iload_n 2, 1) := by decide +kernel
theorem dX11_carryOut_23 : decode cX11_carryOut 23 = .ok (.iaload, 1) := by decide +kernel
theorem dX11_carryOut_24 : decode cX11_carryOut 24 = .ok (.if_icmp .ge 51, 3) := by decide +kernel
theorem dX11_carryOut_27 : decode cX11_carryOut 27 = .ok (.aload_n 0, 1) := by decide +kernel
theorem dX11_carryOut_28 : decode cX11_carryOut 28 = .ok (.getfield 42, 3) := by decide +kernel
theorem dX11_carryOut_31 : decode cX11_carryOut 31 = .ok (.iload 4, 2) := by decide +kernel
theorem dX11_carryOut_33 : decode cX11_carryOut 33 = .ok (.aload_n 0, 1) := by decide +kernel
theorem dX11_carryOut_34 : decode cX11_carryOut 34 = .ok (.aload_n 1, 1) := by decide +kernel
theorem dX11_carryOut_35 : decode cX11_carryOut 35 = .ok (.aload_n 0, 1) := by decide +kernel
theorem dX11_carryOut_36 : decode cX11_carryOut 36 = .ok (.getfield 35, 3) := by decide +kernel
theorem dX11_carryOut_39 : decode cX11_carryOut 39 = .ok (.getfield 140, 3) := by decide +kernel
theorem dX11_carryOut_42 : decode cX11_carryOut 42 = .ok (.iload 4, 2) := by decide +kernel
theorem dX11_carryOut_44 : decode cX11_carryOut 44 = .ok (.iaload, 1) := by decide +kernel
theorem dX11_carryOut_45 : decode cX11_carryOut 45 = .ok (.aload_n 0, 1) := by decide +kernel
theorem dX11_carryOut_46 : decode cX11_carryOut 46 = .ok (.getfield 35, 3) := by decide +kernel
theorem dX11_carryOut_49 : decode cX11_carryOut 49 = .ok (.getfield 143, 3) := by decide +kernel
theorem dX11_carryOut_52 : decode cX11_carryOut 52 = .ok (.iload 4, 2) := by decide +kernel
theorem dX11_carryOut_54 : decode cX11_carryOut 54 = .ok (.iaload, 1) := by decide +kernel
theorem dX11_carryOut_55 : decode cX11_carryOut 55 = .ok (.aload_n 0, 1) := by decide +kernel
theorem dX11_carryOut_56 : decode cX11_carryOut 56 = .ok (.getfield 35, 3) := by decide +kernel
theorem dX11_carryOut_59 : decode cX11_carryOut 59 = .ok (.getfield 146, 3) := by decide +kernel
theorem dX11_carryOut_62 : decode cX11_carryOut 62 = .ok (.iload 4, 2) := by decide +kernel
theorem dX11_carryOut_64 : decode cX11_carryOut 64 = .ok (.iaload, 1) := by decide +kernel
theorem dX11_carryOut_65 : decode cX11_carryOut 65 = .ok (.invokevirtual 332, 3) := by decide +kernel
theorem dX11_carryOut_68 : decode cX11_carryOut 68 = .ok (.iastore, 1) := by decide +kernel
theorem dX11_carryOut_69 : decode cX11_carryOut 69 = .ok (.iinc 4 1, 3) := by decide +kernel
theorem dX11_carryOut_72 : decode cX11_carryOut 72 = .ok (.goto (-59), 3) := by decide +kernel
theorem dX11_carryOut_75 : decode cX11_carryOut 75 = .ok (.aload_n 0, 1) := by decide +kernel
theorem dX11_carryOut_76 : decode cX11_carryOut 76 = .ok (.getfield 35, 3) := by decide +kernel
theorem dX11_carryOut_79 : decode cX11_carryOut 79 = .ok (.getfield 243, 3) := by decide +kernel
theorem dX11_carryOut_82 : decode cX11_carryOut 82 = .ok (.iload_n 2, 1) := by decide +kernel
theorem dX11_carryOut_83 : decode cX11_carryOut 83 = .ok (.iaload, 1) := by decide +kernel
theorem dX11_carryOut_84 : decode cX11_carryOut 84 = .ok (.iconst (-1), 1) := by decide +kernel
theorem dX11_carryOut_85 : decode cX11_carryOut 85 = .ok (.if_icmp .eq 21, 3) := by decide +kernel
theorem dX11_carryOut_88 : decode cX11_carryOut 88 = .ok (.aload_n 0, 1) := by decide +kernel
theorem dX11_carryOut_89 : decode cX11_carryOut 89 = .ok (.getfield 42, 3) := by decide +kernel
theorem dX11_carryOut_92 : decode cX11_carryOut 92 = .ok (.aload_n 0, 1) := by decide +kernel
theorem dX11_carryOut_93 : decode cX11_carryOut 93 = .ok (.getfield 35, 3) := by decide +kernel
theorem dX11_carryOut_96 : decode cX11_carryOut 96 = .ok (.getfield 243, 3) := by decide +kernel
theorem dX11_carryOut_99 : decode cX11_carryOut 99 = .ok (.iload_n 2, 1) := by decide +kernel
theorem dX11_carryOut_100 : decode cX11_carryOut 100 = .ok (.iaload, 1) := by decide +kernel
theorem dX11_carryOut_101 : decode cX11_carryOut 101 = .ok (.iaload, 1) := by decide +kernel
theorem dX11_carryOut_102 : decode cX11_carryOut 102 = .ok (.ifCond .ne 4, 3) := by decide +kernel
theorem dX11_carryOut_105 : decode cX11_carryOut 105 = .ok (.return_, 1) := by decide +kernel
theorem dX11_carryOut_106 : decode cX11_carryOut 106 = .ok (.aload_n 0, 1) := by decide +kernel
theorem dX11_carryOut_107 : decode cX11_carryOut 107 = .ok (.getfield 35, 3) := by decide +kernel
theorem dX11_carryOut_110 : decode cX11_carryOut 110 = .ok (.getfield 238, 3) := by decide +kernel
theorem dX11_carryOut_113 : decode cX11_carryOut 113 = .ok (.iload_n 2, 1) := by decide +kernel
theorem dX11_carryOut_114 : decode cX11_carryOut 114 = .ok (.iaload, 1) := by decide +kernel
theorem dX11_carryOut_115 : decode cX11_carryOut 115 = .ok (.istore 4, 2) := by decide +kernel
theorem dX11_carryOut_117 : decode cX11_carryOut 117 = .ok (.aload_n 0, 1) := by decide +kernel
theorem dX11_carryOut_118 : decode cX11_carryOut 118 = .ok (.getfield 35, 3) := by decide +kernel
theorem dX11_carryOut_121 : decode cX11_carryOut 121 = .ok (.getfield 241, 3) := by decide +kernel
theorem dX11_carryOut_124 : decode cX11_carryOut 124 = .ok (.iload_n 2, 1) := by decide +kernel
theorem dX11_carryOut_125 : decode cX11_carryOut 125 = .ok (.iaload, 1) := by decide +kernel
theorem dX11_carryOut_126 : decode cX11_carryOut 126 = .ok (.iconst (-1), 1) := by decide +kernel
theorem dX11_carryOut_127 : decode cX11_carryOut 127 = .ok (.if_icmp .ne 7, 3) := by decide +kernel
theorem dX11_carryOut_130 : decode cX11_carryOut 130 = .ok (.iconst 0, 1) := by decide +kernel
theorem dX11_carryOut_131 : decode cX11_carryOut 131 = .ok (.goto 17, 3) := by decide +kernel
theorem dX11_carryOut_134 : decode cX11_carryOut 134 = .ok (.aload_n 0, 1) := by decide +kernel
theorem dX11_carryOut_135 : decode cX11_carryOut 135 = .ok (.getfield 42, 3) := by decide +kernel
theorem dX11_carryOut_138 : decode cX11_carryOut 138 = .ok (.aload_n 0, 1) := by decide +kernel
theorem dX11_carryOut_139 : decode cX11_carryOut 139 = .ok (.getfield 35, 3) := by decide +kernel
theorem dX11_carryOut_142 : decode cX11_carryOut 142 = .ok (.getfield 241, 3) := by decide +kernel
theorem dX11_carryOut_145 : decode cX11_carryOut 145 = .ok (.iload_n 2, 1) := by decide +kernel
theorem dX11_carryOut_146 : decode cX11_carryOut 146 = .ok (.iaload, 1) := by decide +kernel
theorem dX11_carryOut_147 : decode cX11_carryOut 147 = .ok (.iaload, 1) := by decide +kernel
theorem dX11_carryOut_148 : decode cX11_carryOut 148 = .ok (.istore 5, 2) := by decide +kernel
theorem dX11_carryOut_150 : decode cX11_carryOut 150 = .ok (.aload_n 0, 1) := by decide +kernel
theorem dX11_carryOut_151 : decode cX11_carryOut 151 = .ok (.getfield 35, 3) := by decide +kernel
theorem dX11_carryOut_154 : decode cX11_carryOut 154 = .ok (.getfield 235, 3) := by decide +kernel
theorem dX11_carryOut_157 : decode cX11_carryOut 157 = .ok (.iload_n 2, 1) := by decide +kernel
theorem dX11_carryOut_158 : decode cX11_carryOut 158 = .ok (.iaload, 1) := by decide +kernel
theorem dX11_carryOut_159 : decode cX11_carryOut 159 = .ok (.iconst 3, 1) := by decide +kernel
theorem dX11_carryOut_160 : decode cX11_carryOut 160 = .ok (.if_icmp .ne 32, 3) := by decide +kernel
theorem dX11_carryOut_163 : decode cX11_carryOut 163 = .ok (.aload_n 1, 1) := by decide +kernel
theorem dX11_carryOut_164 : decode cX11_carryOut 164 = .ok (.getfield 293, 3) := by decide +kernel
theorem dX11_carryOut_167 : decode cX11_carryOut 167 = .ok (.iload 4, 2) := by decide +kernel
theorem dX11_carryOut_169 : decode cX11_carryOut 169 = .ok (.aload_n 1, 1) := by decide +kernel
theorem dX11_carryOut_170 : decode cX11_carryOut 170 = .ok (.getfield 293, 3) := by decide +kernel
theorem dX11_carryOut_173 : decode cX11_carryOut 173 = .ok (.iload 4, 2) := by decide +kernel
theorem dX11_carryOut_175 : decode cX11_carryOut 175 = .ok (.iaload, 1) := by decide +kernel
theorem dX11_carryOut_176 : decode cX11_carryOut 176 = .ok (.i2l, 1) := by decide +kernel
theorem dX11_carryOut_177 : decode cX11_carryOut 177 = .ok (.iload 5, 2) := by decide +kernel
theorem dX11_carryOut_179 : decode cX11_carryOut 179 = .ok (.i2l, 1) := by decide +kernel
theorem dX11_carryOut_180 : decode cX11_carryOut 180 = .ok (.ladd, 1) := by decide +kernel
theorem dX11_carryOut_181 : decode cX11_carryOut 181 = .ok (.bipush (-90), 2) := by decide +kernel
theorem dX11_carryOut_183 : decode cX11_carryOut 183 = .ok (.bipush 90, 2) := by decide +kernel
theorem dX11_carryOut_185 : decode cX11_carryOut 185 = .ok (.invokestatic 336, 3) := by decide +kernel
theorem dX11_carryOut_188 : decode cX11_carryOut 188 = .ok (.iastore, 1) := by decide +kernel
theorem dX11_carryOut_189 : decode cX11_carryOut 189 = .ok (.goto 65, 3) := by decide +kernel
theorem dX11_carryOut_192 : decode cX11_carryOut 192 = .ok (.aload_n 0, 1) := by decide +kernel
theorem dX11_carryOut_193 : decode cX11_carryOut 193 = .ok (.getfield 35, 3) := by decide +kernel
theorem dX11_carryOut_196 : decode cX11_carryOut 196 = .ok (.getfield 235, 3) := by decide +kernel
theorem dX11_carryOut_199 : decode cX11_carryOut 199 = .ok (.iload_n 2, 1) := by decide +kernel
theorem dX11_carryOut_200 : decode cX11_carryOut 200 = .ok (.iaload, 1) := by decide +kernel
theorem dX11_carryOut_201 : decode cX11_carryOut 201 = .ok (.iconst 4, 1) := by decide +kernel
theorem dX11_carryOut_202 : decode cX11_carryOut 202 = .ok (.if_icmp .ne 36, 3) := by decide +kernel
theorem dX11_carryOut_205 : decode cX11_carryOut 205 = .ok (.aload_n 1, 1) := by decide +kernel
theorem dX11_carryOut_206 : decode cX11_carryOut 206 = .ok (.getfield 292, 3) := by decide +kernel
theorem dX11_carryOut_209 : decode cX11_carryOut 209 = .ok (.iload 4, 2) := by decide +kernel
theorem dX11_carryOut_211 : decode cX11_carryOut 211 = .ok (.aload_n 1, 1) := by decide +kernel
theorem dX11_carryOut_212 : decode cX11_carryOut 212 = .ok (.getfield 292, 3) := by decide +kernel
theorem dX11_carryOut_215 : decode cX11_carryOut 215 = .ok (.iload 4, 2) := by decide +kernel
theorem dX11_carryOut_217 : decode cX11_carryOut 217 = .ok (.iaload, 1) := by decide +kernel
theorem dX11_carryOut_218 : decode cX11_carryOut 218 = .ok (.i2l, 1) := by decide +kernel
theorem dX11_carryOut_219 : decode cX11_carryOut 219 = .ok (.iload 5, 2) := by decide +kernel
theorem dX11_carryOut_221 : decode cX11_carryOut 221 = .ok (.i2l, 1) := by decide +kernel
theorem dX11_carryOut_222 : decode cX11_carryOut 222 = .ok (.lsub, 1) := by decide +kernel
theorem dX11_carryOut_223 : decode cX11_carryOut 223 = .ok (.iconst 0, 1) := by decide +kernel
theorem dX11_carryOut_224 : decode cX11_carryOut 224 = .ok (.aload_n 1, 1) := by decide +kernel
theorem dX11_carryOut_225 : decode cX11_carryOut 225 = .ok (.getfield 314, 3) := by decide +kernel
theorem dX11_carryOut_228 : decode cX11_carryOut 228 = .ok (.iload 4, 2) := by decide +kernel
theorem dX11_carryOut_230 : decode cX11_carryOut 230 = .ok (.iaload, 1) := by decide +kernel
theorem dX11_carryOut_231 : decode cX11_carryOut 231 = .ok (.invokestatic 336, 3) := by decide +kernel
theorem dX11_carryOut_234 : decode cX11_carryOut 234 = .ok (.iastore, 1) := by decide +kernel
theorem dX11_carryOut_235 : decode cX11_carryOut 235 = .ok (.goto 19, 3) := by decide +kernel
theorem dX11_carryOut_238 : decode cX11_carryOut 238 = .ok (.aload_n 1, 1) := by decide +kernel
theorem dX11_carryOut_239 : decode cX11_carryOut 239 = .ok (.aload_n 0, 1) := by decide +kernel
theorem dX11_carryOut_240 : decode cX11_carryOut 240 = .ok (.getfield 35, 3) := by decide +kernel
theorem dX11_carryOut_243 : decode cX11_carryOut 243 = .ok (.getfield 235, 3) := by decide +kernel
theorem dX11_carryOut_246 : decode cX11_carryOut 246 = .ok (.iload_n 2, 1) := by decide +kernel
theorem dX11_carryOut_247 : decode cX11_carryOut 247 = .ok (.iaload, 1) := by decide +kernel
theorem dX11_carryOut_248 : decode cX11_carryOut 248 = .ok (.iload 4, 2) := by decide +kernel
theorem dX11_carryOut_250 : decode cX11_carryOut 250 = .ok (.invokevirtual 340, 3) := by decide +kernel
theorem dX11_carryOut_253 : decode cX11_carryOut 253 = .ok (.pop, 1) := by decide +kernel
theorem dX11_carryOut_254 : decode cX11_carryOut 254 = .ok (.return_, 1) := by decide +kernel
theorem dX11_pass_0 : decode cX11_pass 0 = .ok (.iconst 0, 1) := by decide +kernel
theorem dX11_pass_1 : decode cX11_pass 1 = .ok (.istore_n 2, 1) := by decide +kernel
theorem dX11_pass_2 : decode cX11_pass 2 = .ok (.iload_n 2, 1) := by decide +kernel
theorem dX11_pass_3 : decode cX11_pass 3 = .ok (.aload_n 0, 1) := by decide +kernel
theorem dX11_pass_4 : decode cX11_pass 4 = .ok (.getfield 35, 3) := by decide +kernel
theorem dX11_pass_7 : decode cX11_pass 7 = .ok (.getfield 229, 3) := by decide +kernel
theorem dX11_pass_10 : decode cX11_pass 10 = .ok (.if_icmp .ge 15, 3) := by decide +kernel
theorem dX11_pass_13 : decode cX11_pass 13 = .ok (.aload_n 0, 1) := by decide +kernel
theorem dX11_pass_14 : decode cX11_pass 14 = .ok (.aload_n 1, 1) := by decide +kernel
theorem dX11_pass_15 : decode cX11_pass 15 = .ok (.iload_n 2, 1) := by decide +kernel
theorem dX11_pass_16 : decode cX11_pass 16 = .ok (.invokevirtual 342, 3) := by decide +kernel
theorem dX11_pass_19 : decode cX11_pass 19 = .ok (.iinc 2 1, 3) := by decide +kernel
theorem dX11_pass_22 : decode cX11_pass 22 = .ok (.goto (-20), 3) := by decide +kernel
theorem dX11_pass_25 : decode cX11_pass 25 = .ok (.aload_n 1, 1) := by decide +kernel
theorem dX11_pass_26 : decode cX11_pass 26 = .ok (.invokevirtual 346, 3) := by decide +kernel
theorem dX11_pass_29 : decode cX11_pass 29 = .ok (.istore_n 2, 1) := by decide +kernel
theorem dX11_pass_30 : decode cX11_pass 30 = .ok (.aload_n 1, 1) := by decide +kernel
theorem dX11_pass_31 : decode cX11_pass 31 = .ok (.dup, 1) := by decide +kernel
theorem dX11_pass_32 : decode cX11_pass 32 = .ok (.getfield 308, 3) := by decide +kernel
theorem dX11_pass_35 : decode cX11_pass 35 = .ok (.iconst 1, 1) := by decide +kernel
theorem dX11_pass_36 : decode cX11_pass 36 = .ok (.iadd, 1) := by decide +kernel
theorem dX11_pass_37 : decode cX11_pass 37 = .ok (.putfield 308, 3) := by decide +kernel
theorem dX11_pass_40 : decode cX11_pass 40 = .ok (.iload_n 2, 1) := by decide +kernel
theorem dX11_pass_41 : decode cX11_pass 41 = .ok (.ireturn, 1) := by decide +kernel
theorem dX11_mirrors_0 : decode cX11_mirrors 0 = .ok (.aload_n 0, 1) := by decide +kernel
theorem dX11_mirrors_1 : decode cX11_mirrors 1 = .ok (.aload_n 0, 1) := by decide +kernel
theorem dX11_mirrors_2 : decode cX11_mirrors 2 = .ok (.getfield 35, 3) := by decide +kernel
theorem dX11_mirrors_5 : decode cX11_mirrors 5 = .ok (.getfield 149, 3) := by decide +kernel
theorem dX11_mirrors_8 : decode cX11_mirrors 8 = .ok (.invokevirtual 280, 3) := by decide +kernel
theorem dX11_mirrors_11 : decode cX11_mirrors 11 = .ok (.ireturn, 1) := by decide +kernel
theorem dX11_orders_0 : decode cX11_orders 0 = .ok (.aload_n 0, 1) := by decide +kernel
theorem dX11_orders_1 : decode cX11_orders 1 = .ok (.aload_n 0, 1) := by decide +kernel
theorem dX11_orders_2 : decode cX11_orders 2 = .ok (.getfield 35, 3) := by decide +kernel
theorem dX11_orders_5 : decode cX11_orders 5 = .ok (.getfield 229, 3) := by decide +kernel
theorem dX11_orders_8 : decode cX11_orders 8 = .ok (.invokevirtual 280, 3) := by decide +kernel
theorem dX11_orders_11 : decode cX11_orders 11 = .ok (.ireturn, 1) := by decide +kernel
theorem dX11_minutes_0 : decode cX11_minutes 0 = .ok (.aload_n 0, 1) := by decide +kernel
theorem dX11_minutes_1 : decode cX11_minutes 1 = .ok (.aload_n 0, 1) := by decide +kernel
theorem dX11_minutes_2 : decode cX11_minutes 2 = .ok (.getfield 48, 3) := by decide +kernel
theorem dX11_minutes_5 : decode cX11_minutes 5 = .ok (.getfield 308, 3) := by decide +kernel
theorem dX11_minutes_8 : decode cX11_minutes 8 = .ok (.invokevirtual 280, 3) := by decide +kernel
theorem dX11_minutes_11 : decode cX11_minutes 11 = .ok (.ireturn, 1) := by decide +kernel
theorem dX11_tapeBytes_0 : decode cX11_tapeBytes 0 = .ok (.aload_n 0, 1) := by decide +kernel
theorem dX11_tapeBytes_1 : decode cX11_tapeBytes 1 = .ok (.aload_n 0, 1) := by decide +kernel
theorem dX11_tapeBytes_2 : decode cX11_tapeBytes 2 = .ok (.getfield 71, 3) := by decide +kernel
theorem dX11_tapeBytes_5 : decode cX11_tapeBytes 5 = .ok (.invokevirtual 280, 3) := by decide +kernel
theorem dX11_tapeBytes_8 : decode cX11_tapeBytes 8 = .ok (.ireturn, 1) := by decide +kernel
theorem dX11_lightAtEnd_0 : decode cX11_lightAtEnd 0 = .ok (.aload_n 0, 1) := by decide +kernel
theorem dX11_lightAtEnd_1 : decode cX11_lightAtEnd 1 = .ok (.aload_n 0, 1) := by decide +kernel
theorem dX11_lightAtEnd_2 : decode cX11_lightAtEnd 2 = .ok (.aload_n 0, 1) := by decide +kernel
theorem dX11_lightAtEnd_3 : decode cX11_lightAtEnd 3 = .ok (.getfield 48, 3) := by decide +kernel
theorem dX11_lightAtEnd_6 : decode cX11_lightAtEnd 6 = .ok (.invokevirtual 304, 3) := by decide +kernel
theorem dX11_lightAtEnd_9 : decode cX11_lightAtEnd 9 = .ok (.invokevirtual 280, 3) := by decide +kernel
theorem dX11_lightAtEnd_12 : decode cX11_lightAtEnd 12 = .ok (.ireturn, 1) := by decide +kernel
theorem dX11_tiltAtEnd_0 : decode cX11_tiltAtEnd 0 = .ok (.aload_n 0, 1) := by decide +kernel
theorem dX11_tiltAtEnd_1 : decode cX11_tiltAtEnd 1 = .ok (.aload_n 0, 1) := by decide +kernel
theorem dX11_tiltAtEnd_2 : decode cX11_tiltAtEnd 2 = .ok (.getfield 48, 3) := by decide +kernel
theorem dX11_tiltAtEnd_5 : decode cX11_tiltAtEnd 5 = .ok (.invokevirtual 300, 3) := by decide +kernel
theorem dX11_tiltAtEnd_8 : decode cX11_tiltAtEnd 8 = .ok (.aload_n 0, 1) := by decide +kernel
theorem dX11_tiltAtEnd_9 : decode cX11_tiltAtEnd 9 = .ok (.aload_n 0, 1) := by decide +kernel
theorem dX11_tiltAtEnd_10 : decode cX11_tiltAtEnd 10 = .ok (.getfield 297, 3) := by decide +kernel
theorem dX11_tiltAtEnd_13 : decode cX11_tiltAtEnd 13 = .ok (.invokevirtual 280, 3) := by decide +kernel
theorem dX11_tiltAtEnd_16 : decode cX11_tiltAtEnd 16 = .ok (.ireturn, 1) := by decide +kernel
theorem dX11_isSeen_0 : decode cX11_isSeen 0 = .ok (.aload_n 0, 1) := by decide +kernel
theorem dX11_isSeen_1 : decode cX11_isSeen 1 = .ok (.iconst 0, 1) := by decide +kernel
theorem dX11_isSeen_2 : decode cX11_isSeen 2 = .ok (.putfield 64, 3) := by decide +kernel
theorem dX11_isSeen_5 : decode cX11_isSeen 5 = .ok (.aload_n 0, 1) := by decide +kernel
theorem dX11_isSeen_6 : decode cX11_isSeen 6 = .ok (.aload_n 0, 1) := by decide +kernel
theorem dX11_isSeen_7 : decode cX11_isSeen 7 = .ok (.getfield 48, 3) := by decide +kernel
theorem dX11_isSeen_10 : decode cX11_isSeen 10 = .ok (.invokevirtual 317, 3) := by decide +kernel
theorem dX11_isSeen_13 : decode cX11_isSeen 13 = .ok (.ireturn, 1) := by decide +kernel
theorem dX11_worstMirror_0 : decode cX11_worstMirror 0 = .ok (.aload_n 0, 1) := by decide +kernel
theorem dX11_worstMirror_1 : decode cX11_worstMirror 1 = .ok (.iconst 0, 1) := by decide +kernel
theorem dX11_worstMirror_2 : decode cX11_worstMirror 2 = .ok (.putfield 64, 3) := by decide +kernel
theorem dX11_worstMirror_5 : decode cX11_worstMirror 5 = .ok (.aload_n 0, 1) := by decide +kernel
theorem dX11_worstMirror_6 : decode cX11_worstMirror 6 = .ok (.getfield 35, 3) := by decide +kernel
theorem dX11_worstMirror_9 : decode cX11_worstMirror 9 = .ok (.getfield 149, 3) := by decide +kernel
theorem dX11_worstMirror_12 : decode cX11_worstMirror 12 = .ok (.ifCond .ne 9, 3) := by decide +kernel
theorem dX11_worstMirror_15 : decode cX11_worstMirror 15 = .ok (.aload_n 0, 1) := by decide +kernel
theorem dX11_worstMirror_16 : decode cX11_worstMirror 16 = .ok (.iconst 1, 1) := by decide +kernel
theorem dX11_worstMirror_17 : decode cX11_worstMirror 17 = .ok (.invokevirtual 262, 3) := by decide +kernel
theorem dX11_worstMirror_20 : decode cX11_worstMirror 20 = .ok (.ireturn, 1) := by decide +kernel
theorem dX11_worstMirror_21 : decode cX11_worstMirror 21 = .ok (.aload_n 0, 1) := by decide +kernel
theorem dX11_worstMirror_22 : decode cX11_worstMirror 22 = .ok (.aload_n 0, 1) := by decide +kernel
theorem dX11_worstMirror_23 : decode cX11_worstMirror 23 = .ok (.getfield 48, 3) := by decide +kernel
theorem dX11_worstMirror_26 : decode cX11_worstMirror 26 = .ok (.invokevirtual 300, 3) := by decide +kernel
theorem dX11_worstMirror_29 : decode cX11_worstMirror 29 = .ok (.aload_n 0, 1) := by decide +kernel
theorem dX11_worstMirror_30 : decode cX11_worstMirror 30 = .ok (.getfield 48, 3) := by decide +kernel
theorem dX11_worstMirror_33 : decode cX11_worstMirror 33 = .ok (.getfield 283, 3) := by decide +kernel
theorem dX11_worstMirror_36 : decode cX11_worstMirror 36 = .ok (.iconst 0, 1) := by decide +kernel
theorem dX11_worstMirror_37 : decode cX11_worstMirror 37 = .ok (.iaload, 1) := by decide +kernel
theorem dX11_worstMirror_38 : decode cX11_worstMirror 38 = .ok (.istore_n 1, 1) := by decide +kernel
theorem dX11_worstMirror_39 : decode cX11_worstMirror 39 = .ok (.iconst 1, 1) := by decide +kernel
theorem dX11_worstMirror_40 : decode cX11_worstMirror 40 = .ok (.istore_n 2, 1) := by decide +kernel
theorem dX11_worstMirror_41 : decode cX11_worstMirror 41 = .ok (.iload_n 2, 1) := by decide +kernel
theorem dX11_worstMirror_42 : decode cX11_worstMirror 42 = .ok (.aload_n 0, 1) := by decide +kernel
theorem dX11_worstMirror_43 : decode cX11_worstMirror 43 = .ok (.getfield 35, 3) := by decide +kernel
theorem dX11_worstMirror_46 : decode cX11_worstMirror 46 = .ok (.getfield 149, 3) := by decide +kernel
theorem dX11_worstMirror_49 : decode cX11_worstMirror 49 = .ok (.if_icmp .ge 50, 3) := by decide +kernel
theorem dX11_worstMirror_52 : decode cX11_worstMirror 52 = .ok (.aload_n 0, 1) := by decide +kernel
theorem dX11_worstMirror_53 : decode cX11_worstMirror 53 = .ok (.getfield 48, 3) := by decide +kernel
theorem dX11_worstMirror_56 : decode cX11_worstMirror 56 = .ok (.getfield 283, 3) := by decide +kernel
theorem dX11_worstMirror_59 : decode cX11_worstMirror 59 = .ok (.iload_n 2, 1) := by decide +kernel
theorem dX11_worstMirror_60 : decode cX11_worstMirror 60 = .ok (.iaload, 1) := by decide +kernel
theorem dX11_worstMirror_61 : decode cX11_worstMirror 61 = .ok (.istore_n 3, 1) := by decide +kernel
theorem dX11_worstMirror_62 : decode cX11_worstMirror 62 = .ok (.aload_n 0, 1) := by decide +kernel
theorem dX11_worstMirror_63 : decode cX11_worstMirror 63 = .ok (.getfield 55, 3) := by decide +kernel
theorem dX11_worstMirror_66 : decode cX11_worstMirror 66 = .ok (.iload_n 3, 1) := by decide +kernel
theorem dX11_worstMirror_67 : decode cX11_worstMirror 67 = .ok (.iaload, 1) := by decide +kernel
theorem dX11_worstMirror_68 : decode cX11_worstMirror 68 = .ok (.aload_n 0, 1) := by decide +kernel
theorem dX11_worstMirror_69 : decode cX11_worstMirror 69 = .ok (.getfield 58, 3) := by decide +kernel
theorem dX11_worstMirror_72 : decode cX11_worstMirror 72 = .ok (.iload_n 3, 1) := by decide +kernel
theorem dX11_worstMirror_73 : decode cX11_worstMirror 73 = .ok (.iaload, 1) := by decide +kernel
theorem dX11_worstMirror_74 : decode cX11_worstMirror 74 = .ok (.isub, 1) := by decide +kernel
theorem dX11_worstMirror_75 : decode cX11_worstMirror 75 = .ok (.aload_n 0, 1) := by decide +kernel
theorem dX11_worstMirror_76 : decode cX11_worstMirror 76 = .ok (.getfield 55, 3) := by decide +kernel
theorem dX11_worstMirror_79 : decode cX11_worstMirror 79 = .ok (.iload_n 1, 1) := by decide +kernel
theorem dX11_worstMirror_80 : decode cX11_worstMirror 80 = .ok (.iaload, 1) := by decide +kernel
theorem dX11_worstMirror_81 : decode cX11_worstMirror 81 = .ok (.aload_n 0, 1) := by decide +kernel
theorem dX11_worstMirror_82 : decode cX11_worstMirror 82 = .ok (.getfield 58, 3) := by decide +kernel
theorem dX11_worstMirror_85 : decode cX11_worstMirror 85 = .ok (.iload_n 1, 1) := by decide +kernel
theorem dX11_worstMirror_86 : decode cX11_worstMirror 86 = .ok (.iaload, 1) := by decide +kernel
theorem dX11_worstMirror_87 : decode cX11_worstMirror 87 = .ok (.isub, 1) := by decide +kernel
theorem dX11_worstMirror_88 : decode cX11_worstMirror 88 = .ok (.if_icmp .le 5, 3) := by decide +kernel
theorem dX11_worstMirror_91 : decode cX11_worstMirror 91 = .ok (.iload_n 3, 1) := by decide +kernel
theorem dX11_worstMirror_92 : decode cX11_worstMirror 92 = .ok (.istore_n 1, 1) := by decide +kernel
theorem dX11_worstMirror_93 : decode cX11_worstMirror 93 = .ok (.iinc 2 1, 3) := by decide +kernel
theorem dX11_worstMirror_96 : decode cX11_worstMirror 96 = .ok (.goto (-55), 3) := by decide +kernel
theorem dX11_worstMirror_99 : decode cX11_worstMirror 99 = .ok (.iload_n 1, 1) := by decide +kernel
theorem dX11_worstMirror_100 : decode cX11_worstMirror 100 = .ok (.ireturn, 1) := by decide +kernel
theorem dX11_isMirror_0 : decode cX11_isMirror 0 = .ok (.iload_n 1, 1) := by decide +kernel
theorem dX11_isMirror_1 : decode cX11_isMirror 1 = .ok (.iconst 0, 1) := by decide +kernel
theorem dX11_isMirror_2 : decode cX11_isMirror 2 = .ok (.aload_n 0, 1) := by decide +kernel
theorem dX11_isMirror_3 : decode cX11_isMirror 3 = .ok (.getfield 35, 3) := by decide +kernel
theorem dX11_isMirror_6 : decode cX11_isMirror 6 = .ok (.getfield 149, 3) := by decide +kernel
theorem dX11_isMirror_9 : decode cX11_isMirror 9 = .ok (.iconst 1, 1) := by decide +kernel
theorem dX11_isMirror_10 : decode cX11_isMirror 10 = .ok (.isub, 1) := by decide +kernel
theorem dX11_isMirror_11 : decode cX11_isMirror 11 = .ok (.invokestatic 67, 3) := by decide +kernel
theorem dX11_isMirror_14 : decode cX11_isMirror 14 = .ok (.istore_n 2, 1) := by decide +kernel
theorem dX11_isMirror_15 : decode cX11_isMirror 15 = .ok (.aload_n 0, 1) := by decide +kernel
theorem dX11_isMirror_16 : decode cX11_isMirror 16 = .ok (.iload_n 2, 1) := by decide +kernel
theorem dX11_isMirror_17 : decode cX11_isMirror 17 = .ok (.ifCond .eq 7, 3) := by decide +kernel
theorem dX11_isMirror_20 : decode cX11_isMirror 20 = .ok (.iconst 0, 1) := by decide +kernel
theorem dX11_isMirror_21 : decode cX11_isMirror 21 = .ok (.goto 4, 3) := by decide +kernel
theorem dX11_isMirror_24 : decode cX11_isMirror 24 = .ok (.iconst 1, 1) := by decide +kernel
theorem dX11_isMirror_25 : decode cX11_isMirror 25 = .ok (.putfield 64, 3) := by decide +kernel
theorem dX11_isMirror_28 : decode cX11_isMirror 28 = .ok (.iload_n 2, 1) := by decide +kernel
theorem dX11_isMirror_29 : decode cX11_isMirror 29 = .ok (.ireturn, 1) := by decide +kernel
theorem dX11_clarityOf_0 : decode cX11_clarityOf 0 = .ok (.aload_n 0, 1) := by decide +kernel
theorem dX11_clarityOf_1 : decode cX11_clarityOf 1 = .ok (.iload_n 1, 1) := by decide +kernel
theorem dX11_clarityOf_2 : decode cX11_clarityOf 2 = .ok (.invokevirtual 349, 3) := by decide +kernel
theorem dX11_clarityOf_5 : decode cX11_clarityOf 5 = .ok (.ifCond .eq 15, 3) := by decide +kernel
theorem dX11_clarityOf_8 : decode cX11_clarityOf 8 = .ok (.aload_n 0, 1) := by decide +kernel
theorem dX11_clarityOf_9 : decode cX11_clarityOf 9 = .ok (.getfield 48, 3) := by decide +kernel
theorem dX11_clarityOf_12 : decode cX11_clarityOf 12 = .ok (.getfield 292, 3) := by decide +kernel
theorem dX11_clarityOf_15 : decode cX11_clarityOf 15 = .ok (.iload_n 1, 1) := by decide +kernel
theorem dX11_clarityOf_16 : decode cX11_clarityOf 16 = .ok (.iaload, 1) := by decide +kernel
theorem dX11_clarityOf_17 : decode cX11_clarityOf 17 = .ok (.goto 4, 3) := by decide +kernel
theorem dX11_clarityOf_20 : decode cX11_clarityOf 20 = .ok (.iconst 0, 1) := by decide +kernel
theorem dX11_clarityOf_21 : decode cX11_clarityOf 21 = .ok (.ireturn, 1) := by decide +kernel
theorem dX11_bestClarityOf_0 : decode cX11_bestClarityOf 0 = .ok (.aload_n 0, 1) := by decide +kernel
theorem dX11_bestClarityOf_1 : decode cX11_bestClarityOf 1 = .ok (.iload_n 1, 1) := by decide +kernel
theorem dX11_bestClarityOf_2 : decode cX11_bestClarityOf 2 = .ok (.invokevirtual 349, 3) := by decide +kernel
theorem dX11_bestClarityOf_5 : decode cX11_bestClarityOf 5 = .ok (.ifCond .eq 15, 3) := by decide +kernel
theorem dX11_bestClarityOf_8 : decode cX11_bestClarityOf 8 = .ok (.aload_n 0, 1) := by decide +kernel
theorem dX11_bestClarityOf_9 : decode cX11_bestClarityOf 9 = .ok (.getfield 48, 3) := by decide +kernel
theorem dX11_bestClarityOf_12 : decode cX11_bestClarityOf 12 = .ok (.getfield 314, 3) := by decide +kernel
theorem dX11_bestClarityOf_15 : decode cX11_bestClarityOf 15 = .ok (.iload_n 1, 1) := by decide +kernel
theorem dX11_bestClarityOf_16 : decode cX11_bestClarityOf 16 = .ok (.iaload, 1) := by decide +kernel
theorem dX11_bestClarityOf_17 : decode cX11_bestClarityOf 17 = .ok (.goto 4, 3) := by decide +kernel
theorem dX11_bestClarityOf_20 : decode cX11_bestClarityOf 20 = .ok (.iconst 0, 1) := by decide +kernel
theorem dX11_bestClarityOf_21 : decode cX11_bestClarityOf 21 = .ok (.ireturn, 1) := by decide +kernel
theorem dX11_offsetOf_0 : decode cX11_offsetOf 0 = .ok (.aload_n 0, 1) := by decide +kernel
theorem dX11_offsetOf_1 : decode cX11_offsetOf 1 = .ok (.iload_n 1, 1) := by decide +kernel
theorem dX11_offsetOf_2 : decode cX11_offsetOf 2 = .ok (.invokevirtual 349, 3) := by decide +kernel
theorem dX11_offsetOf_5 : decode cX11_offsetOf 5 = .ok (.ifCond .eq 15, 3) := by decide +kernel
theorem dX11_offsetOf_8 : decode cX11_offsetOf 8 = .ok (.aload_n 0, 1) := by decide +kernel
theorem dX11_offsetOf_9 : decode cX11_offsetOf 9 = .ok (.getfield 48, 3) := by decide +kernel
theorem dX11_offsetOf_12 : decode cX11_offsetOf 12 = .ok (.getfield 293, 3) := by decide +kernel
theorem dX11_offsetOf_15 : decode cX11_offsetOf 15 = .ok (.iload_n 1, 1) := by decide +kernel
theorem dX11_offsetOf_16 : decode cX11_offsetOf 16 = .ok (.iaload, 1) := by decide +kernel
theorem dX11_offsetOf_17 : decode cX11_offsetOf 17 = .ok (.goto 4, 3) := by decide +kernel
theorem dX11_offsetOf_20 : decode cX11_offsetOf 20 = .ok (.iconst 0, 1) := by decide +kernel
theorem dX11_offsetOf_21 : decode cX11_offsetOf 21 = .ok (.ireturn, 1) := by decide +kernel
theorem dX11_place_0 : decode cX11_place 0 = .ok (.iconst 0, 1) := by decide +kernel
theorem dX11_place_1 : decode cX11_place 1 = .ok (.istore_n 2, 1) := by decide +kernel
theorem dX11_place_2 : decode cX11_place 2 = .ok (.aload_n 0, 1) := by decide +kernel
theorem dX11_place_3 : decode cX11_place 3 = .ok (.getfield 48, 3) := by decide +kernel
theorem dX11_place_6 : decode cX11_place 6 = .ok (.getfield 283, 3) := by decide +kernel
theorem dX11_place_9 : decode cX11_place 9 = .ok (.iload_n 2, 1) := by decide +kernel
theorem dX11_place_10 : decode cX11_place 10 = .ok (.iaload, 1) := by decide +kernel
theorem dX11_place_11 : decode cX11_place 11 = .ok (.iload_n 1, 1) := by decide +kernel
theorem dX11_place_12 : decode cX11_place 12 = .ok (.if_icmp .eq 9, 3) := by decide +kernel
theorem dX11_place_15 : decode cX11_place 15 = .ok (.iinc 2 1, 3) := by decide +kernel
theorem dX11_place_18 : decode cX11_place 18 = .ok (.goto (-16), 3) := by decide +kernel
theorem dX11_place_21 : decode cX11_place 21 = .ok (.iload_n 2, 1) := by decide +kernel
theorem dX11_place_22 : decode cX11_place 22 = .ok (.ireturn, 1) := by decide +kernel
theorem dX11_placeOf_0 : decode cX11_placeOf 0 = .ok (.aload_n 0, 1) := by decide +kernel
theorem dX11_placeOf_1 : decode cX11_placeOf 1 = .ok (.iload_n 1, 1) := by decide +kernel
theorem dX11_placeOf_2 : decode cX11_placeOf 2 = .ok (.invokevirtual 349, 3) := by decide +kernel
theorem dX11_placeOf_5 : decode cX11_placeOf 5 = .ok (.ifCond .eq 11, 3) := by decide +kernel
theorem dX11_placeOf_8 : decode cX11_placeOf 8 = .ok (.aload_n 0, 1) := by decide +kernel
theorem dX11_placeOf_9 : decode cX11_placeOf 9 = .ok (.iload_n 1, 1) := by decide +kernel
theorem dX11_placeOf_10 : decode cX11_placeOf 10 = .ok (.invokevirtual 352, 3) := by decide +kernel
theorem dX11_placeOf_13 : decode cX11_placeOf 13 = .ok (.goto 4, 3) := by decide +kernel
theorem dX11_placeOf_16 : decode cX11_placeOf 16 = .ok (.iconst 0, 1) := by decide +kernel
theorem dX11_placeOf_17 : decode cX11_placeOf 17 = .ok (.ireturn, 1) := by decide +kernel
theorem dX11_lightBehind_0 : decode cX11_lightBehind 0 = .ok (.aload_n 0, 1) := by decide +kernel
theorem dX11_lightBehind_1 : decode cX11_lightBehind 1 = .ok (.aload_n 0, 1) := by decide +kernel
theorem dX11_lightBehind_2 : decode cX11_lightBehind 2 = .ok (.getfield 48, 3) := by decide +kernel
theorem dX11_lightBehind_5 : decode cX11_lightBehind 5 = .ok (.invokevirtual 300, 3) := by decide +kernel
theorem dX11_lightBehind_8 : decode cX11_lightBehind 8 = .ok (.aload_n 0, 1) := by decide +kernel
theorem dX11_lightBehind_9 : decode cX11_lightBehind 9 = .ok (.iload_n 1, 1) := by decide +kernel
theorem dX11_lightBehind_10 : decode cX11_lightBehind 10 = .ok (.invokevirtual 349, 3) := by decide +kernel
theorem dX11_lightBehind_13 : decode cX11_lightBehind 13 = .ok (.ifCond .eq 12, 3) := by decide +kernel
theorem dX11_lightBehind_16 : decode cX11_lightBehind 16 = .ok (.aload_n 0, 1) := by decide +kernel
theorem dX11_lightBehind_17 : decode cX11_lightBehind 17 = .ok (.getfield 58, 3) := by decide +kernel
theorem dX11_lightBehind_20 : decode cX11_lightBehind 20 = .ok (.iload_n 1, 1) := by decide +kernel
theorem dX11_lightBehind_21 : decode cX11_lightBehind 21 = .ok (.iaload, 1) := by decide +kernel
theorem dX11_lightBehind_22 : decode cX11_lightBehind 22 = .ok (.goto 4, 3) := by decide +kernel
theorem dX11_lightBehind_25 : decode cX11_lightBehind 25 = .ok (.iconst 0, 1) := by decide +kernel
theorem dX11_lightBehind_26 : decode cX11_lightBehind 26 = .ok (.ireturn, 1) := by decide +kernel
theorem dX11_lostAt_0 : decode cX11_lostAt 0 = .ok (.aload_n 0, 1) := by decide +kernel
theorem dX11_lostAt_1 : decode cX11_lostAt 1 = .ok (.aload_n 0, 1) := by decide +kernel
theorem dX11_lostAt_2 : decode cX11_lostAt 2 = .ok (.getfield 48, 3) := by decide +kernel
theorem dX11_lostAt_5 : decode cX11_lostAt 5 = .ok (.invokevirtual 300, 3) := by decide +kernel
theorem dX11_lostAt_8 : decode cX11_lostAt 8 = .ok (.aload_n 0, 1) := by decide +kernel
theorem dX11_lostAt_9 : decode cX11_lostAt 9 = .ok (.iload_n 1, 1) := by decide +kernel
theorem dX11_lostAt_10 : decode cX11_lostAt 10 = .ok (.invokevirtual 349, 3) := by decide +kernel
theorem dX11_lostAt_13 : decode cX11_lostAt 13 = .ok (.ifCond .eq 19, 3) := by decide +kernel
theorem dX11_lostAt_16 : decode cX11_lostAt 16 = .ok (.aload_n 0, 1) := by decide +kernel
theorem dX11_lostAt_17 : decode cX11_lostAt 17 = .ok (.getfield 55, 3) := by decide +kernel
theorem dX11_lostAt_20 : decode cX11_lostAt 20 = .ok (.iload_n 1, 1) := by decide +kernel
theorem dX11_lostAt_21 : decode cX11_lostAt 21 = .ok (.iaload, 1) := by decide +kernel
theorem dX11_lostAt_22 : decode cX11_lostAt 22 = .ok (.aload_n 0, 1) := by decide +kernel
theorem dX11_lostAt_23 : decode cX11_lostAt 23 = .ok (.getfield 58, 3) := by decide +kernel
theorem dX11_lostAt_26 : decode cX11_lostAt 26 = .ok (.iload_n 1, 1) := by decide +kernel
theorem dX11_lostAt_27 : decode cX11_lostAt 27 = .ok (.iaload, 1) := by decide +kernel
theorem dX11_lostAt_28 : decode cX11_lostAt 28 = .ok (.isub, 1) := by decide +kernel
theorem dX11_lostAt_29 : decode cX11_lostAt 29 = .ok (.goto 4, 3) := by decide +kernel
theorem dX11_lostAt_32 : decode cX11_lostAt 32 = .ok (.iconst 0, 1) := by decide +kernel
theorem dX11_lostAt_33 : decode cX11_lostAt 33 = .ok (.ireturn, 1) := by decide +kernel
theorem dX11_tiltBehind_0 : decode cX11_tiltBehind 0 = .ok (.aload_n 0, 1) := by decide +kernel
theorem dX11_tiltBehind_1 : decode cX11_tiltBehind 1 = .ok (.aload_n 0, 1) := by decide +kernel
theorem dX11_tiltBehind_2 : decode cX11_tiltBehind 2 = .ok (.getfield 48, 3) := by decide +kernel
theorem dX11_tiltBehind_5 : decode cX11_tiltBehind 5 = .ok (.invokevirtual 300, 3) := by decide +kernel
theorem dX11_tiltBehind_8 : decode cX11_tiltBehind 8 = .ok (.aload_n 0, 1) := by decide +kernel
theorem dX11_tiltBehind_9 : decode cX11_tiltBehind 9 = .ok (.iload_n 1, 1) := by decide +kernel
theorem dX11_tiltBehind_10 : decode cX11_tiltBehind 10 = .ok (.invokevirtual 349, 3) := by decide +kernel
theorem dX11_tiltBehind_13 : decode cX11_tiltBehind 13 = .ok (.ifCond .eq 12, 3) := by decide +kernel
theorem dX11_tiltBehind_16 : decode cX11_tiltBehind 16 = .ok (.aload_n 0, 1) := by decide +kernel
theorem dX11_tiltBehind_17 : decode cX11_tiltBehind 17 = .ok (.getfield 61, 3) := by decide +kernel
theorem dX11_tiltBehind_20 : decode cX11_tiltBehind 20 = .ok (.iload_n 1, 1) := by decide +kernel
theorem dX11_tiltBehind_21 : decode cX11_tiltBehind 21 = .ok (.iaload, 1) := by decide +kernel
theorem dX11_tiltBehind_22 : decode cX11_tiltBehind 22 = .ok (.goto 4, 3) := by decide +kernel
theorem dX11_tiltBehind_25 : decode cX11_tiltBehind 25 = .ok (.iconst 0, 1) := by decide +kernel
theorem dX11_tiltBehind_26 : decode cX11_tiltBehind 26 = .ok (.ireturn, 1) := by decide +kernel
theorem dX11_isCovered_0 : decode cX11_isCovered 0 = .ok (.aload_n 0, 1) := by decide +kernel
theorem dX11_isCovered_1 : decode cX11_isCovered 1 = .ok (.iload_n 1, 1) := by decide +kernel
theorem dX11_isCovered_2 : decode cX11_isCovered 2 = .ok (.invokevirtual 349, 3) := by decide +kernel
theorem dX11_isCovered_5 : decode cX11_isCovered 5 = .ok (.ifCond .eq 18, 3) := by decide +kernel
theorem dX11_isCovered_8 : decode cX11_isCovered 8 = .ok (.aload_n 0, 1) := by decide +kernel
theorem dX11_isCovered_9 : decode cX11_isCovered 9 = .ok (.getfield 48, 3) := by decide +kernel
theorem dX11_isCovered_12 : decode cX11_isCovered 12 = .ok (.iload_n 1, 1) := by decide +kernel
theorem dX11_isCovered_13 : decode cX11_isCovered 13 = .ok (.invokevirtual 289, 3) := by decide +kernel
theorem dX11_isCovered_16 : decode cX11_isCovered 16 = .ok (.ifCond .eq 7, 3) := by decide +kernel
theorem dX11_isCovered_19 : decode cX11_isCovered 19 = .ok (.iconst 1, 1) := by decide +kernel
theorem dX11_isCovered_20 : decode cX11_isCovered 20 = .ok (.goto 4, 3) := by decide +kernel
theorem dX11_isCovered_23 : decode cX11_isCovered 23 = .ok (.iconst 0, 1) := by decide +kernel
theorem dX11_isCovered_24 : decode cX11_isCovered 24 = .ok (.ireturn, 1) := by decide +kernel
theorem dX11_mirrorAt_0 : decode cX11_mirrorAt 0 = .ok (.aload_n 0, 1) := by decide +kernel
theorem dX11_mirrorAt_1 : decode cX11_mirrorAt 1 = .ok (.iload_n 1, 1) := by decide +kernel
theorem dX11_mirrorAt_2 : decode cX11_mirrorAt 2 = .ok (.invokevirtual 349, 3) := by decide +kernel
theorem dX11_mirrorAt_5 : decode cX11_mirrorAt 5 = .ok (.ifCond .eq 15, 3) := by decide +kernel
theorem dX11_mirrorAt_8 : decode cX11_mirrorAt 8 = .ok (.aload_n 0, 1) := by decide +kernel
theorem dX11_mirrorAt_9 : decode cX11_mirrorAt 9 = .ok (.getfield 48, 3) := by decide +kernel
theorem dX11_mirrorAt_12 : decode cX11_mirrorAt 12 = .ok (.getfield 283, 3) := by decide +kernel
theorem dX11_mirrorAt_15 : decode cX11_mirrorAt 15 = .ok (.iload_n 1, 1) := by decide +kernel
theorem dX11_mirrorAt_16 : decode cX11_mirrorAt 16 = .ok (.iaload, 1) := by decide +kernel
theorem dX11_mirrorAt_17 : decode cX11_mirrorAt 17 = .ok (.goto 4, 3) := by decide +kernel
theorem dX11_mirrorAt_20 : decode cX11_mirrorAt 20 = .ok (.iconst 0, 1) := by decide +kernel
theorem dX11_mirrorAt_21 : decode cX11_mirrorAt 21 = .ok (.ireturn, 1) := by decide +kernel
theorem dX11_isJob_0 : decode cX11_isJob 0 = .ok (.iload_n 1, 1) := by decide +kernel
theorem dX11_isJob_1 : decode cX11_isJob 1 = .ok (.iconst 0, 1) := by decide +kernel
theorem dX11_isJob_2 : decode cX11_isJob 2 = .ok (.aload_n 0, 1) := by decide +kernel
theorem dX11_isJob_3 : decode cX11_isJob 3 = .ok (.getfield 48, 3) := by decide +kernel
theorem dX11_isJob_6 : decode cX11_isJob 6 = .ok (.getfield 311, 3) := by decide +kernel
theorem dX11_isJob_9 : decode cX11_isJob 9 = .ok (.iconst 1, 1) := by decide +kernel
theorem dX11_isJob_10 : decode cX11_isJob 10 = .ok (.isub, 1) := by decide +kernel
theorem dX11_isJob_11 : decode cX11_isJob 11 = .ok (.invokestatic 67, 3) := by decide +kernel
theorem dX11_isJob_14 : decode cX11_isJob 14 = .ok (.istore_n 2, 1) := by decide +kernel
theorem dX11_isJob_15 : decode cX11_isJob 15 = .ok (.aload_n 0, 1) := by decide +kernel
theorem dX11_isJob_16 : decode cX11_isJob 16 = .ok (.iload_n 2, 1) := by decide +kernel
theorem dX11_isJob_17 : decode cX11_isJob 17 = .ok (.ifCond .eq 7, 3) := by decide +kernel
theorem dX11_isJob_20 : decode cX11_isJob 20 = .ok (.iconst 0, 1) := by decide +kernel
theorem dX11_isJob_21 : decode cX11_isJob 21 = .ok (.goto 4, 3) := by decide +kernel
theorem dX11_isJob_24 : decode cX11_isJob 24 = .ok (.iconst 1, 1) := by decide +kernel
theorem dX11_isJob_25 : decode cX11_isJob 25 = .ok (.putfield 64, 3) := by decide +kernel
theorem dX11_isJob_28 : decode cX11_isJob 28 = .ok (.iload_n 2, 1) := by decide +kernel
theorem dX11_isJob_29 : decode cX11_isJob 29 = .ok (.ireturn, 1) := by decide +kernel
theorem dX11_jobs_0 : decode cX11_jobs 0 = .ok (.aload_n 0, 1) := by decide +kernel
theorem dX11_jobs_1 : decode cX11_jobs 1 = .ok (.aload_n 0, 1) := by decide +kernel
theorem dX11_jobs_2 : decode cX11_jobs 2 = .ok (.getfield 48, 3) := by decide +kernel
theorem dX11_jobs_5 : decode cX11_jobs 5 = .ok (.getfield 311, 3) := by decide +kernel
theorem dX11_jobs_8 : decode cX11_jobs 8 = .ok (.invokevirtual 280, 3) := by decide +kernel
theorem dX11_jobs_11 : decode cX11_jobs 11 = .ok (.ireturn, 1) := by decide +kernel
theorem dX11_jobsDone_0 : decode cX11_jobsDone 0 = .ok (.aload_n 0, 1) := by decide +kernel
theorem dX11_jobsDone_1 : decode cX11_jobsDone 1 = .ok (.aload_n 0, 1) := by decide +kernel
theorem dX11_jobsDone_2 : decode cX11_jobsDone 2 = .ok (.getfield 48, 3) := by decide +kernel
theorem dX11_jobsDone_5 : decode cX11_jobsDone 5 = .ok (.getfield 355, 3) := by decide +kernel
theorem dX11_jobsDone_8 : decode cX11_jobsDone 8 = .ok (.invokevirtual 280, 3) := by decide +kernel
theorem dX11_jobsDone_11 : decode cX11_jobsDone 11 = .ok (.ireturn, 1) := by decide +kernel
theorem dX11_kindOfJob_0 : decode cX11_kindOfJob 0 = .ok (.aload_n 0, 1) := by decide +kernel
theorem dX11_kindOfJob_1 : decode cX11_kindOfJob 1 = .ok (.iload_n 1, 1) := by decide +kernel
theorem dX11_kindOfJob_2 : decode cX11_kindOfJob 2 = .ok (.invokevirtual 358, 3) := by decide +kernel
theorem dX11_kindOfJob_5 : decode cX11_kindOfJob 5 = .ok (.ifCond .eq 15, 3) := by decide +kernel
theorem dX11_kindOfJob_8 : decode cX11_kindOfJob 8 = .ok (.aload_n 0, 1) := by decide +kernel
theorem dX11_kindOfJob_9 : decode cX11_kindOfJob 9 = .ok (.getfield 48, 3) := by decide +kernel
theorem dX11_kindOfJob_12 : decode cX11_kindOfJob 12 = .ok (.getfield 361, 3) := by decide +kernel
theorem dX11_kindOfJob_15 : decode cX11_kindOfJob 15 = .ok (.iload_n 1, 1) := by decide +kernel
theorem dX11_kindOfJob_16 : decode cX11_kindOfJob 16 = .ok (.iaload, 1) := by decide +kernel
theorem dX11_kindOfJob_17 : decode cX11_kindOfJob 17 = .ok (.goto 4, 3) := by decide +kernel
theorem dX11_kindOfJob_20 : decode cX11_kindOfJob 20 = .ok (.iconst 0, 1) := by decide +kernel
theorem dX11_kindOfJob_21 : decode cX11_kindOfJob 21 = .ok (.ireturn, 1) := by decide +kernel
theorem dX11_mirrorOfJob_0 : decode cX11_mirrorOfJob 0 = .ok (.aload_n 0, 1) := by decide +kernel
theorem dX11_mirrorOfJob_1 : decode cX11_mirrorOfJob 1 = .ok (.iload_n 1, 1) := by decide +kernel
theorem dX11_mirrorOfJob_2 : decode cX11_mirrorOfJob 2 = .ok (.invokevirtual 358, 3) := by decide +kernel
theorem dX11_mirrorOfJob_5 : decode cX11_mirrorOfJob 5 = .ok (.ifCond .eq 15, 3) := by decide +kernel
theorem dX11_mirrorOfJob_8 : decode cX11_mirrorOfJob 8 = .ok (.aload_n 0, 1) := by decide +kernel
theorem dX11_mirrorOfJob_9 : decode cX11_mirrorOfJob 9 = .ok (.getfield 48, 3) := by decide +kernel
theorem dX11_mirrorOfJob_12 : decode cX11_mirrorOfJob 12 = .ok (.getfield 364, 3) := by decide +kernel
theorem dX11_mirrorOfJob_15 : decode cX11_mirrorOfJob 15 = .ok (.iload_n 1, 1) := by decide +kernel
theorem dX11_mirrorOfJob_16 : decode cX11_mirrorOfJob 16 = .ok (.iaload, 1) := by decide +kernel
theorem dX11_mirrorOfJob_17 : decode cX11_mirrorOfJob 17 = .ok (.goto 4, 3) := by decide +kernel
theorem dX11_mirrorOfJob_20 : decode cX11_mirrorOfJob 20 = .ok (.iconst 0, 1) := by decide +kernel
theorem dX11_mirrorOfJob_21 : decode cX11_mirrorOfJob 21 = .ok (.ireturn, 1) := by decide +kernel
theorem dX11_minutesToGo_0 : decode cX11_minutesToGo 0 = .ok (.aload_n 0, 1) := by decide +kernel
theorem dX11_minutesToGo_1 : decode cX11_minutesToGo 1 = .ok (.aload_n 0, 1) := by decide +kernel
theorem dX11_minutesToGo_2 : decode cX11_minutesToGo 2 = .ok (.getfield 48, 3) := by decide +kernel
theorem dX11_minutesToGo_5 : decode cX11_minutesToGo 5 = .ok (.getfield 367, 3) := by decide +kernel
theorem dX11_minutesToGo_8 : decode cX11_minutesToGo 8 = .ok (.invokevirtual 280, 3) := by decide +kernel
theorem dX11_minutesToGo_11 : decode cX11_minutesToGo 11 = .ok (.ireturn, 1) := by decide +kernel
theorem dX11_orderJob_0 : decode cX11_orderJob 0 = .ok (.aload_n 0, 1) := by decide +kernel
theorem dX11_orderJob_1 : decode cX11_orderJob 1 = .ok (.iload_n 1, 1) := by decide +kernel
theorem dX11_orderJob_2 : decode cX11_orderJob 2 = .ok (.invokevirtual 349, 3) := by decide +kernel
theorem dX11_orderJob_5 : decode cX11_orderJob 5 = .ok (.ifCond .ne 5, 3) := by decide +kernel
theorem dX11_orderJob_8 : decode cX11_orderJob 8 = .ok (.iconst 0, 1) := by decide +kernel
theorem dX11_orderJob_9 : decode cX11_orderJob 9 = .ok (.ireturn, 1) := by decide +kernel
theorem dX11_orderJob_10 : decode cX11_orderJob 10 = .ok (.iload_n 2, 1) := by decide +kernel
theorem dX11_orderJob_11 : decode cX11_orderJob 11 = .ok (.iconst 0, 1) := by decide +kernel
theorem dX11_orderJob_12 : decode cX11_orderJob 12 = .ok (.iconst 2, 1) := by decide +kernel
theorem dX11_orderJob_13 : decode cX11_orderJob 13 = .ok (.invokestatic 67, 3) := by decide +kernel
theorem dX11_orderJob_16 : decode cX11_orderJob 16 = .ok (.ifCond .ne 9, 3) := by decide +kernel
theorem dX11_orderJob_19 : decode cX11_orderJob 19 = .ok (.aload_n 0, 1) := by decide +kernel
theorem dX11_orderJob_20 : decode cX11_orderJob 20 = .ok (.iconst 2, 1) := by decide +kernel
theorem dX11_orderJob_21 : decode cX11_orderJob 21 = .ok (.invokevirtual 262, 3) := by decide +kernel
theorem dX11_orderJob_24 : decode cX11_orderJob 24 = .ok (.ireturn, 1) := by decide +kernel
theorem dX11_orderJob_25 : decode cX11_orderJob 25 = .ok (.aload_n 0, 1) := by decide +kernel
theorem dX11_orderJob_26 : decode cX11_orderJob 26 = .ok (.getfield 48, 3) := by decide +kernel
theorem dX11_orderJob_29 : decode cX11_orderJob 29 = .ok (.iload_n 2, 1) := by decide +kernel
theorem dX11_orderJob_30 : decode cX11_orderJob 30 = .ok (.iload_n 1, 1) := by decide +kernel
theorem dX11_orderJob_31 : decode cX11_orderJob 31 = .ok (.invokevirtual 340, 3) := by decide +kernel
theorem dX11_orderJob_34 : decode cX11_orderJob 34 = .ok (.ifCond .eq 13, 3) := by decide +kernel
theorem dX11_orderJob_37 : decode cX11_orderJob 37 = .ok (.aload_n 0, 1) := by decide +kernel
theorem dX11_orderJob_38 : decode cX11_orderJob 38 = .ok (.getfield 48, 3) := by decide +kernel
theorem dX11_orderJob_41 : decode cX11_orderJob 41 = .ok (.getfield 311, 3) := by decide +kernel
theorem dX11_orderJob_44 : decode cX11_orderJob 44 = .ok (.goto 8, 3) := by decide +kernel
theorem dX11_orderJob_47 : decode cX11_orderJob 47 = .ok (.aload_n 0, 1) := by decide +kernel
theorem dX11_orderJob_48 : decode cX11_orderJob 48 = .ok (.iconst 3, 1) := by decide +kernel
theorem dX11_orderJob_49 : decode cX11_orderJob 49 = .ok (.invokevirtual 262, 3) := by decide +kernel
theorem dX11_orderJob_52 : decode cX11_orderJob 52 = .ok (.ireturn, 1) := by decide +kernel
theorem dX11_cancelJob_0 : decode cX11_cancelJob 0 = .ok (.aload_n 0, 1) := by decide +kernel
theorem dX11_cancelJob_1 : decode cX11_cancelJob 1 = .ok (.iload_n 1, 1) := by decide +kernel
theorem dX11_cancelJob_2 : decode cX11_cancelJob 2 = .ok (.invokevirtual 358, 3) := by decide +kernel
theorem dX11_cancelJob_5 : decode cX11_cancelJob 5 = .ok (.ifCond .eq 14, 3) := by decide +kernel
theorem dX11_cancelJob_8 : decode cX11_cancelJob 8 = .ok (.aload_n 0, 1) := by decide +kernel
theorem dX11_cancelJob_9 : decode cX11_cancelJob 9 = .ok (.getfield 48, 3) := by decide +kernel
theorem dX11_cancelJob_12 : decode cX11_cancelJob 12 = .ok (.iload_n 1, 1) := by decide +kernel
theorem dX11_cancelJob_13 : decode cX11_cancelJob 13 = .ok (.invokevirtual 370, 3) := by decide +kernel
theorem dX11_cancelJob_16 : decode cX11_cancelJob 16 = .ok (.goto 4, 3) := by decide +kernel
theorem dX11_cancelJob_19 : decode cX11_cancelJob 19 = .ok (.iconst 0, 1) := by decide +kernel
theorem dX11_cancelJob_20 : decode cX11_cancelJob 20 = .ok (.ireturn, 1) := by decide +kernel
theorem dX11_turnMirror_0 : decode cX11_turnMirror 0 = .ok (.aload_n 0, 1) := by decide +kernel
theorem dX11_turnMirror_1 : decode cX11_turnMirror 1 = .ok (.iload_n 1, 1) := by decide +kernel
theorem dX11_turnMirror_2 : decode cX11_turnMirror 2 = .ok (.invokevirtual 349, 3) := by decide +kernel
theorem dX11_turnMirror_5 : decode cX11_turnMirror 5 = .ok (.ifCond .ne 5, 3) := by decide +kernel
theorem dX11_turnMirror_8 : decode cX11_turnMirror 8 = .ok (.iconst 0, 1) := by decide +kernel
theorem dX11_turnMirror_9 : decode cX11_turnMirror 9 = .ok (.ireturn, 1) := by decide +kernel
theorem dX11_turnMirror_10 : decode cX11_turnMirror 10 = .ok (.iload_n 2, 1) := by decide +kernel
theorem dX11_turnMirror_11 : decode cX11_turnMirror 11 = .ok (.bipush (-90), 2) := by decide +kernel
theorem dX11_turnMirror_13 : decode cX11_turnMirror 13 = .ok (.bipush 90, 2) := by decide +kernel
theorem dX11_turnMirror_15 : decode cX11_turnMirror 15 = .ok (.invokestatic 67, 3) := by decide +kernel
theorem dX11_turnMirror_18 : decode cX11_turnMirror 18 = .ok (.ifCond .ne 9, 3) := by decide +kernel
theorem dX11_turnMirror_21 : decode cX11_turnMirror 21 = .ok (.aload_n 0, 1) := by decide +kernel
theorem dX11_turnMirror_22 : decode cX11_turnMirror 22 = .ok (.iconst 2, 1) := by decide +kernel
theorem dX11_turnMirror_23 : decode cX11_turnMirror 23 = .ok (.invokevirtual 262, 3) := by decide +kernel
theorem dX11_turnMirror_26 : decode cX11_turnMirror 26 = .ok (.ireturn, 1) := by decide +kernel
theorem dX11_turnMirror_27 : decode cX11_turnMirror 27 = .ok (.aload_n 0, 1) := by decide +kernel
theorem dX11_turnMirror_28 : decode cX11_turnMirror 28 = .ok (.getfield 48, 3) := by decide +kernel
theorem dX11_turnMirror_31 : decode cX11_turnMirror 31 = .ok (.getfield 293, 3) := by decide +kernel
theorem dX11_turnMirror_34 : decode cX11_turnMirror 34 = .ok (.iload_n 1, 1) := by decide +kernel
theorem dX11_turnMirror_35 : decode cX11_turnMirror 35 = .ok (.iaload, 1) := by decide +kernel
theorem dX11_turnMirror_36 : decode cX11_turnMirror 36 = .ok (.istore_n 3, 1) := by decide +kernel
theorem dX11_turnMirror_37 : decode cX11_turnMirror 37 = .ok (.aload_n 0, 1) := by decide +kernel
theorem dX11_turnMirror_38 : decode cX11_turnMirror 38 = .ok (.getfield 48, 3) := by decide +kernel
theorem dX11_turnMirror_41 : decode cX11_turnMirror 41 = .ok (.getfield 293, 3) := by decide +kernel
theorem dX11_turnMirror_44 : decode cX11_turnMirror 44 = .ok (.iload_n 1, 1) := by decide +kernel
theorem dX11_turnMirror_45 : decode cX11_turnMirror 45 = .ok (.iload_n 2, 1) := by decide +kernel
theorem dX11_turnMirror_46 : decode cX11_turnMirror 46 = .ok (.iastore, 1) := by decide +kernel
theorem dX11_turnMirror_47 : decode cX11_turnMirror 47 = .ok (.iload_n 3, 1) := by decide +kernel
theorem dX11_turnMirror_48 : decode cX11_turnMirror 48 = .ok (.ireturn, 1) := by decide +kernel
theorem dX11_dustMirror_0 : decode cX11_dustMirror 0 = .ok (.aload_n 0, 1) := by decide +kernel
theorem dX11_dustMirror_1 : decode cX11_dustMirror 1 = .ok (.iload_n 1, 1) := by decide +kernel
theorem dX11_dustMirror_2 : decode cX11_dustMirror 2 = .ok (.invokevirtual 349, 3) := by decide +kernel
theorem dX11_dustMirror_5 : decode cX11_dustMirror 5 = .ok (.ifCond .ne 5, 3) := by decide +kernel
theorem dX11_dustMirror_8 : decode cX11_dustMirror 8 = .ok (.iconst 0, 1) := by decide +kernel
theorem dX11_dustMirror_9 : decode cX11_dustMirror 9 = .ok (.ireturn, 1) := by decide +kernel
theorem dX11_dustMirror_10 : decode cX11_dustMirror 10 = .ok (.iload_n 2, 1) := by decide +kernel
theorem dX11_dustMirror_11 : decode cX11_dustMirror 11 = .ok (.iconst 0, 1) := by decide +kernel
theorem dX11_dustMirror_12 : decode cX11_dustMirror 12 = .ok (.bipush 100, 2) := by decide +kernel
theorem dX11_dustMirror_14 : decode cX11_dustMirror 14 = .ok (.invokestatic 67, 3) := by decide +kernel
theorem dX11_dustMirror_17 : decode cX11_dustMirror 17 = .ok (.ifCond .ne 9, 3) := by decide +kernel
theorem dX11_dustMirror_20 : decode cX11_dustMirror 20 = .ok (.aload_n 0, 1) := by decide +kernel
theorem dX11_dustMirror_21 : decode cX11_dustMirror 21 = .ok (.iconst 2, 1) := by decide +kernel
theorem dX11_dustMirror_22 : decode cX11_dustMirror 22 = .ok (.invokevirtual 262, 3) := by decide +kernel
theorem dX11_dustMirror_25 : decode cX11_dustMirror 25 = .ok (.ireturn, 1) := by decide +kernel
theorem dX11_dustMirror_26 : decode cX11_dustMirror 26 = .ok (.aload_n 0, 1) := by decide +kernel
theorem dX11_dustMirror_27 : decode cX11_dustMirror 27 = .ok (.getfield 48, 3) := by decide +kernel
theorem dX11_dustMirror_30 : decode cX11_dustMirror 30 = .ok (.getfield 292, 3) := by decide +kernel
theorem dX11_dustMirror_33 : decode cX11_dustMirror 33 = .ok (.iload_n 1, 1) := by decide +kernel
theorem dX11_dustMirror_34 : decode cX11_dustMirror 34 = .ok (.iconst 0, 1) := by decide +kernel
theorem dX11_dustMirror_35 : decode cX11_dustMirror 35 = .ok (.aload_n 0, 1) := by decide +kernel
theorem dX11_dustMirror_36 : decode cX11_dustMirror 36 = .ok (.getfield 48, 3) := by decide +kernel
theorem dX11_dustMirror_39 : decode cX11_dustMirror 39 = .ok (.getfield 292, 3) := by decide +kernel
theorem dX11_dustMirror_42 : decode cX11_dustMirror 42 = .ok (.iload_n 1, 1) := by decide +kernel
theorem dX11_dustMirror_43 : decode cX11_dustMirror 43 = .ok (.iaload, 1) := by decide +kernel
theorem dX11_dustMirror_44 : decode cX11_dustMirror 44 = .ok (.iload_n 2, 1) := by decide +kernel
theorem dX11_dustMirror_45 : decode cX11_dustMirror 45 = .ok (.isub, 1) := by decide +kernel
theorem dX11_dustMirror_46 : decode cX11_dustMirror 46 = .ok (.invokestatic 166, 3) := by decide +kernel
theorem dX11_dustMirror_49 : decode cX11_dustMirror 49 = .ok (.iastore, 1) := by decide +kernel
theorem dX11_dustMirror_50 : decode cX11_dustMirror 50 = .ok (.aload_n 0, 1) := by decide +kernel
theorem dX11_dustMirror_51 : decode cX11_dustMirror 51 = .ok (.getfield 48, 3) := by decide +kernel
theorem dX11_dustMirror_54 : decode cX11_dustMirror 54 = .ok (.getfield 292, 3) := by decide +kernel
theorem dX11_dustMirror_57 : decode cX11_dustMirror 57 = .ok (.iload_n 1, 1) := by decide +kernel
theorem dX11_dustMirror_58 : decode cX11_dustMirror 58 = .ok (.iaload, 1) := by decide +kernel
theorem dX11_dustMirror_59 : decode cX11_dustMirror 59 = .ok (.ireturn, 1) := by decide +kernel
theorem dX11_moveMirror_0 : decode cX11_moveMirror 0 = .ok (.aload_n 0, 1) := by decide +kernel
theorem dX11_moveMirror_1 : decode cX11_moveMirror 1 = .ok (.iload_n 1, 1) := by decide +kernel
theorem dX11_moveMirror_2 : decode cX11_moveMirror 2 = .ok (.invokevirtual 349, 3) := by decide +kernel
theorem dX11_moveMirror_5 : decode cX11_moveMirror 5 = .ok (.ifCond .eq 11, 3) := by decide +kernel
theorem dX11_moveMirror_8 : decode cX11_moveMirror 8 = .ok (.aload_n 0, 1) := by decide +kernel
theorem dX11_moveMirror_9 : decode cX11_moveMirror 9 = .ok (.iload_n 2, 1) := by decide +kernel
theorem dX11_moveMirror_10 : decode cX11_moveMirror 10 = .ok (.invokevirtual 349, 3) := by decide +kernel
theorem dX11_moveMirror_13 : decode cX11_moveMirror 13 = .ok (.ifCond .ne 5, 3) := by decide +kernel
theorem dX11_moveMirror_16 : decode cX11_moveMirror 16 = .ok (.iconst 0, 1) := by decide +kernel
theorem dX11_moveMirror_17 : decode cX11_moveMirror 17 = .ok (.ireturn, 1) := by decide +kernel
theorem dX11_moveMirror_18 : decode cX11_moveMirror 18 = .ok (.aload_n 0, 1) := by decide +kernel
theorem dX11_moveMirror_19 : decode cX11_moveMirror 19 = .ok (.iload_n 1, 1) := by decide +kernel
theorem dX11_moveMirror_20 : decode cX11_moveMirror 20 = .ok (.invokevirtual 352, 3) := by decide +kernel
theorem dX11_moveMirror_23 : decode cX11_moveMirror 23 = .ok (.istore_n 3, 1) := by decide +kernel
theorem dX11_moveMirror_24 : decode cX11_moveMirror 24 = .ok (.iload_n 3, 1) := by decide +kernel
theorem dX11_moveMirror_25 : decode cX11_moveMirror 25 = .ok (.iload_n 2, 1) := by decide +kernel
theorem dX11_moveMirror_26 : decode cX11_moveMirror 26 = .ok (.if_icmp .ge 7, 3) := by decide +kernel
theorem dX11_moveMirror_29 : decode cX11_moveMirror 29 = .ok (.iconst 1, 1) := by decide +kernel
theorem dX11_moveMirror_30 : decode cX11_moveMirror 30 = .ok (.goto 4, 3) := by decide +kernel
theorem dX11_moveMirror_33 : decode cX11_moveMirror 33 = .ok (.iconst (-1), 1) := by decide +kernel
theorem dX11_moveMirror_34 : decode cX11_moveMirror 34 = .ok (.istore 4, 2) := by decide +kernel
theorem dX11_moveMirror_36 : decode cX11_moveMirror 36 = .ok (.iload_n 3, 1) := by decide +kernel
theorem dX11_moveMirror_37 : decode cX11_moveMirror 37 = .ok (.istore 5, 2) := by decide +kernel
theorem dX11_moveMirror_39 : decode cX11_moveMirror 39 = .ok (.iload 5, 2) := by decide +kernel
theorem dX11_moveMirror_41 : decode cX11_moveMirror 41 = .ok (.iload_n 2, 1) := by decide +kernel
theorem dX11_moveMirror_42 : decode cX11_moveMirror 42 = .ok (.if_icmp .eq 36, 3) := by decide +kernel
theorem dX11_moveMirror_45 : decode cX11_moveMirror 45 = .ok (.aload_n 0, 1) := by decide +kernel
theorem dX11_moveMirror_46 : decode cX11_moveMirror 46 = .ok (.getfield 48, 3) := by decide +kernel
theorem dX11_moveMirror_49 : decode cX11_moveMirror 49 = .ok (.getfield 283, 3) := by decide +kernel
theorem dX11_moveMirror_52 : decode cX11_moveMirror 52 = .ok (.iload 5, 2) := by decide +kernel
theorem dX11_moveMirror_54 : decode cX11_moveMirror 54 = .ok (.aload_n 0, 1) := by decide +kernel
theorem dX11_moveMirror_55 : decode cX11_moveMirror 55 = .ok (.getfield 48, 3) := by decide +kernel
theorem dX11_moveMirror_58 : decode cX11_moveMirror 58 = .ok (.getfield 283, 3) := by decide +kernel
theorem dX11_moveMirror_61 : decode cX11_moveMirror 61 = .ok (.iload 5, 2) := by decide +kernel
theorem dX11_moveMirror_63 : decode cX11_moveMirror 63 = .ok (.iload 4, 2) := by decide +kernel
theorem dX11_moveMirror_65 : decode cX11_moveMirror 65 = .ok (.iadd, 1) := by decide +kernel
theorem dX11_moveMirror_66 : decode cX11_moveMirror 66 = .ok (.iaload, 1) := by decide +kernel
theorem dX11_moveMirror_67 : decode cX11_moveMirror 67 = .ok (.iastore, 1) := by decide +kernel
theorem dX11_moveMirror_68 : decode cX11_moveMirror 68 = .ok (.iload 5, 2) := by decide +kernel
theorem dX11_moveMirror_70 : decode cX11_moveMirror 70 = .ok (.iload 4, 2) := by decide +kernel
theorem dX11_moveMirror_72 : decode cX11_moveMirror 72 = .ok (.iadd, 1) := by decide +kernel
theorem dX11_moveMirror_73 : decode cX11_moveMirror 73 = .ok (.istore 5, 2) := by decide +kernel
theorem dX11_moveMirror_75 : decode cX11_moveMirror 75 = .ok (.goto (-36), 3) := by decide +kernel
theorem dX11_moveMirror_78 : decode cX11_moveMirror 78 = .ok (.aload_n 0, 1) := by decide +kernel
theorem dX11_moveMirror_79 : decode cX11_moveMirror 79 = .ok (.getfield 48, 3) := by decide +kernel
theorem dX11_moveMirror_82 : decode cX11_moveMirror 82 = .ok (.getfield 283, 3) := by decide +kernel
theorem dX11_moveMirror_85 : decode cX11_moveMirror 85 = .ok (.iload_n 2, 1) := by decide +kernel
theorem dX11_moveMirror_86 : decode cX11_moveMirror 86 = .ok (.iload_n 1, 1) := by decide +kernel
theorem dX11_moveMirror_87 : decode cX11_moveMirror 87 = .ok (.iastore, 1) := by decide +kernel
theorem dX11_moveMirror_88 : decode cX11_moveMirror 88 = .ok (.iload_n 3, 1) := by decide +kernel
theorem dX11_moveMirror_89 : decode cX11_moveMirror 89 = .ok (.ireturn, 1) := by decide +kernel
theorem dX11_passMinutes_0 : decode cX11_passMinutes 0 = .ok (.aload_n 0, 1) := by decide +kernel
theorem dX11_passMinutes_1 : decode cX11_passMinutes 1 = .ok (.iconst 0, 1) := by decide +kernel
theorem dX11_passMinutes_2 : decode cX11_passMinutes 2 = .ok (.putfield 64, 3) := by decide +kernel
theorem dX11_passMinutes_5 : decode cX11_passMinutes 5 = .ok (.iload_n 1, 1) := by decide +kernel
theorem dX11_passMinutes_6 : decode cX11_passMinutes 6 = .ok (.iconst 1, 1) := by decide +kernel
theorem dX11_passMinutes_7 : decode cX11_passMinutes 7 = .ok (.bipush 100, 2) := by decide +kernel
theorem dX11_passMinutes_9 : decode cX11_passMinutes 9 = .ok (.invokestatic 67, 3) := by decide +kernel
theorem dX11_passMinutes_12 : decode cX11_passMinutes 12 = .ok (.ifCond .ne 9, 3) := by decide +kernel
theorem dX11_passMinutes_15 : decode cX11_passMinutes 15 = .ok (.aload_n 0, 1) := by decide +kernel
theorem dX11_passMinutes_16 : decode cX11_passMinutes 16 = .ok (.iconst 1, 1) := by decide +kernel
theorem dX11_passMinutes_17 : decode cX11_passMinutes 17 = .ok (.invokevirtual 262, 3) := by decide +kernel
theorem dX11_passMinutes_20 : decode cX11_passMinutes 20 = .ok (.ireturn, 1) := by decide +kernel
theorem dX11_passMinutes_21 : decode cX11_passMinutes 21 = .ok (.aload_n 0, 1) := by decide +kernel
theorem dX11_passMinutes_22 : decode cX11_passMinutes 22 = .ok (.getfield 48, 3) := by decide +kernel
theorem dX11_passMinutes_25 : decode cX11_passMinutes 25 = .ok (.getfield 355, 3) := by decide +kernel
theorem dX11_passMinutes_28 : decode cX11_passMinutes 28 = .ok (.istore_n 2, 1) := by decide +kernel
theorem dX11_passMinutes_29 : decode cX11_passMinutes 29 = .ok (.iconst 0, 1) := by decide +kernel
theorem dX11_passMinutes_30 : decode cX11_passMinutes 30 = .ok (.istore_n 3, 1) := by decide +kernel
theorem dX11_passMinutes_31 : decode cX11_passMinutes 31 = .ok (.iload_n 3, 1) := by decide +kernel
theorem dX11_passMinutes_32 : decode cX11_passMinutes 32 = .ok (.iload_n 1, 1) := by decide +kernel
theorem dX11_passMinutes_33 : decode cX11_passMinutes 33 = .ok (.if_icmp .ge 18, 3) := by decide +kernel
theorem dX11_passMinutes_36 : decode cX11_passMinutes 36 = .ok (.aload_n 0, 1) := by decide +kernel
theorem dX11_passMinutes_37 : decode cX11_passMinutes 37 = .ok (.aload_n 0, 1) := by decide +kernel
theorem dX11_passMinutes_38 : decode cX11_passMinutes 38 = .ok (.getfield 48, 3) := by decide +kernel
theorem dX11_passMinutes_41 : decode cX11_passMinutes 41 = .ok (.invokevirtual 372, 3) := by decide +kernel
theorem dX11_passMinutes_44 : decode cX11_passMinutes 44 = .ok (.pop, 1) := by decide +kernel
theorem dX11_passMinutes_45 : decode cX11_passMinutes 45 = .ok (.iinc 3 1, 3) := by decide +kernel
theorem dX11_passMinutes_48 : decode cX11_passMinutes 48 = .ok (.goto (-17), 3) := by decide +kernel
theorem dX11_passMinutes_51 : decode cX11_passMinutes 51 = .ok (.aload_n 0, 1) := by decide +kernel
theorem dX11_passMinutes_52 : decode cX11_passMinutes 52 = .ok (.getfield 48, 3) := by decide +kernel
theorem dX11_passMinutes_55 : decode cX11_passMinutes 55 = .ok (.getfield 355, 3) := by decide +kernel
theorem dX11_passMinutes_58 : decode cX11_passMinutes 58 = .ok (.iload_n 2, 1) := by decide +kernel
theorem dX11_passMinutes_59 : decode cX11_passMinutes 59 = .ok (.isub, 1) := by decide +kernel
theorem dX11_passMinutes_60 : decode cX11_passMinutes 60 = .ok (.ireturn, 1) := by decide +kernel
theorem dX11_lightAfter_0 : decode cX11_lightAfter 0 = .ok (.aload_n 0, 1) := by decide +kernel
theorem dX11_lightAfter_1 : decode cX11_lightAfter 1 = .ok (.iconst 0, 1) := by decide +kernel
theorem dX11_lightAfter_2 : decode cX11_lightAfter 2 = .ok (.putfield 64, 3) := by decide +kernel
theorem dX11_lightAfter_5 : decode cX11_lightAfter 5 = .ok (.iload_n 1, 1) := by decide +kernel
theorem dX11_lightAfter_6 : decode cX11_lightAfter 6 = .ok (.iconst 1, 1) := by decide +kernel
theorem dX11_lightAfter_7 : decode cX11_lightAfter 7 = .ok (.bipush 100, 2) := by decide +kernel
theorem dX11_lightAfter_9 : decode cX11_lightAfter 9 = .ok (.invokestatic 67, 3) := by decide +kernel
theorem dX11_lightAfter_12 : decode cX11_lightAfter 12 = .ok (.ifCond .ne 9, 3) := by decide +kernel
theorem dX11_lightAfter_15 : decode cX11_lightAfter 15 = .ok (.aload_n 0, 1) := by decide +kernel
theorem dX11_lightAfter_16 : decode cX11_lightAfter 16 = .ok (.iconst 1, 1) := by decide +kernel
theorem dX11_lightAfter_17 : decode cX11_lightAfter 17 = .ok (.invokevirtual 262, 3) := by decide +kernel
theorem dX11_lightAfter_20 : decode cX11_lightAfter 20 = .ok (.ireturn, 1) := by decide +kernel
theorem dX11_lightAfter_21 : decode cX11_lightAfter 21 = .ok (.aload_n 0, 1) := by decide +kernel
theorem dX11_lightAfter_22 : decode cX11_lightAfter 22 = .ok (.getfield 52, 3) := by decide +kernel
theorem dX11_lightAfter_25 : decode cX11_lightAfter 25 = .ok (.aload_n 0, 1) := by decide +kernel
theorem dX11_lightAfter_26 : decode cX11_lightAfter 26 = .ok (.getfield 48, 3) := by decide +kernel
theorem dX11_lightAfter_29 : decode cX11_lightAfter 29 = .ok (.invokevirtual 375, 3) := by decide +kernel
theorem dX11_lightAfter_32 : decode cX11_lightAfter 32 = .ok (.iconst 0, 1) := by decide +kernel
theorem dX11_lightAfter_33 : decode cX11_lightAfter 33 = .ok (.istore_n 2, 1) := by decide +kernel
theorem dX11_lightAfter_34 : decode cX11_lightAfter 34 = .ok (.iload_n 2, 1) := by decide +kernel
theorem dX11_lightAfter_35 : decode cX11_lightAfter 35 = .ok (.iload_n 1, 1) := by decide +kernel
theorem dX11_lightAfter_36 : decode cX11_lightAfter 36 = .ok (.if_icmp .ge 18, 3) := by decide +kernel
theorem dX11_lightAfter_39 : decode cX11_lightAfter 39 = .ok (.aload_n 0, 1) := by decide +kernel
theorem dX11_lightAfter_40 : decode cX11_lightAfter 40 = .ok (.aload_n 0, 1) := by decide +kernel
theorem dX11_lightAfter_41 : decode cX11_lightAfter 41 = .ok (.getfield 52, 3) := by decide +kernel
theorem dX11_lightAfter_44 : decode cX11_lightAfter 44 = .ok (.invokevirtual 372, 3) := by decide +kernel
theorem dX11_lightAfter_47 : decode cX11_lightAfter 47 = .ok (.pop, 1) := by decide +kernel
theorem dX11_lightAfter_48 : decode cX11_lightAfter 48 = .ok (.iinc 2 1, 3) := by decide +kernel
theorem dX11_lightAfter_51 : decode cX11_lightAfter 51 = .ok (.goto (-17), 3) := by decide +kernel
theorem dX11_lightAfter_54 : decode cX11_lightAfter 54 = .ok (.aload_n 0, 1) := by decide +kernel
theorem dX11_lightAfter_55 : decode cX11_lightAfter 55 = .ok (.aload_n 0, 1) := by decide +kernel
theorem dX11_lightAfter_56 : decode cX11_lightAfter 56 = .ok (.getfield 52, 3) := by decide +kernel
theorem dX11_lightAfter_59 : decode cX11_lightAfter 59 = .ok (.invokevirtual 304, 3) := by decide +kernel
theorem dX11_lightAfter_62 : decode cX11_lightAfter 62 = .ok (.ireturn, 1) := by decide +kernel
theorem dX11_minutesUntilSeen_0 : decode cX11_minutesUntilSeen 0 = .ok (.aload_n 0, 1) := by decide +kernel
theorem dX11_minutesUntilSeen_1 : decode cX11_minutesUntilSeen 1 = .ok (.iconst 0, 1) := by decide +kernel
theorem dX11_minutesUntilSeen_2 : decode cX11_minutesUntilSeen 2 = .ok (.putfield 64, 3) := by decide +kernel
theorem dX11_minutesUntilSeen_5 : decode cX11_minutesUntilSeen 5 = .ok (.aload_n 0, 1) := by decide +kernel
theorem dX11_minutesUntilSeen_6 : decode cX11_minutesUntilSeen 6 = .ok (.getfield 52, 3) := by decide +kernel
theorem dX11_minutesUntilSeen_9 : decode cX11_minutesUntilSeen 9 = .ok (.aload_n 0, 1) := by decide +kernel
theorem dX11_minutesUntilSeen_10 : decode cX11_minutesUntilSeen 10 = .ok (.getfield 48, 3) := by decide +kernel
theorem dX11_minutesUntilSeen_13 : decode cX11_minutesUntilSeen 13 = .ok (.invokevirtual 375, 3) := by decide +kernel
theorem dX11_minutesUntilSeen_16 : decode cX11_minutesUntilSeen 16 = .ok (.iconst 0, 1) := by decide +kernel
theorem dX11_minutesUntilSeen_17 : decode cX11_minutesUntilSeen 17 = .ok (.istore_n 1, 1) := by decide +kernel
theorem dX11_minutesUntilSeen_18 : decode cX11_minutesUntilSeen 18 = .ok (.iload_n 1, 1) := by decide +kernel
theorem dX11_minutesUntilSeen_19 : decode cX11_minutesUntilSeen 19 = .ok (.bipush 100, 2) := by decide +kernel
theorem dX11_minutesUntilSeen_21 : decode cX11_minutesUntilSeen 21 = .ok (.if_icmp .gt 31, 3) := by decide +kernel
theorem dX11_minutesUntilSeen_24 : decode cX11_minutesUntilSeen 24 = .ok (.aload_n 0, 1) := by decide +kernel
theorem dX11_minutesUntilSeen_25 : decode cX11_minutesUntilSeen 25 = .ok (.aload_n 0, 1) := by decide +kernel
theorem dX11_minutesUntilSeen_26 : decode cX11_minutesUntilSeen 26 = .ok (.getfield 52, 3) := by decide +kernel
theorem dX11_minutesUntilSeen_29 : decode cX11_minutesUntilSeen 29 = .ok (.invokevirtual 317, 3) := by decide +kernel
theorem dX11_minutesUntilSeen_32 : decode cX11_minutesUntilSeen 32 = .ok (.ifCond .eq 5, 3) := by decide +kernel
theorem dX11_minutesUntilSeen_35 : decode cX11_minutesUntilSeen 35 = .ok (.iload_n 1, 1) := by decide +kernel
theorem dX11_minutesUntilSeen_36 : decode cX11_minutesUntilSeen 36 = .ok (.ireturn, 1) := by decide +kernel
theorem dX11_minutesUntilSeen_37 : decode cX11_minutesUntilSeen 37 = .ok (.aload_n 0, 1) := by decide +kernel
theorem dX11_minutesUntilSeen_38 : decode cX11_minutesUntilSeen 38 = .ok (.aload_n 0, 1) := by decide +kernel
theorem dX11_minutesUntilSeen_39 : decode cX11_minutesUntilSeen 39 = .ok (.getfield 52, 3) := by decide +kernel
theorem dX11_minutesUntilSeen_42 : decode cX11_minutesUntilSeen 42 = .ok (.invokevirtual 372, 3) := by decide +kernel
theorem dX11_minutesUntilSeen_45 : decode cX11_minutesUntilSeen 45 = .ok (.pop, 1) := by decide +kernel
theorem dX11_minutesUntilSeen_46 : decode cX11_minutesUntilSeen 46 = .ok (.iinc 1 1, 3) := by decide +kernel
theorem dX11_minutesUntilSeen_49 : decode cX11_minutesUntilSeen 49 = .ok (.goto (-31), 3) := by decide +kernel
theorem dX11_minutesUntilSeen_52 : decode cX11_minutesUntilSeen 52 = .ok (.iconst (-1), 1) := by decide +kernel
theorem dX11_minutesUntilSeen_53 : decode cX11_minutesUntilSeen 53 = .ok (.ireturn, 1) := by decide +kernel
theorem dX11_minutesUntilDone_0 : decode cX11_minutesUntilDone 0 = .ok (.aload_n 0, 1) := by decide +kernel
theorem dX11_minutesUntilDone_1 : decode cX11_minutesUntilDone 1 = .ok (.iload_n 1, 1) := by decide +kernel
theorem dX11_minutesUntilDone_2 : decode cX11_minutesUntilDone 2 = .ok (.invokevirtual 358, 3) := by decide +kernel
theorem dX11_minutesUntilDone_5 : decode cX11_minutesUntilDone 5 = .ok (.ifCond .ne 5, 3) := by decide +kernel
theorem dX11_minutesUntilDone_8 : decode cX11_minutesUntilDone 8 = .ok (.iconst 0, 1) := by decide +kernel
theorem dX11_minutesUntilDone_9 : decode cX11_minutesUntilDone 9 = .ok (.ireturn, 1) := by decide +kernel
theorem dX11_minutesUntilDone_10 : decode cX11_minutesUntilDone 10 = .ok (.aload_n 0, 1) := by decide +kernel
theorem dX11_minutesUntilDone_11 : decode cX11_minutesUntilDone 11 = .ok (.getfield 52, 3) := by decide +kernel
theorem dX11_minutesUntilDone_14 : decode cX11_minutesUntilDone 14 = .ok (.aload_n 0, 1) := by decide +kernel
theorem dX11_minutesUntilDone_15 : decode cX11_minutesUntilDone 15 = .ok (.getfield 48, 3) := by decide +kernel
theorem dX11_minutesUntilDone_18 : decode cX11_minutesUntilDone 18 = .ok (.invokevirtual 375, 3) := by decide +kernel
theorem dX11_minutesUntilDone_21 : decode cX11_minutesUntilDone 21 = .ok (.iload_n 1, 1) := by decide +kernel
theorem dX11_minutesUntilDone_22 : decode cX11_minutesUntilDone 22 = .ok (.iconst 1, 1) := by decide +kernel
theorem dX11_minutesUntilDone_23 : decode cX11_minutesUntilDone 23 = .ok (.iadd, 1) := by decide +kernel
theorem dX11_minutesUntilDone_24 : decode cX11_minutesUntilDone 24 = .ok (.istore_n 2, 1) := by decide +kernel
theorem dX11_minutesUntilDone_25 : decode cX11_minutesUntilDone 25 = .ok (.iconst 1, 1) := by decide +kernel
theorem dX11_minutesUntilDone_26 : decode cX11_minutesUntilDone 26 = .ok (.istore_n 3, 1) := by decide +kernel
theorem dX11_minutesUntilDone_27 : decode cX11_minutesUntilDone 27 = .ok (.iload_n 3, 1) := by decide +kernel
theorem dX11_minutesUntilDone_28 : decode cX11_minutesUntilDone 28 = .ok (.sipush 300, 3) := by decide +kernel
theorem dX11_minutesUntilDone_31 : decode cX11_minutesUntilDone 31 = .ok (.if_icmp .gt 29, 3) := by decide +kernel
theorem dX11_minutesUntilDone_34 : decode cX11_minutesUntilDone 34 = .ok (.aload_n 0, 1) := by decide +kernel
theorem dX11_minutesUntilDone_35 : decode cX11_minutesUntilDone 35 = .ok (.aload_n 0, 1) := by decide +kernel
theorem dX11_minutesUntilDone_36 : decode cX11_minutesUntilDone 36 = .ok (.getfield 52, 3) := by decide +kernel
theorem dX11_minutesUntilDone_39 : decode cX11_minutesUntilDone 39 = .ok (.invokevirtual 372, 3) := by decide +kernel
theorem dX11_minutesUntilDone_42 : decode cX11_minutesUntilDone 42 = .ok (.ifCond .eq 6, 3) := by decide +kernel
theorem dX11_minutesUntilDone_45 : decode cX11_minutesUntilDone 45 = .ok (.iinc 2 (-1), 3) := by decide +kernel
theorem dX11_minutesUntilDone_48 : decode cX11_minutesUntilDone 48 = .ok (.iload_n 2, 1) := by decide +kernel
theorem dX11_minutesUntilDone_49 : decode cX11_minutesUntilDone 49 = .ok (.ifCond .ne 5, 3) := by decide +kernel
theorem dX11_minutesUntilDone_52 : decode cX11_minutesUntilDone 52 = .ok (.iload_n 3, 1) := by decide +kernel
theorem dX11_minutesUntilDone_53 : decode cX11_minutesUntilDone 53 = .ok (.ireturn, 1) := by decide +kernel
theorem dX11_minutesUntilDone_54 : decode cX11_minutesUntilDone 54 = .ok (.iinc 3 1, 3) := by decide +kernel
theorem dX11_minutesUntilDone_57 : decode cX11_minutesUntilDone 57 = .ok (.goto (-30), 3) := by decide +kernel
theorem dX11_minutesUntilDone_60 : decode cX11_minutesUntilDone 60 = .ok (.iconst (-1), 1) := by decide +kernel
theorem dX11_minutesUntilDone_61 : decode cX11_minutesUntilDone 61 = .ok (.ireturn, 1) := by decide +kernel
theorem dX11_bestToClean_0 : decode cX11_bestToClean 0 = .ok (.aload_n 0, 1) := by decide +kernel
theorem dX11_bestToClean_1 : decode cX11_bestToClean 1 = .ok (.iconst 0, 1) := by decide +kernel
theorem dX11_bestToClean_2 : decode cX11_bestToClean 2 = .ok (.putfield 64, 3) := by decide +kernel
theorem dX11_bestToClean_5 : decode cX11_bestToClean 5 = .ok (.iconst (-1), 1) := by decide +kernel
theorem dX11_bestToClean_6 : decode cX11_bestToClean 6 = .ok (.istore_n 1, 1) := by decide +kernel
theorem dX11_bestToClean_7 : decode cX11_bestToClean 7 = .ok (.aload_n 0, 1) := by decide +kernel
theorem dX11_bestToClean_8 : decode cX11_bestToClean 8 = .ok (.aload_n 0, 1) := by decide +kernel
theorem dX11_bestToClean_9 : decode cX11_bestToClean 9 = .ok (.getfield 48, 3) := by decide +kernel
theorem dX11_bestToClean_12 : decode cX11_bestToClean 12 = .ok (.invokevirtual 304, 3) := by decide +kernel
theorem dX11_bestToClean_15 : decode cX11_bestToClean 15 = .ok (.istore_n 2, 1) := by decide +kernel
theorem dX11_bestToClean_16 : decode cX11_bestToClean 16 = .ok (.iconst 0, 1) := by decide +kernel
theorem dX11_bestToClean_17 : decode cX11_bestToClean 17 = .ok (.istore_n 3, 1) := by decide +kernel
theorem dX11_bestToClean_18 : decode cX11_bestToClean 18 = .ok (.iload_n 3, 1) := by decide +kernel
theorem dX11_bestToClean_19 : decode cX11_bestToClean 19 = .ok (.aload_n 0, 1) := by decide +kernel
theorem dX11_bestToClean_20 : decode cX11_bestToClean 20 = .ok (.getfield 35, 3) := by decide +kernel
theorem dX11_bestToClean_23 : decode cX11_bestToClean 23 = .ok (.getfield 149, 3) := by decide +kernel
theorem dX11_bestToClean_26 : decode cX11_bestToClean 26 = .ok (.if_icmp .ge 50, 3) := by decide +kernel
theorem dX11_bestToClean_29 : decode cX11_bestToClean 29 = .ok (.aload_n 0, 1) := by decide +kernel
theorem dX11_bestToClean_30 : decode cX11_bestToClean 30 = .ok (.getfield 52, 3) := by decide +kernel
theorem dX11_bestToClean_33 : decode cX11_bestToClean 33 = .ok (.aload_n 0, 1) := by decide +kernel
theorem dX11_bestToClean_34 : decode cX11_bestToClean 34 = .ok (.getfield 48, 3) := by decide +kernel
theorem dX11_bestToClean_37 : decode cX11_bestToClean 37 = .ok (.invokevirtual 375, 3) := by decide +kernel
theorem dX11_bestToClean_40 : decode cX11_bestToClean 40 = .ok (.aload_n 0, 1) := by decide +kernel
theorem dX11_bestToClean_41 : decode cX11_bestToClean 41 = .ok (.getfield 52, 3) := by decide +kernel
theorem dX11_bestToClean_44 : decode cX11_bestToClean 44 = .ok (.iload_n 3, 1) := by decide +kernel
theorem dX11_bestToClean_45 : decode cX11_bestToClean 45 = .ok (.invokevirtual 377, 3) := by decide +kernel
theorem dX11_bestToClean_48 : decode cX11_bestToClean 48 = .ok (.aload_n 0, 1) := by decide +kernel
theorem dX11_bestToClean_49 : decode cX11_bestToClean 49 = .ok (.aload_n 0, 1) := by decide +kernel
theorem dX11_bestToClean_50 : decode cX11_bestToClean 50 = .ok (.getfield 52, 3) := by decide +kernel
theorem dX11_bestToClean_53 : decode cX11_bestToClean 53 = .ok (.invokevirtual 304, 3) := by decide +kernel
theorem dX11_bestToClean_56 : decode cX11_bestToClean 56 = .ok (.iload_n 2, 1) := by decide +kernel
theorem dX11_bestToClean_57 : decode cX11_bestToClean 57 = .ok (.if_icmp .gt 6, 3) := by decide +kernel
theorem dX11_bestToClean_60 : decode cX11_bestToClean 60 = .ok (.goto 10, 3) := by decide +kernel
theorem dX11_bestToClean_63 : decode cX11_bestToClean 63 = .ok (.iload_n 3, 1) := by decide +kernel
theorem dX11_bestToClean_64 : decode cX11_bestToClean 64 = .ok (.istore_n 1, 1) := by decide +kernel
theorem dX11_bestToClean_65 : decode cX11_bestToClean 65 = .ok (.aload_n 0, 1) := by decide +kernel
theorem dX11_bestToClean_66 : decode cX11_bestToClean 66 = .ok (.getfield 294, 3) := by decide +kernel
theorem dX11_bestToClean_69 : decode cX11_bestToClean 69 = .ok (.istore_n 2, 1) := by decide +kernel
theorem dX11_bestToClean_70 : decode cX11_bestToClean 70 = .ok (.iinc 3 1, 3) := by decide +kernel
theorem dX11_bestToClean_73 : decode cX11_bestToClean 73 = .ok (.goto (-55), 3) := by decide +kernel
theorem dX11_bestToClean_76 : decode cX11_bestToClean 76 = .ok (.iload_n 1, 1) := by decide +kernel
theorem dX11_bestToClean_77 : decode cX11_bestToClean 77 = .ok (.ireturn, 1) := by decide +kernel
theorem dX11_bestOffset_0 : decode cX11_bestOffset 0 = .ok (.aload_n 0, 1) := by decide +kernel
theorem dX11_bestOffset_1 : decode cX11_bestOffset 1 = .ok (.iload_n 1, 1) := by decide +kernel
theorem dX11_bestOffset_2 : decode cX11_bestOffset 2 = .ok (.invokevirtual 349, 3) := by decide +kernel
theorem dX11_bestOffset_5 : decode cX11_bestOffset 5 = .ok (.ifCond .ne 5, 3) := by decide +kernel
theorem dX11_bestOffset_8 : decode cX11_bestOffset 8 = .ok (.iconst 0, 1) := by decide +kernel
theorem dX11_bestOffset_9 : decode cX11_bestOffset 9 = .ok (.ireturn, 1) := by decide +kernel
theorem dX11_bestOffset_10 : decode cX11_bestOffset 10 = .ok (.aload_n 0, 1) := by decide +kernel
theorem dX11_bestOffset_11 : decode cX11_bestOffset 11 = .ok (.getfield 52, 3) := by decide +kernel
theorem dX11_bestOffset_14 : decode cX11_bestOffset 14 = .ok (.aload_n 0, 1) := by decide +kernel
theorem dX11_bestOffset_15 : decode cX11_bestOffset 15 = .ok (.getfield 48, 3) := by decide +kernel
theorem dX11_bestOffset_18 : decode cX11_bestOffset 18 = .ok (.invokevirtual 375, 3) := by decide +kernel
theorem dX11_bestOffset_21 : decode cX11_bestOffset 21 = .ok (.iconst 0, 1) := by decide +kernel
theorem dX11_bestOffset_22 : decode cX11_bestOffset 22 = .ok (.istore_n 2, 1) := by decide +kernel
theorem dX11_bestOffset_23 : decode cX11_bestOffset 23 = .ok (.iconst (-1), 1) := by decide +kernel
theorem dX11_bestOffset_24 : decode cX11_bestOffset 24 = .ok (.istore_n 3, 1) := by decide +kernel
theorem dX11_bestOffset_25 : decode cX11_bestOffset 25 = .ok (.iconst 0, 1) := by decide +kernel
theorem dX11_bestOffset_26 : decode cX11_bestOffset 26 = .ok (.istore 4, 2) := by decide +kernel
theorem dX11_bestOffset_28 : decode cX11_bestOffset 28 = .ok (.iload 4, 2) := by decide +kernel
theorem dX11_bestOffset_30 : decode cX11_bestOffset 30 = .ok (.bipush 90, 2) := by decide +kernel
theorem dX11_bestOffset_32 : decode cX11_bestOffset 32 = .ok (.if_icmp .gt 64, 3) := by decide +kernel
theorem dX11_bestOffset_35 : decode cX11_bestOffset 35 = .ok (.iconst 1, 1) := by decide +kernel
theorem dX11_bestOffset_36 : decode cX11_bestOffset 36 = .ok (.istore 5, 2) := by decide +kernel
theorem dX11_bestOffset_38 : decode cX11_bestOffset 38 = .ok (.iload 5, 2) := by decide +kernel
theorem dX11_bestOffset_40 : decode cX11_bestOffset 40 = .ok (.iconst (-1), 1) := by decide +kernel
theorem dX11_bestOffset_41 : decode cX11_bestOffset 41 = .ok (.if_icmp .lt 49, 3) := by decide +kernel
theorem dX11_bestOffset_44 : decode cX11_bestOffset 44 = .ok (.aload_n 0, 1) := by decide +kernel
theorem dX11_bestOffset_45 : decode cX11_bestOffset 45 = .ok (.getfield 52, 3) := by decide +kernel
theorem dX11_bestOffset_48 : decode cX11_bestOffset 48 = .ok (.getfield 293, 3) := by decide +kernel
theorem dX11_bestOffset_51 : decode cX11_bestOffset 51 = .ok (.iload_n 1, 1) := by decide +kernel
theorem dX11_bestOffset_52 : decode cX11_bestOffset 52 = .ok (.iload 5, 2) := by decide +kernel
theorem dX11_bestOffset_54 : decode cX11_bestOffset 54 = .ok (.iload 4, 2) := by decide +kernel
theorem dX11_bestOffset_56 : decode cX11_bestOffset 56 = .ok (.imul, 1) := by decide +kernel
theorem dX11_bestOffset_57 : decode cX11_bestOffset 57 = .ok (.iastore, 1) := by decide +kernel
theorem dX11_bestOffset_58 : decode cX11_bestOffset 58 = .ok (.aload_n 0, 1) := by decide +kernel
theorem dX11_bestOffset_59 : decode cX11_bestOffset 59 = .ok (.aload_n 0, 1) := by decide +kernel
theorem dX11_bestOffset_60 : decode cX11_bestOffset 60 = .ok (.getfield 52, 3) := by decide +kernel
theorem dX11_bestOffset_63 : decode cX11_bestOffset 63 = .ok (.invokevirtual 304, 3) := by decide +kernel
theorem dX11_bestOffset_66 : decode cX11_bestOffset 66 = .ok (.iload_n 3, 1) := by decide +kernel
theorem dX11_bestOffset_67 : decode cX11_bestOffset 67 = .ok (.if_icmp .gt 6, 3) := by decide +kernel
theorem dX11_bestOffset_70 : decode cX11_bestOffset 70 = .ok (.goto 14, 3) := by decide +kernel
theorem dX11_bestOffset_73 : decode cX11_bestOffset 73 = .ok (.iload 5, 2) := by decide +kernel
theorem dX11_bestOffset_75 : decode cX11_bestOffset 75 = .ok (.iload 4, 2) := by decide +kernel
theorem dX11_bestOffset_77 : decode cX11_bestOffset 77 = .ok (.imul, 1) := by decide +kernel
theorem dX11_bestOffset_78 : decode cX11_bestOffset 78 = .ok (.istore_n 2, 1) := by decide +kernel
theorem dX11_bestOffset_79 : decode cX11_bestOffset 79 = .ok (.aload_n 0, 1) := by decide +kernel
theorem dX11_bestOffset_80 : decode cX11_bestOffset 80 = .ok (.getfield 294, 3) := by decide +kernel
theorem dX11_bestOffset_83 : decode cX11_bestOffset 83 = .ok (.istore_n 3, 1) := by decide +kernel
theorem dX11_bestOffset_84 : decode cX11_bestOffset 84 = .ok (.iinc 5 (-2), 3) := by decide +kernel
theorem dX11_bestOffset_87 : decode cX11_bestOffset 87 = .ok (.goto (-49), 3) := by decide +kernel
theorem dX11_bestOffset_90 : decode cX11_bestOffset 90 = .ok (.iinc 4 1, 3) := by decide +kernel
theorem dX11_bestOffset_93 : decode cX11_bestOffset 93 = .ok (.goto (-65), 3) := by decide +kernel
theorem dX11_bestOffset_96 : decode cX11_bestOffset 96 = .ok (.iload_n 2, 1) := by decide +kernel
theorem dX11_bestOffset_97 : decode cX11_bestOffset 97 = .ok (.ireturn, 1) := by decide +kernel
theorem dX11_meanClarity_0 : decode cX11_meanClarity 0 = .ok (.aload_n 0, 1) := by decide +kernel
theorem dX11_meanClarity_1 : decode cX11_meanClarity 1 = .ok (.iconst 0, 1) := by decide +kernel
theorem dX11_meanClarity_2 : decode cX11_meanClarity 2 = .ok (.putfield 64, 3) := by decide +kernel
theorem dX11_meanClarity_5 : decode cX11_meanClarity 5 = .ok (.iconst 0, 1) := by decide +kernel
theorem dX11_meanClarity_6 : decode cX11_meanClarity 6 = .ok (.istore_n 1, 1) := by decide +kernel
theorem dX11_meanClarity_7 : decode cX11_meanClarity 7 = .ok (.iconst 0, 1) := by decide +kernel
theorem dX11_meanClarity_8 : decode cX11_meanClarity 8 = .ok (.istore_n 2, 1) := by decide +kernel
theorem dX11_meanClarity_9 : decode cX11_meanClarity 9 = .ok (.iload_n 2, 1) := by decide +kernel
theorem dX11_meanClarity_10 : decode cX11_meanClarity 10 = .ok (.aload_n 0, 1) := by decide +kernel
theorem dX11_meanClarity_11 : decode cX11_meanClarity 11 = .ok (.getfield 35, 3) := by decide +kernel
theorem dX11_meanClarity_14 : decode cX11_meanClarity 14 = .ok (.getfield 149, 3) := by decide +kernel
theorem dX11_meanClarity_17 : decode cX11_meanClarity 17 = .ok (.if_icmp .ge 21, 3) := by decide +kernel
theorem dX11_meanClarity_20 : decode cX11_meanClarity 20 = .ok (.iload_n 1, 1) := by decide +kernel
theorem dX11_meanClarity_21 : decode cX11_meanClarity 21 = .ok (.aload_n 0, 1) := by decide +kernel
theorem dX11_meanClarity_22 : decode cX11_meanClarity 22 = .ok (.getfield 48, 3) := by decide +kernel
theorem dX11_meanClarity_25 : decode cX11_meanClarity 25 = .ok (.getfield 292, 3) := by decide +kernel
theorem dX11_meanClarity_28 : decode cX11_meanClarity 28 = .ok (.iload_n 2, 1) := by decide +kernel
theorem dX11_meanClarity_29 : decode cX11_meanClarity 29 = .ok (.iaload, 1) := by decide +kernel
theorem dX11_meanClarity_30 : decode cX11_meanClarity 30 = .ok (.iadd, 1) := by decide +kernel
theorem dX11_meanClarity_31 : decode cX11_meanClarity 31 = .ok (.istore_n 1, 1) := by decide +kernel
theorem dX11_meanClarity_32 : decode cX11_meanClarity 32 = .ok (.iinc 2 1, 3) := by decide +kernel
theorem dX11_meanClarity_35 : decode cX11_meanClarity 35 = .ok (.goto (-26), 3) := by decide +kernel
theorem dX11_meanClarity_38 : decode cX11_meanClarity 38 = .ok (.aload_n 0, 1) := by decide +kernel
theorem dX11_meanClarity_39 : decode cX11_meanClarity 39 = .ok (.getfield 35, 3) := by decide +kernel
theorem dX11_meanClarity_42 : decode cX11_meanClarity 42 = .ok (.getfield 149, 3) := by decide +kernel
theorem dX11_meanClarity_45 : decode cX11_meanClarity 45 = .ok (.ifCond .ne 7, 3) := by decide +kernel
theorem dX11_meanClarity_48 : decode cX11_meanClarity 48 = .ok (.dconst 0, 1) := by decide +kernel
theorem dX11_meanClarity_49 : decode cX11_meanClarity 49 = .ok (.goto 14, 3) := by decide +kernel
theorem dX11_meanClarity_52 : decode cX11_meanClarity 52 = .ok (.iload_n 1, 1) := by decide +kernel
theorem dX11_meanClarity_53 : decode cX11_meanClarity 53 = .ok (.i2d, 1) := by decide +kernel
theorem dX11_meanClarity_54 : decode cX11_meanClarity 54 = .ok (.aload_n 0, 1) := by decide +kernel
theorem dX11_meanClarity_55 : decode cX11_meanClarity 55 = .ok (.getfield 35, 3) := by decide +kernel
theorem dX11_meanClarity_58 : decode cX11_meanClarity 58 = .ok (.getfield 149, 3) := by decide +kernel
theorem dX11_meanClarity_61 : decode cX11_meanClarity 61 = .ok (.i2d, 1) := by decide +kernel
theorem dX11_meanClarity_62 : decode cX11_meanClarity 62 = .ok (.ddiv, 1) := by decide +kernel
theorem dX11_meanClarity_63 : decode cX11_meanClarity 63 = .ok (.dreturn, 1) := by decide +kernel
theorem dX11_digest_0 : decode cX11_digest 0 = .ok (.aload_n 0, 1) := by decide +kernel
theorem dX11_digest_1 : decode cX11_digest 1 = .ok (.aload_n 0, 1) := by decide +kernel
theorem dX11_digest_2 : decode cX11_digest 2 = .ok (.getfield 48, 3) := by decide +kernel
theorem dX11_digest_5 : decode cX11_digest 5 = .ok (.invokevirtual 317, 3) := by decide +kernel
theorem dX11_digest_8 : decode cX11_digest 8 = .ok (.istore_n 1, 1) := by decide +kernel
theorem dX11_digest_9 : decode cX11_digest 9 = .ok (.bipush 7, 2) := by decide +kernel
theorem dX11_digest_11 : decode cX11_digest 11 = .ok (.newarray .int, 2) := by decide +kernel
theorem dX11_digest_13 : decode cX11_digest 13 = .ok (.dup, 1) := by decide +kernel
theorem dX11_digest_14 : decode cX11_digest 14 = .ok (.iconst 0, 1) := by decide +kernel
theorem dX11_digest_15 : decode cX11_digest 15 = .ok (.aload_n 0, 1) := by decide +kernel
theorem dX11_digest_16 : decode cX11_digest 16 = .ok (.getfield 35, 3) := by decide +kernel
theorem dX11_digest_19 : decode cX11_digest 19 = .ok (.getfield 149, 3) := by decide +kernel
theorem dX11_digest_22 : decode cX11_digest 22 = .ok (.iastore, 1) := by decide +kernel
theorem dX11_digest_23 : decode cX11_digest 23 = .ok (.dup, 1) := by decide +kernel
theorem dX11_digest_24 : decode cX11_digest 24 = .ok (.iconst 1, 1) := by decide +kernel
theorem dX11_digest_25 : decode cX11_digest 25 = .ok (.aload_n 0, 1) := by decide +kernel
theorem dX11_digest_26 : decode cX11_digest 26 = .ok (.getfield 35, 3) := by decide +kernel
theorem dX11_digest_29 : decode cX11_digest 29 = .ok (.getfield 229, 3) := by decide +kernel
theorem dX11_digest_32 : decode cX11_digest 32 = .ok (.iastore, 1) := by decide +kernel
theorem dX11_digest_33 : decode cX11_digest 33 = .ok (.dup, 1) := by decide +kernel
theorem dX11_digest_34 : decode cX11_digest 34 = .ok (.iconst 2, 1) := by decide +kernel
theorem dX11_digest_35 : decode cX11_digest 35 = .ok (.aload_n 0, 1) := by decide +kernel
theorem dX11_digest_36 : decode cX11_digest 36 = .ok (.getfield 48, 3) := by decide +kernel
theorem dX11_digest_39 : decode cX11_digest 39 = .ok (.getfield 308, 3) := by decide +kernel
theorem dX11_digest_42 : decode cX11_digest 42 = .ok (.iastore, 1) := by decide +kernel
theorem dX11_digest_43 : decode cX11_digest 43 = .ok (.dup, 1) := by decide +kernel
theorem dX11_digest_44 : decode cX11_digest 44 = .ok (.iconst 3, 1) := by decide +kernel
theorem dX11_digest_45 : decode cX11_digest 45 = .ok (.aload_n 0, 1) := by decide +kernel
theorem dX11_digest_46 : decode cX11_digest 46 = .ok (.getfield 71, 3) := by decide +kernel
theorem dX11_digest_49 : decode cX11_digest 49 = .ok (.iastore, 1) := by decide +kernel
theorem dX11_digest_50 : decode cX11_digest 50 = .ok (.dup, 1) := by decide +kernel
theorem dX11_digest_51 : decode cX11_digest 51 = .ok (.iconst 4, 1) := by decide +kernel
theorem dX11_digest_52 : decode cX11_digest 52 = .ok (.aload_n 0, 1) := by decide +kernel
theorem dX11_digest_53 : decode cX11_digest 53 = .ok (.getfield 294, 3) := by decide +kernel
theorem dX11_digest_56 : decode cX11_digest 56 = .ok (.iastore, 1) := by decide +kernel
theorem dX11_digest_57 : decode cX11_digest 57 = .ok (.dup, 1) := by decide +kernel
theorem dX11_digest_58 : decode cX11_digest 58 = .ok (.iconst 5, 1) := by decide +kernel
theorem dX11_digest_59 : decode cX11_digest 59 = .ok (.aload_n 0, 1) := by decide +kernel
theorem dX11_digest_60 : decode cX11_digest 60 = .ok (.getfield 297, 3) := by decide +kernel
theorem dX11_digest_63 : decode cX11_digest 63 = .ok (.iastore, 1) := by decide +kernel
theorem dX11_digest_64 : decode cX11_digest 64 = .ok (.dup, 1) := by decide +kernel
theorem dX11_digest_65 : decode cX11_digest 65 = .ok (.bipush 6, 2) := by decide +kernel
theorem dX11_digest_67 : decode cX11_digest 67 = .ok (.iload_n 1, 1) := by decide +kernel
theorem dX11_digest_68 : decode cX11_digest 68 = .ok (.ifCond .eq 7, 3) := by decide +kernel
theorem dX11_digest_71 : decode cX11_digest 71 = .ok (.iconst 1, 1) := by decide +kernel
theorem dX11_digest_72 : decode cX11_digest 72 = .ok (.goto 4, 3) := by decide +kernel
theorem dX11_digest_75 : decode cX11_digest 75 = .ok (.iconst 0, 1) := by decide +kernel
theorem dX11_digest_76 : decode cX11_digest 76 = .ok (.iastore, 1) := by decide +kernel
theorem dX11_digest_77 : decode cX11_digest 77 = .ok (.astore_n 2, 1) := by decide +kernel
theorem dX11_digest_78 : decode cX11_digest 78 = .ok (.ldc2_w 380, 3) := by decide +kernel
theorem dX11_digest_81 : decode cX11_digest 81 = .ok (.lstore_n 3, 1) := by decide +kernel
theorem dX11_digest_82 : decode cX11_digest 82 = .ok (.aload_n 2, 1) := by decide +kernel
theorem dX11_digest_83 : decode cX11_digest 83 = .ok (.astore 5, 2) := by decide +kernel
theorem dX11_digest_85 : decode cX11_digest 85 = .ok (.aload 5, 2) := by decide +kernel
theorem dX11_digest_87 : decode cX11_digest 87 = .ok (.arraylength, 1) := by decide +kernel
theorem dX11_digest_88 : decode cX11_digest 88 = .ok (.istore 6, 2) := by decide +kernel
theorem dX11_digest_90 : decode cX11_digest 90 = .ok (.iconst 0, 1) := by decide +kernel
theorem dX11_digest_91 : decode cX11_digest 91 = .ok (.istore 7, 2) := by decide +kernel
theorem dX11_digest_93 : decode cX11_digest 93 = .ok (.iload 7, 2) := by decide +kernel
theorem dX11_digest_95 : decode cX11_digest 95 = .ok (.iload 6, 2) := by decide +kernel
theorem dX11_digest_97 : decode cX11_digest 97 = .ok (.if_icmp .ge 26, 3) := by decide +kernel
theorem dX11_digest_100 : decode cX11_digest 100 = .ok (.aload 5, 2) := by decide +kernel
theorem dX11_digest_102 : decode cX11_digest 102 = .ok (.iload 7, 2) := by decide +kernel
theorem dX11_digest_104 : decode cX11_digest 104 = .ok (.iaload, 1) := by decide +kernel
theorem dX11_digest_105 : decode cX11_digest 105 = .ok (.istore 8, 2) := by decide +kernel
theorem dX11_digest_107 : decode cX11_digest 107 = .ok (.lload_n 3, 1) := by decide +kernel
theorem dX11_digest_108 : decode cX11_digest 108 = .ok (.ldc2_w 382, 3) := by decide +kernel
theorem dX11_digest_111 : decode cX11_digest 111 = .ok (.lmul, 1) := by decide +kernel
theorem dX11_digest_112 : decode cX11_digest 112 = .ok (.iload 8, 2) := by decide +kernel
theorem dX11_digest_114 : decode cX11_digest 114 = .ok (.i2l, 1) := by decide +kernel
theorem dX11_digest_115 : decode cX11_digest 115 = .ok (.ladd, 1) := by decide +kernel
theorem dX11_digest_116 : decode cX11_digest 116 = .ok (.lstore_n 3, 1) := by decide +kernel
theorem dX11_digest_117 : decode cX11_digest 117 = .ok (.iinc 7 1, 3) := by decide +kernel
theorem dX11_digest_120 : decode cX11_digest 120 = .ok (.goto (-27), 3) := by decide +kernel
theorem dX11_digest_123 : decode cX11_digest 123 = .ok (.iconst 0, 1) := by decide +kernel
theorem dX11_digest_124 : decode cX11_digest 124 = .ok (.istore 5, 2) := by decide +kernel
theorem dX11_digest_126 : decode cX11_digest 126 = .ok (.iload 5, 2) := by decide +kernel
theorem dX11_digest_128 : decode cX11_digest 128 = .ok (.aload_n 0, 1) := by decide +kernel
theorem dX11_digest_129 : decode cX11_digest 129 = .ok (.getfield 35, 3) := by decide +kernel
theorem dX11_digest_132 : decode cX11_digest 132 = .ok (.getfield 149, 3) := by decide +kernel
theorem dX11_digest_135 : decode cX11_digest 135 = .ok (.if_icmp .ge 165, 3) := by decide +kernel
theorem dX11_digest_138 : decode cX11_digest 138 = .ok (.bipush 8, 2) := by decide +kernel
theorem dX11_digest_140 : decode cX11_digest 140 = .ok (.newarray .int, 2) := by decide +kernel
theorem dX11_digest_142 : decode cX11_digest 142 = .ok (.dup, 1) := by decide +kernel
theorem dX11_digest_143 : decode cX11_digest 143 = .ok (.iconst 0, 1) := by decide +kernel
theorem dX11_digest_144 : decode cX11_digest 144 = .ok (.aload_n 0, 1) := by decide +kernel
theorem dX11_digest_145 : decode cX11_digest 145 = .ok (.getfield 48, 3) := by decide +kernel
theorem dX11_digest_148 : decode cX11_digest 148 = .ok (.getfield 292, 3) := by decide +kernel
theorem dX11_digest_151 : decode cX11_digest 151 = .ok (.iload 5, 2) := by decide +kernel
theorem dX11_digest_153 : decode cX11_digest 153 = .ok (.iaload, 1) := by decide +kernel
theorem dX11_digest_154 : decode cX11_digest 154 = .ok (.iastore, 1) := by decide +kernel
theorem dX11_digest_155 : decode cX11_digest 155 = .ok (.dup, 1) := by decide +kernel
theorem dX11_digest_156 : decode cX11_digest 156 = .ok (.iconst 1, 1) := by decide +kernel
theorem dX11_digest_157 : decode cX11_digest 157 = .ok (.aload_n 0, 1) := by decide +kernel
theorem dX11_digest_158 : decode cX11_digest 158 = .ok (.getfield 48, 3) := by decide +kernel
theorem dX11_digest_161 : decode cX11_digest 161 = .ok (.getfield 314, 3) := by decide +kernel
theorem dX11_digest_164 : decode cX11_digest 164 = .ok (.iload 5, 2) := by decide +kernel
theorem dX11_digest_166 : decode cX11_digest 166 = .ok (.iaload, 1) := by decide +kernel
theorem dX11_digest_167 : decode cX11_digest 167 = .ok (.iastore, 1) := by decide +kernel
theorem dX11_digest_168 : decode cX11_digest 168 = .ok (.dup, 1) := by decide +kernel
theorem dX11_digest_169 : decode cX11_digest 169 = .ok (.iconst 2, 1) := by decide +kernel
theorem dX11_digest_170 : decode cX11_digest 170 = .ok (.aload_n 0, 1) := by decide +kernel
theorem dX11_digest_171 : decode cX11_digest 171 = .ok (.getfield 48, 3) := by decide +kernel
theorem dX11_digest_174 : decode cX11_digest 174 = .ok (.getfield 293, 3) := by decide +kernel
theorem dX11_digest_177 : decode cX11_digest 177 = .ok (.iload 5, 2) := by decide +kernel
theorem dX11_digest_179 : decode cX11_digest 179 = .ok (.iaload, 1) := by decide +kernel
theorem dX11_digest_180 : decode cX11_digest 180 = .ok (.iastore, 1) := by decide +kernel
theorem dX11_digest_181 : decode cX11_digest 181 = .ok (.dup, 1) := by decide +kernel
theorem dX11_digest_182 : decode cX11_digest 182 = .ok (.iconst 3, 1) := by decide +kernel
theorem dX11_digest_183 : decode cX11_digest 183 = .ok (.aload_n 0, 1) := by decide +kernel
theorem dX11_digest_184 : decode cX11_digest 184 = .ok (.iload 5, 2) := by decide +kernel
theorem dX11_digest_186 : decode cX11_digest 186 = .ok (.invokevirtual 352, 3) := by decide +kernel
theorem dX11_digest_189 : decode cX11_digest 189 = .ok (.iastore, 1) := by decide +kernel
theorem dX11_digest_190 : decode cX11_digest 190 = .ok (.dup, 1) := by decide +kernel
theorem dX11_digest_191 : decode cX11_digest 191 = .ok (.iconst 4, 1) := by decide +kernel
theorem dX11_digest_192 : decode cX11_digest 192 = .ok (.aload_n 0, 1) := by decide +kernel
theorem dX11_digest_193 : decode cX11_digest 193 = .ok (.getfield 58, 3) := by decide +kernel
theorem dX11_digest_196 : decode cX11_digest 196 = .ok (.iload 5, 2) := by decide +kernel
theorem dX11_digest_198 : decode cX11_digest 198 = .ok (.iaload, 1) := by decide +kernel
theorem dX11_digest_199 : decode cX11_digest 199 = .ok (.iastore, 1) := by decide +kernel
theorem dX11_digest_200 : decode cX11_digest 200 = .ok (.dup, 1) := by decide +kernel
theorem dX11_digest_201 : decode cX11_digest 201 = .ok (.iconst 5, 1) := by decide +kernel
theorem dX11_digest_202 : decode cX11_digest 202 = .ok (.aload_n 0, 1) := by decide +kernel
theorem dX11_digest_203 : decode cX11_digest 203 = .ok (.getfield 55, 3) := by decide +kernel
theorem dX11_digest_206 : decode cX11_digest 206 = .ok (.iload 5, 2) := by decide +kernel
theorem dX11_digest_208 : decode cX11_digest 208 = .ok (.iaload, 1) := by decide +kernel
theorem dX11_digest_209 : decode cX11_digest 209 = .ok (.aload_n 0, 1) := by decide +kernel
theorem dX11_digest_210 : decode cX11_digest 210 = .ok (.getfield 58, 3) := by decide +kernel
theorem dX11_digest_213 : decode cX11_digest 213 = .ok (.iload 5, 2) := by decide +kernel
theorem dX11_digest_215 : decode cX11_digest 215 = .ok (.iaload, 1) := by decide +kernel
theorem dX11_digest_216 : decode cX11_digest 216 = .ok (.isub, 1) := by decide +kernel
theorem dX11_digest_217 : decode cX11_digest 217 = .ok (.iastore, 1) := by decide +kernel
theorem dX11_digest_218 : decode cX11_digest 218 = .ok (.dup, 1) := by decide +kernel
theorem dX11_digest_219 : decode cX11_digest 219 = .ok (.bipush 6, 2) := by decide +kernel
theorem dX11_digest_221 : decode cX11_digest 221 = .ok (.aload_n 0, 1) := by decide +kernel
theorem dX11_digest_222 : decode cX11_digest 222 = .ok (.getfield 61, 3) := by decide +kernel
theorem dX11_digest_225 : decode cX11_digest 225 = .ok (.iload 5, 2) := by decide +kernel
theorem dX11_digest_227 : decode cX11_digest 227 = .ok (.iaload, 1) := by decide +kernel
theorem dX11_digest_228 : decode cX11_digest 228 = .ok (.iastore, 1) := by decide +kernel
theorem dX11_digest_229 : decode cX11_digest 229 = .ok (.dup, 1) := by decide +kernel
theorem dX11_digest_230 : decode cX11_digest 230 = .ok (.bipush 7, 2) := by decide +kernel
theorem dX11_digest_232 : decode cX11_digest 232 = .ok (.aload_n 0, 1) := by decide +kernel
theorem dX11_digest_233 : decode cX11_digest 233 = .ok (.getfield 48, 3) := by decide +kernel
theorem dX11_digest_236 : decode cX11_digest 236 = .ok (.iload 5, 2) := by decide +kernel
theorem dX11_digest_238 : decode cX11_digest 238 = .ok (.invokevirtual 289, 3) := by decide +kernel
theorem dX11_digest_241 : decode cX11_digest 241 = .ok (.ifCond .eq 7, 3) := by decide +kernel
theorem dX11_digest_244 : decode cX11_digest 244 = .ok (.iconst 1, 1) := by decide +kernel
theorem dX11_digest_245 : decode cX11_digest 245 = .ok (.goto 4, 3) := by decide +kernel
theorem dX11_digest_248 : decode cX11_digest 248 = .ok (.iconst 0, 1) := by decide +kernel
theorem dX11_digest_249 : decode cX11_digest 249 = .ok (.iastore, 1) := by decide +kernel
theorem dX11_digest_250 : decode cX11_digest 250 = .ok (.astore 6, 2) := by decide +kernel
theorem dX11_digest_252 : decode cX11_digest 252 = .ok (.aload 6, 2) := by decide +kernel
theorem dX11_digest_254 : decode cX11_digest 254 = .ok (.astore 7, 2) := by decide +kernel
theorem dX11_digest_256 : decode cX11_digest 256 = .ok (.aload 7, 2) := by decide +kernel
theorem dX11_digest_258 : decode cX11_digest 258 = .ok (.arraylength, 1) := by decide +kernel
theorem dX11_digest_259 : decode cX11_digest 259 = .ok (.istore 8, 2) := by decide +kernel
theorem dX11_digest_261 : decode cX11_digest 261 = .ok (.iconst 0, 1) := by decide +kernel
theorem dX11_digest_262 : decode cX11_digest 262 = .ok (.istore 9, 2) := by decide +kernel
theorem dX11_digest_264 : decode cX11_digest 264 = .ok (.iload 9, 2) := by decide +kernel
theorem dX11_digest_266 : decode cX11_digest 266 = .ok (.iload 8, 2) := by decide +kernel
theorem dX11_digest_268 : decode cX11_digest 268 = .ok (.if_icmp .ge 26, 3) := by decide +kernel
theorem dX11_digest_271 : decode cX11_digest 271 = .ok (.aload 7, 2) := by decide +kernel
theorem dX11_digest_273 : decode cX11_digest 273 = .ok (.iload 9, 2) := by decide +kernel
theorem dX11_digest_275 : decode cX11_digest 275 = .ok (.iaload, 1) := by decide +kernel
theorem dX11_digest_276 : decode cX11_digest 276 = .ok (.istore 10, 2) := by decide +kernel
theorem dX11_digest_278 : decode cX11_digest 278 = .ok (.lload_n 3, 1) := by decide +kernel
theorem dX11_digest_279 : decode cX11_digest 279 = .ok (.ldc2_w 382, 3) := by decide +kernel
theorem dX11_digest_282 : decode cX11_digest 282 = .ok (.lmul, 1) := by decide +kernel
theorem dX11_digest_283 : decode cX11_digest 283 = .ok (.iload 10, 2) := by decide +kernel
theorem dX11_digest_285 : decode cX11_digest 285 = .ok (.i2l, 1) := by decide +kernel
theorem dX11_digest_286 : decode cX11_digest 286 = .ok (.ladd, 1) := by decide +kernel
theorem dX11_digest_287 : decode cX11_digest 287 = .ok (.lstore_n 3, 1) := by decide +kernel
theorem dX11_digest_288 : decode cX11_digest 288 = .ok (.iinc 9 1, 3) := by decide +kernel
theorem dX11_digest_291 : decode cX11_digest 291 = .ok (.goto (-27), 3) := by decide +kernel
theorem dX11_digest_294 : decode cX11_digest 294 = .ok (.iinc 5 1, 3) := by decide +kernel
theorem dX11_digest_297 : decode cX11_digest 297 = .ok (.goto (-171), 3) := by decide +kernel
theorem dX11_digest_300 : decode cX11_digest 300 = .ok (.lload_n 3, 1) := by decide +kernel
theorem dX11_digest_301 : decode cX11_digest 301 = .ok (.ldc2_w 382, 3) := by decide +kernel
theorem dX11_digest_304 : decode cX11_digest 304 = .ok (.lmul, 1) := by decide +kernel
theorem dX11_digest_305 : decode cX11_digest 305 = .ok (.aload_n 0, 1) := by decide +kernel
theorem dX11_digest_306 : decode cX11_digest 306 = .ok (.getfield 48, 3) := by decide +kernel
theorem dX11_digest_309 : decode cX11_digest 309 = .ok (.getfield 311, 3) := by decide +kernel
theorem dX11_digest_312 : decode cX11_digest 312 = .ok (.i2l, 1) := by decide +kernel
theorem dX11_digest_313 : decode cX11_digest 313 = .ok (.ladd, 1) := by decide +kernel
theorem dX11_digest_314 : decode cX11_digest 314 = .ok (.ldc2_w 382, 3) := by decide +kernel
theorem dX11_digest_317 : decode cX11_digest 317 = .ok (.lmul, 1) := by decide +kernel
theorem dX11_digest_318 : decode cX11_digest 318 = .ok (.aload_n 0, 1) := by decide +kernel
theorem dX11_digest_319 : decode cX11_digest 319 = .ok (.getfield 48, 3) := by decide +kernel
theorem dX11_digest_322 : decode cX11_digest 322 = .ok (.getfield 355, 3) := by decide +kernel
theorem dX11_digest_325 : decode cX11_digest 325 = .ok (.i2l, 1) := by decide +kernel
theorem dX11_digest_326 : decode cX11_digest 326 = .ok (.ladd, 1) := by decide +kernel
theorem dX11_digest_327 : decode cX11_digest 327 = .ok (.ldc2_w 382, 3) := by decide +kernel
theorem dX11_digest_330 : decode cX11_digest 330 = .ok (.lmul, 1) := by decide +kernel
theorem dX11_digest_331 : decode cX11_digest 331 = .ok (.aload_n 0, 1) := by decide +kernel
theorem dX11_digest_332 : decode cX11_digest 332 = .ok (.getfield 48, 3) := by decide +kernel
theorem dX11_digest_335 : decode cX11_digest 335 = .ok (.getfield 367, 3) := by decide +kernel
theorem dX11_digest_338 : decode cX11_digest 338 = .ok (.i2l, 1) := by decide +kernel
theorem dX11_digest_339 : decode cX11_digest 339 = .ok (.ladd, 1) := by decide +kernel
theorem dX11_digest_340 : decode cX11_digest 340 = .ok (.lstore_n 3, 1) := by decide +kernel
theorem dX11_digest_341 : decode cX11_digest 341 = .ok (.iconst 0, 1) := by decide +kernel
theorem dX11_digest_342 : decode cX11_digest 342 = .ok (.istore 5, 2) := by decide +kernel
theorem dX11_digest_344 : decode cX11_digest 344 = .ok (.iload 5, 2) := by decide +kernel
theorem dX11_digest_346 : decode cX11_digest 346 = .ok (.aload_n 0, 1) := by decide +kernel
theorem dX11_digest_347 : decode cX11_digest 347 = .ok (.getfield 48, 3) := by decide +kernel
theorem dX11_digest_350 : decode cX11_digest 350 = .ok (.getfield 311, 3) := by decide +kernel
theorem dX11_digest_353 : decode cX11_digest 353 = .ok (.if_icmp .ge 43, 3) := by decide +kernel
theorem dX11_digest_356 : decode cX11_digest 356 = .ok (.lload_n 3, 1) := by decide +kernel
theorem dX11_digest_357 : decode cX11_digest 357 = .ok (.ldc2_w 382, 3) := by decide +kernel
theorem dX11_digest_360 : decode cX11_digest 360 = .ok (.lmul, 1) := by decide +kernel
theorem dX11_digest_361 : decode cX11_digest 361 = .ok (.aload_n 0, 1) := by decide +kernel
theorem dX11_digest_362 : decode cX11_digest 362 = .ok (.getfield 48, 3) := by decide +kernel
theorem dX11_digest_365 : decode cX11_digest 365 = .ok (.getfield 361, 3) := by decide +kernel
theorem dX11_digest_368 : decode cX11_digest 368 = .ok (.iload 5, 2) := by decide +kernel
theorem dX11_digest_370 : decode cX11_digest 370 = .ok (.iaload, 1) := by decide +kernel
theorem dX11_digest_371 : decode cX11_digest 371 = .ok (.i2l, 1) := by decide +kernel
theorem dX11_digest_372 : decode cX11_digest 372 = .ok (.ladd, 1) := by decide +kernel
theorem dX11_digest_373 : decode cX11_digest 373 = .ok (.ldc2_w 382, 3) := by decide +kernel
theorem dX11_digest_376 : decode cX11_digest 376 = .ok (.lmul, 1) := by decide +kernel
theorem dX11_digest_377 : decode cX11_digest 377 = .ok (.aload_n 0, 1) := by decide +kernel
theorem dX11_digest_378 : decode cX11_digest 378 = .ok (.getfield 48, 3) := by decide +kernel
theorem dX11_digest_381 : decode cX11_digest 381 = .ok (.getfield 364, 3) := by decide +kernel
theorem dX11_digest_384 : decode cX11_digest 384 = .ok (.iload 5, 2) := by decide +kernel
theorem dX11_digest_386 : decode cX11_digest 386 = .ok (.iaload, 1) := by decide +kernel
theorem dX11_digest_387 : decode cX11_digest 387 = .ok (.i2l, 1) := by decide +kernel
theorem dX11_digest_388 : decode cX11_digest 388 = .ok (.ladd, 1) := by decide +kernel
theorem dX11_digest_389 : decode cX11_digest 389 = .ok (.lstore_n 3, 1) := by decide +kernel
theorem dX11_digest_390 : decode cX11_digest 390 = .ok (.iinc 5 1, 3) := by decide +kernel
theorem dX11_digest_393 : decode cX11_digest 393 = .ok (.goto (-49), 3) := by decide +kernel
theorem dX11_digest_396 : decode cX11_digest 396 = .ok (.aload_n 0, 1) := by decide +kernel
theorem dX11_digest_397 : decode cX11_digest 397 = .ok (.iconst 0, 1) := by decide +kernel
theorem dX11_digest_398 : decode cX11_digest 398 = .ok (.putfield 64, 3) := by decide +kernel
theorem dX11_digest_401 : decode cX11_digest 401 = .ok (.lload_n 3, 1) := by decide +kernel
theorem dX11_digest_402 : decode cX11_digest 402 = .ok (.lreturn, 1) := by decide +kernel
