theorem dX8_init_0 : decode cX8_init 0 = .ok (.aload_n 0, 1) := by decide +kernel
theorem dX8_init_1 : decode cX8_init 1 = .ok (.invokespecial 1, 3) := by decide +kernel
theorem dX8_init_4 : decode cX8_init 4 = .ok (.aload_n 0, 1) := by decide +kernel
theorem dX8_init_5 : decode cX8_init 5 = .ok (.new 7, 3) := by decide +kernel
theorem dX8_init_8 : decode cX8_init 8 = .ok (.dup, 1) := by decide +kernel
theorem dX8_init_9 : decode cX8_init 9 = .ok (.invokespecial 9, 3) := by decide +kernel
theorem dX8_init_12 : decode cX8_init 12 = .ok (.putfield 10, 3) := by decide +kernel
theorem dX8_init_15 : decode cX8_init 15 = .ok (.aload_n 0, 1) := by decide +kernel
theorem dX8_init_16 : decode cX8_init 16 = .ok (.new 16, 3) := by decide +kernel
theorem dX8_init_19 : decode cX8_init 19 = .ok (.dup, 1) := by decide +kernel
theorem dX8_init_20 : decode cX8_init 20 = .ok (.aload_n 0, 1) := by decide +kernel
theorem dX8_init_21 : decode cX8_init 21 = .ok (.getfield 10, 3) := by decide +kernel
theorem dX8_init_24 : decode cX8_init 24 = .ok (.invokespecial 18, 3) := by decide +kernel
theorem dX8_init_27 : decode cX8_init 27 = .ok (.putfield 21, 3) := by decide +kernel
theorem dX8_init_30 : decode cX8_init 30 = .ok (.aload_n 0, 1) := by decide +kernel
theorem dX8_init_31 : decode cX8_init 31 = .ok (.new 25, 3) := by decide +kernel
theorem dX8_init_34 : decode cX8_init 34 = .ok (.dup, 1) := by decide +kernel
theorem dX8_init_35 : decode cX8_init 35 = .ok (.invokespecial 27, 3) := by decide +kernel
theorem dX8_init_38 : decode cX8_init 38 = .ok (.putfield 28, 3) := by decide +kernel
theorem dX8_init_41 : decode cX8_init 41 = .ok (.aload_n 0, 1) := by decide +kernel
theorem dX8_init_42 : decode cX8_init 42 = .ok (.new 32, 3) := by decide +kernel
theorem dX8_init_45 : decode cX8_init 45 = .ok (.dup, 1) := by decide +kernel
theorem dX8_init_46 : decode cX8_init 46 = .ok (.aload_n 0, 1) := by decide +kernel
theorem dX8_init_47 : decode cX8_init 47 = .ok (.getfield 21, 3) := by decide +kernel
theorem dX8_init_50 : decode cX8_init 50 = .ok (.aload_n 0, 1) := by decide +kernel
theorem dX8_init_51 : decode cX8_init 51 = .ok (.getfield 28, 3) := by decide +kernel
theorem dX8_init_54 : decode cX8_init 54 = .ok (.invokespecial 34, 3) := by decide +kernel
theorem dX8_init_57 : decode cX8_init 57 = .ok (.putfield 37, 3) := by decide +kernel
theorem dX8_init_60 : decode cX8_init 60 = .ok (.aload_n 0, 1) := by decide +kernel
theorem dX8_init_61 : decode cX8_init 61 = .ok (.new 41, 3) := by decide +kernel
theorem dX8_init_64 : decode cX8_init 64 = .ok (.dup, 1) := by decide +kernel
theorem dX8_init_65 : decode cX8_init 65 = .ok (.aload_n 0, 1) := by decide +kernel
theorem dX8_init_66 : decode cX8_init 66 = .ok (.getfield 10, 3) := by decide +kernel
theorem dX8_init_69 : decode cX8_init 69 = .ok (.aload_n 0, 1) := by decide +kernel
theorem dX8_init_70 : decode cX8_init 70 = .ok (.getfield 21, 3) := by decide +kernel
theorem dX8_init_73 : decode cX8_init 73 = .ok (.aload_n 0, 1) := by decide +kernel
theorem dX8_init_74 : decode cX8_init 74 = .ok (.getfield 28, 3) := by decide +kernel
theorem dX8_init_77 : decode cX8_init 77 = .ok (.invokespecial 43, 3) := by decide +kernel
theorem dX8_init_80 : decode cX8_init 80 = .ok (.putfield 46, 3) := by decide +kernel
theorem dX8_init_83 : decode cX8_init 83 = .ok (.aload_n 0, 1) := by decide +kernel
theorem dX8_init_84 : decode cX8_init 84 = .ok (.new 25, 3) := by decide +kernel
theorem dX8_init_87 : decode cX8_init 87 = .ok (.dup, 1) := by decide +kernel
theorem dX8_init_88 : decode cX8_init 88 = .ok (.invokespecial 27, 3) := by decide +kernel
theorem dX8_init_91 : decode cX8_init 91 = .ok (.putfield 50, 3) := by decide +kernel
theorem dX8_init_94 : decode cX8_init 94 = .ok (.aload_n 0, 1) := by decide +kernel
theorem dX8_init_95 : decode cX8_init 95 = .ok (.new 53, 3) := by decide +kernel
theorem dX8_init_98 : decode cX8_init 98 = .ok (.dup, 1) := by decide +kernel
theorem dX8_init_99 : decode cX8_init 99 = .ok (.aload_n 0, 1) := by decide +kernel
theorem dX8_init_100 : decode cX8_init 100 = .ok (.getfield 50, 3) := by decide +kernel
theorem dX8_init_103 : decode cX8_init 103 = .ok (.invokespecial 55, 3) := by decide +kernel
theorem dX8_init_106 : decode cX8_init 106 = .ok (.putfield 58, 3) := by decide +kernel
theorem dX8_init_109 : decode cX8_init 109 = .ok (.aload_n 0, 1) := by decide +kernel
theorem dX8_init_110 : decode cX8_init 110 = .ok (.new 53, 3) := by decide +kernel
theorem dX8_init_113 : decode cX8_init 113 = .ok (.dup, 1) := by decide +kernel
theorem dX8_init_114 : decode cX8_init 114 = .ok (.aload_n 0, 1) := by decide +kernel
theorem dX8_init_115 : decode cX8_init 115 = .ok (.getfield 50, 3) := by decide +kernel
theorem dX8_init_118 : decode cX8_init 118 = .ok (.invokespecial 55, 3) := by decide +kernel
theorem dX8_init_121 : decode cX8_init 121 = .ok (.putfield 62, 3) := by decide +kernel
theorem dX8_init_124 : decode cX8_init 124 = .ok (.aload_n 0, 1) := by decide +kernel
theorem dX8_init_125 : decode cX8_init 125 = .ok (.iconst (-1), 1) := by decide +kernel
theorem dX8_init_126 : decode cX8_init 126 = .ok (.putfield 65, 3) := by decide +kernel
theorem dX8_init_129 : decode cX8_init 129 = .ok (.return_, 1) := by decide +kernel
theorem dX8_feed_0 : decode cX8_feed 0 = .ok (.aload_n 0, 1) := by decide +kernel
theorem dX8_feed_1 : decode cX8_feed 1 = .ok (.getfield 10, 3) := by decide +kernel
theorem dX8_feed_4 : decode cX8_feed 4 = .ok (.getfield 69, 3) := by decide +kernel
theorem dX8_feed_7 : decode cX8_feed 7 = .ok (.sipush 1980, 3) := by decide +kernel
theorem dX8_feed_10 : decode cX8_feed 10 = .ok (.if_icmp .le 13, 3) := by decide +kernel
theorem dX8_feed_13 : decode cX8_feed 13 = .ok (.new 72, 3) := by decide +kernel
theorem dX8_feed_16 : decode cX8_feed 16 = .ok (.dup, 1) := by decide +kernel
theorem dX8_feed_17 : decode cX8_feed 17 = .ok (.ldc 74, 2) := by decide +kernel
theorem dX8_feed_19 : decode cX8_feed 19 = .ok (.invokespecial 76, 3) := by decide +kernel
theorem dX8_feed_22 : decode cX8_feed 22 = .ok (.athrow, 1) := by decide +kernel
theorem dX8_feed_23 : decode cX8_feed 23 = .ok (.aload_n 0, 1) := by decide +kernel
theorem dX8_feed_24 : decode cX8_feed 24 = .ok (.getfield 10, 3) := by decide +kernel
theorem dX8_feed_27 : decode cX8_feed 27 = .ok (.iload_n 1, 1) := by decide +kernel
theorem dX8_feed_28 : decode cX8_feed 28 = .ok (.invokevirtual 79, 3) := by decide +kernel
theorem dX8_feed_31 : decode cX8_feed 31 = .ok (.aload_n 0, 1) := by decide +kernel
theorem dX8_feed_32 : decode cX8_feed 32 = .ok (.getfield 10, 3) := by decide +kernel
theorem dX8_feed_35 : decode cX8_feed 35 = .ok (.iload_n 2, 1) := by decide +kernel
theorem dX8_feed_36 : decode cX8_feed 36 = .ok (.invokevirtual 79, 3) := by decide +kernel
theorem dX8_feed_39 : decode cX8_feed 39 = .ok (.aload_n 0, 1) := by decide +kernel
theorem dX8_feed_40 : decode cX8_feed 40 = .ok (.getfield 10, 3) := by decide +kernel
theorem dX8_feed_43 : decode cX8_feed 43 = .ok (.iload_n 3, 1) := by decide +kernel
theorem dX8_feed_44 : decode cX8_feed 44 = .ok (.invokevirtual 79, 3) := by decide +kernel
theorem dX8_feed_47 : decode cX8_feed 47 = .ok (.aload_n 0, 1) := by decide +kernel
theorem dX8_feed_48 : decode cX8_feed 48 = .ok (.getfield 10, 3) := by decide +kernel
theorem dX8_feed_51 : decode cX8_feed 51 = .ok (.iload 4, 2) := by decide +kernel
theorem dX8_feed_53 : decode cX8_feed 53 = .ok (.invokevirtual 79, 3) := by decide +kernel
theorem dX8_feed_56 : decode cX8_feed 56 = .ok (.aload_n 0, 1) := by decide +kernel
theorem dX8_feed_57 : decode cX8_feed 57 = .ok (.getfield 10, 3) := by decide +kernel
theorem dX8_feed_60 : decode cX8_feed 60 = .ok (.iload 5, 2) := by decide +kernel
theorem dX8_feed_62 : decode cX8_feed 62 = .ok (.invokevirtual 79, 3) := by decide +kernel
theorem dX8_feed_65 : decode cX8_feed 65 = .ok (.aload_n 0, 1) := by decide +kernel
theorem dX8_feed_66 : decode cX8_feed 66 = .ok (.getfield 10, 3) := by decide +kernel
theorem dX8_feed_69 : decode cX8_feed 69 = .ok (.getfield 69, 3) := by decide +kernel
theorem dX8_feed_72 : decode cX8_feed 72 = .ok (.ireturn, 1) := by decide +kernel
theorem dX8_trim_0 : decode cX8_trim 0 = .ok (.iload_n 1, 1) := by decide +kernel
theorem dX8_trim_1 : decode cX8_trim 1 = .ok (.ifCond .lt 14, 3) := by decide +kernel
theorem dX8_trim_4 : decode cX8_trim 4 = .ok (.iload_n 1, 1) := by decide +kernel
theorem dX8_trim_5 : decode cX8_trim 5 = .ok (.aload_n 0, 1) := by decide +kernel
theorem dX8_trim_6 : decode cX8_trim 6 = .ok (.getfield 10, 3) := by decide +kernel
theorem dX8_trim_9 : decode cX8_trim 9 = .ok (.getfield 69, 3) := by decide +kernel
theorem dX8_trim_12 : decode cX8_trim 12 = .ok (.if_icmp .le 13, 3) := by decide +kernel
theorem dX8_trim_15 : decode cX8_trim 15 = .ok (.new 83, 3) := by decide +kernel
theorem dX8_trim_18 : decode cX8_trim 18 = .ok (.dup, 1) := by decide +kernel
theorem dX8_trim_19 : decode cX8_trim 19 = .ok (.ldc 85, 2) := by decide +kernel
theorem dX8_trim_21 : decode cX8_trim 21 = .ok (.invokespecial 87, 3) := by decide +kernel
theorem dX8_trim_24 : decode cX8_trim 24 = .ok (.athrow, 1) := by decide +kernel
theorem dX8_trim_25 : decode cX8_trim 25 = .ok (.aload_n 0, 1) := by decide +kernel
theorem dX8_trim_26 : decode cX8_trim 26 = .ok (.getfield 10, 3) := by decide +kernel
theorem dX8_trim_29 : decode cX8_trim 29 = .ok (.iload_n 1, 1) := by decide +kernel
theorem dX8_trim_30 : decode cX8_trim 30 = .ok (.putfield 69, 3) := by decide +kernel
theorem dX8_trim_33 : decode cX8_trim 33 = .ok (.iload_n 1, 1) := by decide +kernel
theorem dX8_trim_34 : decode cX8_trim 34 = .ok (.ireturn, 1) := by decide +kernel
theorem dX8_teach_0 : decode cX8_teach 0 = .ok (.aload_n 0, 1) := by decide +kernel
theorem dX8_teach_1 : decode cX8_teach 1 = .ok (.getfield 21, 3) := by decide +kernel
theorem dX8_teach_4 : decode cX8_teach 4 = .ok (.invokevirtual 88, 3) := by decide +kernel
theorem dX8_teach_7 : decode cX8_teach 7 = .ok (.iconst 1, 1) := by decide +kernel
theorem dX8_teach_8 : decode cX8_teach 8 = .ok (.istore_n 1, 1) := by decide +kernel
theorem dX8_teach_9 : decode cX8_teach 9 = .ok (.aload_n 0, 1) := by decide +kernel
theorem dX8_teach_10 : decode cX8_teach 10 = .ok (.getfield 37, 3) := by decide +kernel
theorem dX8_teach_13 : decode cX8_teach 13 = .ok (.invokevirtual 91, 3) := by decide +kernel
theorem dX8_teach_16 : decode cX8_teach 16 = .ok (.istore_n 2, 1) := by decide +kernel
theorem dX8_teach_17 : decode cX8_teach 17 = .ok (.iload_n 2, 1) := by decide +kernel
theorem dX8_teach_18 : decode cX8_teach 18 = .ok (.ifCond .ge 19, 3) := by decide +kernel
theorem dX8_teach_21 : decode cX8_teach 21 = .ok (.aload_n 0, 1) := by decide +kernel
theorem dX8_teach_22 : decode cX8_teach 22 = .ok (.getfield 46, 3) := by decide +kernel
theorem dX8_teach_25 : decode cX8_teach 25 = .ok (.invokevirtual 95, 3) := by decide +kernel
theorem dX8_teach_28 : decode cX8_teach 28 = .ok (.istore_n 2, 1) := by decide +kernel
theorem dX8_teach_29 : decode cX8_teach 29 = .ok (.aload_n 0, 1) := by decide +kernel
theorem dX8_teach_30 : decode cX8_teach 30 = .ok (.getfield 46, 3) := by decide +kernel
theorem dX8_teach_33 : decode cX8_teach 33 = .ok (.getfield 98, 3) := by decide +kernel
theorem dX8_teach_36 : decode cX8_teach 36 = .ok (.istore_n 1, 1) := by decide +kernel
theorem dX8_teach_37 : decode cX8_teach 37 = .ok (.aload_n 0, 1) := by decide +kernel
theorem dX8_teach_38 : decode cX8_teach 38 = .ok (.iload_n 2, 1) := by decide +kernel
theorem dX8_teach_39 : decode cX8_teach 39 = .ok (.ifCond .ge 7, 3) := by decide +kernel
theorem dX8_teach_42 : decode cX8_teach 42 = .ok (.iconst (-1), 1) := by decide +kernel
theorem dX8_teach_43 : decode cX8_teach 43 = .ok (.goto 11, 3) := by decide +kernel
theorem dX8_teach_46 : decode cX8_teach 46 = .ok (.aload_n 0, 1) := by decide +kernel
theorem dX8_teach_47 : decode cX8_teach 47 = .ok (.getfield 21, 3) := by decide +kernel
theorem dX8_teach_50 : decode cX8_teach 50 = .ok (.iload_n 2, 1) := by decide +kernel
theorem dX8_teach_51 : decode cX8_teach 51 = .ok (.invokevirtual 101, 3) := by decide +kernel
theorem dX8_teach_54 : decode cX8_teach 54 = .ok (.putfield 65, 3) := by decide +kernel
theorem dX8_teach_57 : decode cX8_teach 57 = .ok (.aload_n 0, 1) := by decide +kernel
theorem dX8_teach_58 : decode cX8_teach 58 = .ok (.getfield 10, 3) := by decide +kernel
theorem dX8_teach_61 : decode cX8_teach 61 = .ok (.iconst 0, 1) := by decide +kernel
theorem dX8_teach_62 : decode cX8_teach 62 = .ok (.putfield 69, 3) := by decide +kernel
theorem dX8_teach_65 : decode cX8_teach 65 = .ok (.iload_n 2, 1) := by decide +kernel
theorem dX8_teach_66 : decode cX8_teach 66 = .ok (.ifCond .lt 5, 3) := by decide +kernel
theorem dX8_teach_69 : decode cX8_teach 69 = .ok (.iload_n 1, 1) := by decide +kernel
theorem dX8_teach_70 : decode cX8_teach 70 = .ok (.ireturn, 1) := by decide +kernel
theorem dX8_teach_71 : decode cX8_teach 71 = .ok (.aload_n 0, 1) := by decide +kernel
theorem dX8_teach_72 : decode cX8_teach 72 = .ok (.getfield 50, 3) := by decide +kernel
theorem dX8_teach_75 : decode cX8_teach 75 = .ok (.aload_n 0, 1) := by decide +kernel
theorem dX8_teach_76 : decode cX8_teach 76 = .ok (.getfield 28, 3) := by decide +kernel
theorem dX8_teach_79 : decode cX8_teach 79 = .ok (.aload_n 0, 1) := by decide +kernel
theorem dX8_teach_80 : decode cX8_teach 80 = .ok (.getfield 21, 3) := by decide +kernel
theorem dX8_teach_83 : decode cX8_teach 83 = .ok (.invokevirtual 105, 3) := by decide +kernel
theorem dX8_teach_86 : decode cX8_teach 86 = .ok (.aload_n 0, 1) := by decide +kernel
theorem dX8_teach_87 : decode cX8_teach 87 = .ok (.getfield 58, 3) := by decide +kernel
theorem dX8_teach_90 : decode cX8_teach 90 = .ok (.invokevirtual 109, 3) := by decide +kernel
theorem dX8_teach_93 : decode cX8_teach 93 = .ok (.iconst 0, 1) := by decide +kernel
theorem dX8_teach_94 : decode cX8_teach 94 = .ok (.ireturn, 1) := by decide +kernel
theorem dX8_mirrors_0 : decode cX8_mirrors 0 = .ok (.aload_n 0, 1) := by decide +kernel
theorem dX8_mirrors_1 : decode cX8_mirrors 1 = .ok (.getfield 58, 3) := by decide +kernel
theorem dX8_mirrors_4 : decode cX8_mirrors 4 = .ok (.getfield 112, 3) := by decide +kernel
theorem dX8_mirrors_7 : decode cX8_mirrors 7 = .ok (.getfield 116, 3) := by decide +kernel
theorem dX8_mirrors_10 : decode cX8_mirrors 10 = .ok (.ireturn, 1) := by decide +kernel
theorem dX8_orders_0 : decode cX8_orders 0 = .ok (.aload_n 0, 1) := by decide +kernel
theorem dX8_orders_1 : decode cX8_orders 1 = .ok (.getfield 50, 3) := by decide +kernel
theorem dX8_orders_4 : decode cX8_orders 4 = .ok (.getfield 121, 3) := by decide +kernel
theorem dX8_orders_7 : decode cX8_orders 7 = .ok (.ireturn, 1) := by decide +kernel
theorem dX8_minutes_0 : decode cX8_minutes 0 = .ok (.aload_n 0, 1) := by decide +kernel
theorem dX8_minutes_1 : decode cX8_minutes 1 = .ok (.getfield 58, 3) := by decide +kernel
theorem dX8_minutes_4 : decode cX8_minutes 4 = .ok (.getfield 124, 3) := by decide +kernel
theorem dX8_minutes_7 : decode cX8_minutes 7 = .ok (.ireturn, 1) := by decide +kernel
theorem dX8_tapeBytes_0 : decode cX8_tapeBytes 0 = .ok (.aload_n 0, 1) := by decide +kernel
theorem dX8_tapeBytes_1 : decode cX8_tapeBytes 1 = .ok (.getfield 10, 3) := by decide +kernel
theorem dX8_tapeBytes_4 : decode cX8_tapeBytes 4 = .ok (.getfield 69, 3) := by decide +kernel
theorem dX8_tapeBytes_7 : decode cX8_tapeBytes 7 = .ok (.ireturn, 1) := by decide +kernel
theorem dX8_lightAtEnd_0 : decode cX8_lightAtEnd 0 = .ok (.aload_n 0, 1) := by decide +kernel
theorem dX8_lightAtEnd_1 : decode cX8_lightAtEnd 1 = .ok (.getfield 58, 3) := by decide +kernel
theorem dX8_lightAtEnd_4 : decode cX8_lightAtEnd 4 = .ok (.getfield 112, 3) := by decide +kernel
theorem dX8_lightAtEnd_7 : decode cX8_lightAtEnd 7 = .ok (.invokevirtual 127, 3) := by decide +kernel
theorem dX8_lightAtEnd_10 : decode cX8_lightAtEnd 10 = .ok (.ireturn, 1) := by decide +kernel
theorem dX8_tiltAtEnd_0 : decode cX8_tiltAtEnd 0 = .ok (.aload_n 0, 1) := by decide +kernel
theorem dX8_tiltAtEnd_1 : decode cX8_tiltAtEnd 1 = .ok (.getfield 58, 3) := by decide +kernel
theorem dX8_tiltAtEnd_4 : decode cX8_tiltAtEnd 4 = .ok (.getfield 112, 3) := by decide +kernel
theorem dX8_tiltAtEnd_7 : decode cX8_tiltAtEnd 7 = .ok (.invokevirtual 130, 3) := by decide +kernel
theorem dX8_tiltAtEnd_10 : decode cX8_tiltAtEnd 10 = .ok (.ireturn, 1) := by decide +kernel
theorem dX8_isSeen_0 : decode cX8_isSeen 0 = .ok (.aload_n 0, 1) := by decide +kernel
theorem dX8_isSeen_1 : decode cX8_isSeen 1 = .ok (.getfield 58, 3) := by decide +kernel
theorem dX8_isSeen_4 : decode cX8_isSeen 4 = .ok (.getfield 112, 3) := by decide +kernel
theorem dX8_isSeen_7 : decode cX8_isSeen 7 = .ok (.invokevirtual 133, 3) := by decide +kernel
theorem dX8_isSeen_10 : decode cX8_isSeen 10 = .ok (.ireturn, 1) := by decide +kernel
theorem dX8_worstMirror_0 : decode cX8_worstMirror 0 = .ok (.aload_n 0, 1) := by decide +kernel
theorem dX8_worstMirror_1 : decode cX8_worstMirror 1 = .ok (.getfield 58, 3) := by decide +kernel
theorem dX8_worstMirror_4 : decode cX8_worstMirror 4 = .ok (.getfield 112, 3) := by decide +kernel
theorem dX8_worstMirror_7 : decode cX8_worstMirror 7 = .ok (.getfield 116, 3) := by decide +kernel
theorem dX8_worstMirror_10 : decode cX8_worstMirror 10 = .ok (.ifCond .ne 13, 3) := by decide +kernel
theorem dX8_worstMirror_13 : decode cX8_worstMirror 13 = .ok (.new 72, 3) := by decide +kernel
theorem dX8_worstMirror_16 : decode cX8_worstMirror 16 = .ok (.dup, 1) := by decide +kernel
theorem dX8_worstMirror_17 : decode cX8_worstMirror 17 = .ok (.ldc 137, 2) := by decide +kernel
theorem dX8_worstMirror_19 : decode cX8_worstMirror 19 = .ok (.invokespecial 76, 3) := by decide +kernel
theorem dX8_worstMirror_22 : decode cX8_worstMirror 22 = .ok (.athrow, 1) := by decide +kernel
theorem dX8_worstMirror_23 : decode cX8_worstMirror 23 = .ok (.aload_n 0, 1) := by decide +kernel
theorem dX8_worstMirror_24 : decode cX8_worstMirror 24 = .ok (.getfield 58, 3) := by decide +kernel
theorem dX8_worstMirror_27 : decode cX8_worstMirror 27 = .ok (.getfield 112, 3) := by decide +kernel
theorem dX8_worstMirror_30 : decode cX8_worstMirror 30 = .ok (.invokevirtual 139, 3) := by decide +kernel
theorem dX8_worstMirror_33 : decode cX8_worstMirror 33 = .ok (.ireturn, 1) := by decide +kernel
theorem dX8_clarityOf_0 : decode cX8_clarityOf 0 = .ok (.aload_n 0, 1) := by decide +kernel
theorem dX8_clarityOf_1 : decode cX8_clarityOf 1 = .ok (.iload_n 1, 1) := by decide +kernel
theorem dX8_clarityOf_2 : decode cX8_clarityOf 2 = .ok (.invokevirtual 142, 3) := by decide +kernel
theorem dX8_clarityOf_5 : decode cX8_clarityOf 5 = .ok (.aload_n 0, 1) := by decide +kernel
theorem dX8_clarityOf_6 : decode cX8_clarityOf 6 = .ok (.getfield 58, 3) := by decide +kernel
theorem dX8_clarityOf_9 : decode cX8_clarityOf 9 = .ok (.getfield 112, 3) := by decide +kernel
theorem dX8_clarityOf_12 : decode cX8_clarityOf 12 = .ok (.sipush 129, 3) := by decide +kernel
theorem dX8_clarityOf_15 : decode cX8_clarityOf 15 = .ok (.iload_n 1, 1) := by decide +kernel
theorem dX8_clarityOf_16 : decode cX8_clarityOf 16 = .ok (.invokevirtual 145, 3) := by decide +kernel
theorem dX8_clarityOf_19 : decode cX8_clarityOf 19 = .ok (.ireturn, 1) := by decide +kernel
theorem dX8_bestClarityOf_0 : decode cX8_bestClarityOf 0 = .ok (.aload_n 0, 1) := by decide +kernel
theorem dX8_bestClarityOf_1 : decode cX8_bestClarityOf 1 = .ok (.iload_n 1, 1) := by decide +kernel
theorem dX8_bestClarityOf_2 : decode cX8_bestClarityOf 2 = .ok (.invokevirtual 142, 3) := by decide +kernel
theorem dX8_bestClarityOf_5 : decode cX8_bestClarityOf 5 = .ok (.aload_n 0, 1) := by decide +kernel
theorem dX8_bestClarityOf_6 : decode cX8_bestClarityOf 6 = .ok (.getfield 58, 3) := by decide +kernel
theorem dX8_bestClarityOf_9 : decode cX8_bestClarityOf 9 = .ok (.getfield 112, 3) := by decide +kernel
theorem dX8_bestClarityOf_12 : decode cX8_bestClarityOf 12 = .ok (.sipush 145, 3) := by decide +kernel
theorem dX8_bestClarityOf_15 : decode cX8_bestClarityOf 15 = .ok (.iload_n 1, 1) := by decide +kernel
theorem dX8_bestClarityOf_16 : decode cX8_bestClarityOf 16 = .ok (.invokevirtual 145, 3) := by decide +kernel
theorem dX8_bestClarityOf_19 : decode cX8_bestClarityOf 19 = .ok (.ireturn, 1) := by decide +kernel
theorem dX8_offsetOf_0 : decode cX8_offsetOf 0 = .ok (.aload_n 0, 1) := by decide +kernel
theorem dX8_offsetOf_1 : decode cX8_offsetOf 1 = .ok (.iload_n 1, 1) := by decide +kernel
theorem dX8_offsetOf_2 : decode cX8_offsetOf 2 = .ok (.invokevirtual 142, 3) := by decide +kernel
theorem dX8_offsetOf_5 : decode cX8_offsetOf 5 = .ok (.aload_n 0, 1) := by decide +kernel
theorem dX8_offsetOf_6 : decode cX8_offsetOf 6 = .ok (.getfield 58, 3) := by decide +kernel
theorem dX8_offsetOf_9 : decode cX8_offsetOf 9 = .ok (.getfield 112, 3) := by decide +kernel
theorem dX8_offsetOf_12 : decode cX8_offsetOf 12 = .ok (.sipush 130, 3) := by decide +kernel
theorem dX8_offsetOf_15 : decode cX8_offsetOf 15 = .ok (.iload_n 1, 1) := by decide +kernel
theorem dX8_offsetOf_16 : decode cX8_offsetOf 16 = .ok (.invokevirtual 145, 3) := by decide +kernel
theorem dX8_offsetOf_19 : decode cX8_offsetOf 19 = .ok (.ireturn, 1) := by decide +kernel
theorem dX8_placeOf_0 : decode cX8_placeOf 0 = .ok (.aload_n 0, 1) := by decide +kernel
theorem dX8_placeOf_1 : decode cX8_placeOf 1 = .ok (.iload_n 1, 1) := by decide +kernel
theorem dX8_placeOf_2 : decode cX8_placeOf 2 = .ok (.invokevirtual 142, 3) := by decide +kernel
theorem dX8_placeOf_5 : decode cX8_placeOf 5 = .ok (.aload_n 0, 1) := by decide +kernel
theorem dX8_placeOf_6 : decode cX8_placeOf 6 = .ok (.getfield 58, 3) := by decide +kernel
theorem dX8_placeOf_9 : decode cX8_placeOf 9 = .ok (.getfield 112, 3) := by decide +kernel
theorem dX8_placeOf_12 : decode cX8_placeOf 12 = .ok (.iload_n 1, 1) := by decide +kernel
theorem dX8_placeOf_13 : decode cX8_placeOf 13 = .ok (.invokevirtual 149, 3) := by decide +kernel
theorem dX8_placeOf_16 : decode cX8_placeOf 16 = .ok (.ireturn, 1) := by decide +kernel
theorem dX8_lightBehind_0 : decode cX8_lightBehind 0 = .ok (.aload_n 0, 1) := by decide +kernel
theorem dX8_lightBehind_1 : decode cX8_lightBehind 1 = .ok (.iload_n 1, 1) := by decide +kernel
theorem dX8_lightBehind_2 : decode cX8_lightBehind 2 = .ok (.invokevirtual 142, 3) := by decide +kernel
theorem dX8_lightBehind_5 : decode cX8_lightBehind 5 = .ok (.aload_n 0, 1) := by decide +kernel
theorem dX8_lightBehind_6 : decode cX8_lightBehind 6 = .ok (.getfield 58, 3) := by decide +kernel
theorem dX8_lightBehind_9 : decode cX8_lightBehind 9 = .ok (.getfield 112, 3) := by decide +kernel
theorem dX8_lightBehind_12 : decode cX8_lightBehind 12 = .ok (.sipush 141, 3) := by decide +kernel
theorem dX8_lightBehind_15 : decode cX8_lightBehind 15 = .ok (.iload_n 1, 1) := by decide +kernel
theorem dX8_lightBehind_16 : decode cX8_lightBehind 16 = .ok (.invokevirtual 145, 3) := by decide +kernel
theorem dX8_lightBehind_19 : decode cX8_lightBehind 19 = .ok (.ireturn, 1) := by decide +kernel
theorem dX8_lostAt_0 : decode cX8_lostAt 0 = .ok (.aload_n 0, 1) := by decide +kernel
theorem dX8_lostAt_1 : decode cX8_lostAt 1 = .ok (.iload_n 1, 1) := by decide +kernel
theorem dX8_lostAt_2 : decode cX8_lostAt 2 = .ok (.invokevirtual 142, 3) := by decide +kernel
theorem dX8_lostAt_5 : decode cX8_lostAt 5 = .ok (.aload_n 0, 1) := by decide +kernel
theorem dX8_lostAt_6 : decode cX8_lostAt 6 = .ok (.getfield 58, 3) := by decide +kernel
theorem dX8_lostAt_9 : decode cX8_lostAt 9 = .ok (.getfield 112, 3) := by decide +kernel
theorem dX8_lostAt_12 : decode cX8_lostAt 12 = .ok (.sipush 143, 3) := by decide +kernel
theorem dX8_lostAt_15 : decode cX8_lostAt 15 = .ok (.iload_n 1, 1) := by decide +kernel
theorem dX8_lostAt_16 : decode cX8_lostAt 16 = .ok (.invokevirtual 145, 3) := by decide +kernel
theorem dX8_lostAt_19 : decode cX8_lostAt 19 = .ok (.ireturn, 1) := by decide +kernel
theorem dX8_tiltBehind_0 : decode cX8_tiltBehind 0 = .ok (.aload_n 0, 1) := by decide +kernel
theorem dX8_tiltBehind_1 : decode cX8_tiltBehind 1 = .ok (.iload_n 1, 1) := by decide +kernel
theorem dX8_tiltBehind_2 : decode cX8_tiltBehind 2 = .ok (.invokevirtual 142, 3) := by decide +kernel
theorem dX8_tiltBehind_5 : decode cX8_tiltBehind 5 = .ok (.aload_n 0, 1) := by decide +kernel
theorem dX8_tiltBehind_6 : decode cX8_tiltBehind 6 = .ok (.getfield 58, 3) := by decide +kernel
theorem dX8_tiltBehind_9 : decode cX8_tiltBehind 9 = .ok (.getfield 112, 3) := by decide +kernel
theorem dX8_tiltBehind_12 : decode cX8_tiltBehind 12 = .ok (.sipush 144, 3) := by decide +kernel
theorem dX8_tiltBehind_15 : decode cX8_tiltBehind 15 = .ok (.iload_n 1, 1) := by decide +kernel
theorem dX8_tiltBehind_16 : decode cX8_tiltBehind 16 = .ok (.invokevirtual 145, 3) := by decide +kernel
theorem dX8_tiltBehind_19 : decode cX8_tiltBehind 19 = .ok (.ireturn, 1) := by decide +kernel
theorem dX8_isCovered_0 : decode cX8_isCovered 0 = .ok (.aload_n 0, 1) := by decide +kernel
theorem dX8_isCovered_1 : decode cX8_isCovered 1 = .ok (.iload_n 1, 1) := by decide +kernel
theorem dX8_isCovered_2 : decode cX8_isCovered 2 = .ok (.invokevirtual 142, 3) := by decide +kernel
theorem dX8_isCovered_5 : decode cX8_isCovered 5 = .ok (.aload_n 0, 1) := by decide +kernel
theorem dX8_isCovered_6 : decode cX8_isCovered 6 = .ok (.getfield 58, 3) := by decide +kernel
theorem dX8_isCovered_9 : decode cX8_isCovered 9 = .ok (.getfield 112, 3) := by decide +kernel
theorem dX8_isCovered_12 : decode cX8_isCovered 12 = .ok (.getfield 152, 3) := by decide +kernel
theorem dX8_isCovered_15 : decode cX8_isCovered 15 = .ok (.iload_n 1, 1) := by decide +kernel
theorem dX8_isCovered_16 : decode cX8_isCovered 16 = .ok (.if_icmp .ne 7, 3) := by decide +kernel
theorem dX8_isCovered_19 : decode cX8_isCovered 19 = .ok (.iconst 1, 1) := by decide +kernel
theorem dX8_isCovered_20 : decode cX8_isCovered 20 = .ok (.goto 4, 3) := by decide +kernel
theorem dX8_isCovered_23 : decode cX8_isCovered 23 = .ok (.iconst 0, 1) := by decide +kernel
theorem dX8_isCovered_24 : decode cX8_isCovered 24 = .ok (.ireturn, 1) := by decide +kernel
theorem dX8_mirrorAt_0 : decode cX8_mirrorAt 0 = .ok (.iload_n 1, 1) := by decide +kernel
theorem dX8_mirrorAt_1 : decode cX8_mirrorAt 1 = .ok (.ifCond .lt 17, 3) := by decide +kernel
theorem dX8_mirrorAt_4 : decode cX8_mirrorAt 4 = .ok (.iload_n 1, 1) := by decide +kernel
theorem dX8_mirrorAt_5 : decode cX8_mirrorAt 5 = .ok (.aload_n 0, 1) := by decide +kernel
theorem dX8_mirrorAt_6 : decode cX8_mirrorAt 6 = .ok (.getfield 58, 3) := by decide +kernel
theorem dX8_mirrorAt_9 : decode cX8_mirrorAt 9 = .ok (.getfield 112, 3) := by decide +kernel
theorem dX8_mirrorAt_12 : decode cX8_mirrorAt 12 = .ok (.getfield 116, 3) := by decide +kernel
theorem dX8_mirrorAt_15 : decode cX8_mirrorAt 15 = .ok (.if_icmp .lt 13, 3) := by decide +kernel
theorem dX8_mirrorAt_18 : decode cX8_mirrorAt 18 = .ok (.new 155, 3) := by decide +kernel
theorem dX8_mirrorAt_21 : decode cX8_mirrorAt 21 = .ok (.dup, 1) := by decide +kernel
theorem dX8_mirrorAt_22 : decode cX8_mirrorAt 22 = .ok (.ldc 157, 2) := by decide +kernel
theorem dX8_mirrorAt_24 : decode cX8_mirrorAt 24 = .ok (.invokespecial 159, 3) := by decide +kernel
theorem dX8_mirrorAt_27 : decode cX8_mirrorAt 27 = .ok (.athrow, 1) := by decide +kernel
theorem dX8_mirrorAt_28 : decode cX8_mirrorAt 28 = .ok (.aload_n 0, 1) := by decide +kernel
theorem dX8_mirrorAt_29 : decode cX8_mirrorAt 29 = .ok (.getfield 58, 3) := by decide +kernel
theorem dX8_mirrorAt_32 : decode cX8_mirrorAt 32 = .ok (.getfield 112, 3) := by decide +kernel
theorem dX8_mirrorAt_35 : decode cX8_mirrorAt 35 = .ok (.iload_n 1, 1) := by decide +kernel
theorem dX8_mirrorAt_36 : decode cX8_mirrorAt 36 = .ok (.invokevirtual 160, 3) := by decide +kernel
theorem dX8_mirrorAt_39 : decode cX8_mirrorAt 39 = .ok (.ireturn, 1) := by decide +kernel
theorem dX8_jobs_0 : decode cX8_jobs 0 = .ok (.aload_n 0, 1) := by decide +kernel
theorem dX8_jobs_1 : decode cX8_jobs 1 = .ok (.getfield 58, 3) := by decide +kernel
theorem dX8_jobs_4 : decode cX8_jobs 4 = .ok (.getfield 163, 3) := by decide +kernel
theorem dX8_jobs_7 : decode cX8_jobs 7 = .ok (.getfield 167, 3) := by decide +kernel
theorem dX8_jobs_10 : decode cX8_jobs 10 = .ok (.ireturn, 1) := by decide +kernel
theorem dX8_jobsDone_0 : decode cX8_jobsDone 0 = .ok (.aload_n 0, 1) := by decide +kernel
theorem dX8_jobsDone_1 : decode cX8_jobsDone 1 = .ok (.getfield 58, 3) := by decide +kernel
theorem dX8_jobsDone_4 : decode cX8_jobsDone 4 = .ok (.getfield 163, 3) := by decide +kernel
theorem dX8_jobsDone_7 : decode cX8_jobsDone 7 = .ok (.getfield 172, 3) := by decide +kernel
theorem dX8_jobsDone_10 : decode cX8_jobsDone 10 = .ok (.ireturn, 1) := by decide +kernel
theorem dX8_kindOfJob_0 : decode cX8_kindOfJob 0 = .ok (.aload_n 0, 1) := by decide +kernel
theorem dX8_kindOfJob_1 : decode cX8_kindOfJob 1 = .ok (.iload_n 1, 1) := by decide +kernel
theorem dX8_kindOfJob_2 : decode cX8_kindOfJob 2 = .ok (.invokevirtual 175, 3) := by decide +kernel
theorem dX8_kindOfJob_5 : decode cX8_kindOfJob 5 = .ok (.aload_n 0, 1) := by decide +kernel
theorem dX8_kindOfJob_6 : decode cX8_kindOfJob 6 = .ok (.getfield 58, 3) := by decide +kernel
theorem dX8_kindOfJob_9 : decode cX8_kindOfJob 9 = .ok (.getfield 163, 3) := by decide +kernel
theorem dX8_kindOfJob_12 : decode cX8_kindOfJob 12 = .ok (.iload_n 1, 1) := by decide +kernel
theorem dX8_kindOfJob_13 : decode cX8_kindOfJob 13 = .ok (.invokevirtual 178, 3) := by decide +kernel
theorem dX8_kindOfJob_16 : decode cX8_kindOfJob 16 = .ok (.ireturn, 1) := by decide +kernel
theorem dX8_mirrorOfJob_0 : decode cX8_mirrorOfJob 0 = .ok (.aload_n 0, 1) := by decide +kernel
theorem dX8_mirrorOfJob_1 : decode cX8_mirrorOfJob 1 = .ok (.iload_n 1, 1) := by decide +kernel
theorem dX8_mirrorOfJob_2 : decode cX8_mirrorOfJob 2 = .ok (.invokevirtual 175, 3) := by decide +kernel
theorem dX8_mirrorOfJob_5 : decode cX8_mirrorOfJob 5 = .ok (.aload_n 0, 1) := by decide +kernel
theorem dX8_mirrorOfJob_6 : decode cX8_mirrorOfJob 6 = .ok (.getfield 58, 3) := by decide +kernel
theorem dX8_mirrorOfJob_9 : decode cX8_mirrorOfJob 9 = .ok (.getfield 163, 3) := by decide +kernel
theorem dX8_mirrorOfJob_12 : decode cX8_mirrorOfJob 12 = .ok (.iload_n 1, 1) := by decide +kernel
theorem dX8_mirrorOfJob_13 : decode cX8_mirrorOfJob 13 = .ok (.invokevirtual 181, 3) := by decide +kernel
theorem dX8_mirrorOfJob_16 : decode cX8_mirrorOfJob 16 = .ok (.ireturn, 1) := by decide +kernel
theorem dX8_minutesToGo_0 : decode cX8_minutesToGo 0 = .ok (.aload_n 0, 1) := by decide +kernel
theorem dX8_minutesToGo_1 : decode cX8_minutesToGo 1 = .ok (.getfield 58, 3) := by decide +kernel
theorem dX8_minutesToGo_4 : decode cX8_minutesToGo 4 = .ok (.getfield 163, 3) := by decide +kernel
theorem dX8_minutesToGo_7 : decode cX8_minutesToGo 7 = .ok (.getfield 182, 3) := by decide +kernel
theorem dX8_minutesToGo_10 : decode cX8_minutesToGo 10 = .ok (.ireturn, 1) := by decide +kernel
theorem dX8_orderJob_0 : decode cX8_orderJob 0 = .ok (.aload_n 0, 1) := by decide +kernel
theorem dX8_orderJob_1 : decode cX8_orderJob 1 = .ok (.iload_n 1, 1) := by decide +kernel
theorem dX8_orderJob_2 : decode cX8_orderJob 2 = .ok (.invokevirtual 142, 3) := by decide +kernel
theorem dX8_orderJob_5 : decode cX8_orderJob 5 = .ok (.iload_n 2, 1) := by decide +kernel
theorem dX8_orderJob_6 : decode cX8_orderJob 6 = .ok (.ifCond .lt 8, 3) := by decide +kernel
theorem dX8_orderJob_9 : decode cX8_orderJob 9 = .ok (.iload_n 2, 1) := by decide +kernel
theorem dX8_orderJob_10 : decode cX8_orderJob 10 = .ok (.iconst 2, 1) := by decide +kernel
theorem dX8_orderJob_11 : decode cX8_orderJob 11 = .ok (.if_icmp .le 13, 3) := by decide +kernel
theorem dX8_orderJob_14 : decode cX8_orderJob 14 = .ok (.new 83, 3) := by decide +kernel
theorem dX8_orderJob_17 : decode cX8_orderJob 17 = .ok (.dup, 1) := by decide +kernel
theorem dX8_orderJob_18 : decode cX8_orderJob 18 = .ok (.ldc 185, 2) := by decide +kernel
theorem dX8_orderJob_20 : decode cX8_orderJob 20 = .ok (.invokespecial 87, 3) := by decide +kernel
theorem dX8_orderJob_23 : decode cX8_orderJob 23 = .ok (.athrow, 1) := by decide +kernel
theorem dX8_orderJob_24 : decode cX8_orderJob 24 = .ok (.aload_n 0, 1) := by decide +kernel
theorem dX8_orderJob_25 : decode cX8_orderJob 25 = .ok (.getfield 58, 3) := by decide +kernel
theorem dX8_orderJob_28 : decode cX8_orderJob 28 = .ok (.getfield 163, 3) := by decide +kernel
theorem dX8_orderJob_31 : decode cX8_orderJob 31 = .ok (.iload_n 2, 1) := by decide +kernel
theorem dX8_orderJob_32 : decode cX8_orderJob 32 = .ok (.iload_n 1, 1) := by decide +kernel
theorem dX8_orderJob_33 : decode cX8_orderJob 33 = .ok (.invokevirtual 187, 3) := by decide +kernel
theorem dX8_orderJob_36 : decode cX8_orderJob 36 = .ok (.ifCond .ne 13, 3) := by decide +kernel
theorem dX8_orderJob_39 : decode cX8_orderJob 39 = .ok (.new 72, 3) := by decide +kernel
theorem dX8_orderJob_42 : decode cX8_orderJob 42 = .ok (.dup, 1) := by decide +kernel
theorem dX8_orderJob_43 : decode cX8_orderJob 43 = .ok (.ldc 191, 2) := by decide +kernel
theorem dX8_orderJob_45 : decode cX8_orderJob 45 = .ok (.invokespecial 76, 3) := by decide +kernel
theorem dX8_orderJob_48 : decode cX8_orderJob 48 = .ok (.athrow, 1) := by decide +kernel
theorem dX8_orderJob_49 : decode cX8_orderJob 49 = .ok (.aload_n 0, 1) := by decide +kernel
theorem dX8_orderJob_50 : decode cX8_orderJob 50 = .ok (.getfield 58, 3) := by decide +kernel
theorem dX8_orderJob_53 : decode cX8_orderJob 53 = .ok (.getfield 163, 3) := by decide +kernel
theorem dX8_orderJob_56 : decode cX8_orderJob 56 = .ok (.iload_n 2, 1) := by decide +kernel
theorem dX8_orderJob_57 : decode cX8_orderJob 57 = .ok (.iload_n 1, 1) := by decide +kernel
theorem dX8_orderJob_58 : decode cX8_orderJob 58 = .ok (.invokevirtual 193, 3) := by decide +kernel
theorem dX8_orderJob_61 : decode cX8_orderJob 61 = .ok (.aload_n 0, 1) := by decide +kernel
theorem dX8_orderJob_62 : decode cX8_orderJob 62 = .ok (.getfield 58, 3) := by decide +kernel
theorem dX8_orderJob_65 : decode cX8_orderJob 65 = .ok (.getfield 163, 3) := by decide +kernel
theorem dX8_orderJob_68 : decode cX8_orderJob 68 = .ok (.getfield 167, 3) := by decide +kernel
theorem dX8_orderJob_71 : decode cX8_orderJob 71 = .ok (.ireturn, 1) := by decide +kernel
theorem dX8_cancelJob_0 : decode cX8_cancelJob 0 = .ok (.aload_n 0, 1) := by decide +kernel
theorem dX8_cancelJob_1 : decode cX8_cancelJob 1 = .ok (.iload_n 1, 1) := by decide +kernel
theorem dX8_cancelJob_2 : decode cX8_cancelJob 2 = .ok (.invokevirtual 175, 3) := by decide +kernel
theorem dX8_cancelJob_5 : decode cX8_cancelJob 5 = .ok (.aload_n 0, 1) := by decide +kernel
theorem dX8_cancelJob_6 : decode cX8_cancelJob 6 = .ok (.getfield 58, 3) := by decide +kernel
theorem dX8_cancelJob_9 : decode cX8_cancelJob 9 = .ok (.getfield 163, 3) := by decide +kernel
theorem dX8_cancelJob_12 : decode cX8_cancelJob 12 = .ok (.iload_n 1, 1) := by decide +kernel
theorem dX8_cancelJob_13 : decode cX8_cancelJob 13 = .ok (.invokevirtual 181, 3) := by decide +kernel
theorem dX8_cancelJob_16 : decode cX8_cancelJob 16 = .ok (.istore_n 2, 1) := by decide +kernel
theorem dX8_cancelJob_17 : decode cX8_cancelJob 17 = .ok (.aload_n 0, 1) := by decide +kernel
theorem dX8_cancelJob_18 : decode cX8_cancelJob 18 = .ok (.getfield 58, 3) := by decide +kernel
theorem dX8_cancelJob_21 : decode cX8_cancelJob 21 = .ok (.iload_n 1, 1) := by decide +kernel
theorem dX8_cancelJob_22 : decode cX8_cancelJob 22 = .ok (.invokevirtual 197, 3) := by decide +kernel
theorem dX8_cancelJob_25 : decode cX8_cancelJob 25 = .ok (.iload_n 2, 1) := by decide +kernel
theorem dX8_cancelJob_26 : decode cX8_cancelJob 26 = .ok (.ireturn, 1) := by decide +kernel
theorem dX8_turnMirror_0 : decode cX8_turnMirror 0 = .ok (.aload_n 0, 1) := by decide +kernel
theorem dX8_turnMirror_1 : decode cX8_turnMirror 1 = .ok (.iload_n 1, 1) := by decide +kernel
theorem dX8_turnMirror_2 : decode cX8_turnMirror 2 = .ok (.invokevirtual 142, 3) := by decide +kernel
theorem dX8_turnMirror_5 : decode cX8_turnMirror 5 = .ok (.iload_n 2, 1) := by decide +kernel
theorem dX8_turnMirror_6 : decode cX8_turnMirror 6 = .ok (.bipush (-90), 2) := by decide +kernel
theorem dX8_turnMirror_8 : decode cX8_turnMirror 8 = .ok (.if_icmp .lt 9, 3) := by decide +kernel
theorem dX8_turnMirror_11 : decode cX8_turnMirror 11 = .ok (.iload_n 2, 1) := by decide +kernel
theorem dX8_turnMirror_12 : decode cX8_turnMirror 12 = .ok (.bipush 90, 2) := by decide +kernel
theorem dX8_turnMirror_14 : decode cX8_turnMirror 14 = .ok (.if_icmp .le 13, 3) := by decide +kernel
theorem dX8_turnMirror_17 : decode cX8_turnMirror 17 = .ok (.new 83, 3) := by decide +kernel
theorem dX8_turnMirror_20 : decode cX8_turnMirror 20 = .ok (.dup, 1) := by decide +kernel
theorem dX8_turnMirror_21 : decode cX8_turnMirror 21 = .ok (.ldc 200, 2) := by decide +kernel
theorem dX8_turnMirror_23 : decode cX8_turnMirror 23 = .ok (.invokespecial 87, 3) := by decide +kernel
theorem dX8_turnMirror_26 : decode cX8_turnMirror 26 = .ok (.athrow, 1) := by decide +kernel
theorem dX8_turnMirror_27 : decode cX8_turnMirror 27 = .ok (.aload_n 0, 1) := by decide +kernel
theorem dX8_turnMirror_28 : decode cX8_turnMirror 28 = .ok (.getfield 58, 3) := by decide +kernel
theorem dX8_turnMirror_31 : decode cX8_turnMirror 31 = .ok (.getfield 112, 3) := by decide +kernel
theorem dX8_turnMirror_34 : decode cX8_turnMirror 34 = .ok (.sipush 130, 3) := by decide +kernel
theorem dX8_turnMirror_37 : decode cX8_turnMirror 37 = .ok (.iload_n 1, 1) := by decide +kernel
theorem dX8_turnMirror_38 : decode cX8_turnMirror 38 = .ok (.invokevirtual 145, 3) := by decide +kernel
theorem dX8_turnMirror_41 : decode cX8_turnMirror 41 = .ok (.istore_n 3, 1) := by decide +kernel
theorem dX8_turnMirror_42 : decode cX8_turnMirror 42 = .ok (.aload_n 0, 1) := by decide +kernel
theorem dX8_turnMirror_43 : decode cX8_turnMirror 43 = .ok (.getfield 58, 3) := by decide +kernel
theorem dX8_turnMirror_46 : decode cX8_turnMirror 46 = .ok (.getfield 112, 3) := by decide +kernel
theorem dX8_turnMirror_49 : decode cX8_turnMirror 49 = .ok (.iload_n 1, 1) := by decide +kernel
theorem dX8_turnMirror_50 : decode cX8_turnMirror 50 = .ok (.iload_n 2, 1) := by decide +kernel
theorem dX8_turnMirror_51 : decode cX8_turnMirror 51 = .ok (.invokevirtual 202, 3) := by decide +kernel
theorem dX8_turnMirror_54 : decode cX8_turnMirror 54 = .ok (.iload_n 3, 1) := by decide +kernel
theorem dX8_turnMirror_55 : decode cX8_turnMirror 55 = .ok (.ireturn, 1) := by decide +kernel
theorem dX8_dustMirror_0 : decode cX8_dustMirror 0 = .ok (.aload_n 0, 1) := by decide +kernel
theorem dX8_dustMirror_1 : decode cX8_dustMirror 1 = .ok (.iload_n 1, 1) := by decide +kernel
theorem dX8_dustMirror_2 : decode cX8_dustMirror 2 = .ok (.invokevirtual 142, 3) := by decide +kernel
theorem dX8_dustMirror_5 : decode cX8_dustMirror 5 = .ok (.iload_n 2, 1) := by decide +kernel
theorem dX8_dustMirror_6 : decode cX8_dustMirror 6 = .ok (.ifCond .lt 9, 3) := by decide +kernel
theorem dX8_dustMirror_9 : decode cX8_dustMirror 9 = .ok (.iload_n 2, 1) := by decide +kernel
theorem dX8_dustMirror_10 : decode cX8_dustMirror 10 = .ok (.bipush 100, 2) := by decide +kernel
theorem dX8_dustMirror_12 : decode cX8_dustMirror 12 = .ok (.if_icmp .le 13, 3) := by decide +kernel
theorem dX8_dustMirror_15 : decode cX8_dustMirror 15 = .ok (.new 83, 3) := by decide +kernel
theorem dX8_dustMirror_18 : decode cX8_dustMirror 18 = .ok (.dup, 1) := by decide +kernel
theorem dX8_dustMirror_19 : decode cX8_dustMirror 19 = .ok (.ldc 205, 2) := by decide +kernel
theorem dX8_dustMirror_21 : decode cX8_dustMirror 21 = .ok (.invokespecial 87, 3) := by decide +kernel
theorem dX8_dustMirror_24 : decode cX8_dustMirror 24 = .ok (.athrow, 1) := by decide +kernel
theorem dX8_dustMirror_25 : decode cX8_dustMirror 25 = .ok (.aload_n 0, 1) := by decide +kernel
theorem dX8_dustMirror_26 : decode cX8_dustMirror 26 = .ok (.getfield 58, 3) := by decide +kernel
theorem dX8_dustMirror_29 : decode cX8_dustMirror 29 = .ok (.getfield 112, 3) := by decide +kernel
theorem dX8_dustMirror_32 : decode cX8_dustMirror 32 = .ok (.iload_n 1, 1) := by decide +kernel
theorem dX8_dustMirror_33 : decode cX8_dustMirror 33 = .ok (.iload_n 2, 1) := by decide +kernel
theorem dX8_dustMirror_34 : decode cX8_dustMirror 34 = .ok (.bipush 100, 2) := by decide +kernel
theorem dX8_dustMirror_36 : decode cX8_dustMirror 36 = .ok (.invokevirtual 207, 3) := by decide +kernel
theorem dX8_dustMirror_39 : decode cX8_dustMirror 39 = .ok (.aload_n 0, 1) := by decide +kernel
theorem dX8_dustMirror_40 : decode cX8_dustMirror 40 = .ok (.getfield 58, 3) := by decide +kernel
theorem dX8_dustMirror_43 : decode cX8_dustMirror 43 = .ok (.getfield 112, 3) := by decide +kernel
theorem dX8_dustMirror_46 : decode cX8_dustMirror 46 = .ok (.sipush 129, 3) := by decide +kernel
theorem dX8_dustMirror_49 : decode cX8_dustMirror 49 = .ok (.iload_n 1, 1) := by decide +kernel
theorem dX8_dustMirror_50 : decode cX8_dustMirror 50 = .ok (.invokevirtual 145, 3) := by decide +kernel
theorem dX8_dustMirror_53 : decode cX8_dustMirror 53 = .ok (.ireturn, 1) := by decide +kernel
theorem dX8_moveMirror_0 : decode cX8_moveMirror 0 = .ok (.aload_n 0, 1) := by decide +kernel
theorem dX8_moveMirror_1 : decode cX8_moveMirror 1 = .ok (.iload_n 1, 1) := by decide +kernel
theorem dX8_moveMirror_2 : decode cX8_moveMirror 2 = .ok (.invokevirtual 142, 3) := by decide +kernel
theorem dX8_moveMirror_5 : decode cX8_moveMirror 5 = .ok (.iload_n 2, 1) := by decide +kernel
theorem dX8_moveMirror_6 : decode cX8_moveMirror 6 = .ok (.ifCond .lt 17, 3) := by decide +kernel
theorem dX8_moveMirror_9 : decode cX8_moveMirror 9 = .ok (.iload_n 2, 1) := by decide +kernel
theorem dX8_moveMirror_10 : decode cX8_moveMirror 10 = .ok (.aload_n 0, 1) := by decide +kernel
theorem dX8_moveMirror_11 : decode cX8_moveMirror 11 = .ok (.getfield 58, 3) := by decide +kernel
theorem dX8_moveMirror_14 : decode cX8_moveMirror 14 = .ok (.getfield 112, 3) := by decide +kernel
theorem dX8_moveMirror_17 : decode cX8_moveMirror 17 = .ok (.getfield 116, 3) := by decide +kernel
theorem dX8_moveMirror_20 : decode cX8_moveMirror 20 = .ok (.if_icmp .lt 13, 3) := by decide +kernel
theorem dX8_moveMirror_23 : decode cX8_moveMirror 23 = .ok (.new 155, 3) := by decide +kernel
theorem dX8_moveMirror_26 : decode cX8_moveMirror 26 = .ok (.dup, 1) := by decide +kernel
theorem dX8_moveMirror_27 : decode cX8_moveMirror 27 = .ok (.ldc 157, 2) := by decide +kernel
theorem dX8_moveMirror_29 : decode cX8_moveMirror 29 = .ok (.invokespecial 159, 3) := by decide +kernel
theorem dX8_moveMirror_32 : decode cX8_moveMirror 32 = .ok (.athrow, 1) := by decide +kernel
theorem dX8_moveMirror_33 : decode cX8_moveMirror 33 = .ok (.aload_n 0, 1) := by decide +kernel
theorem dX8_moveMirror_34 : decode cX8_moveMirror 34 = .ok (.getfield 58, 3) := by decide +kernel
theorem dX8_moveMirror_37 : decode cX8_moveMirror 37 = .ok (.getfield 112, 3) := by decide +kernel
theorem dX8_moveMirror_40 : decode cX8_moveMirror 40 = .ok (.iload_n 1, 1) := by decide +kernel
theorem dX8_moveMirror_41 : decode cX8_moveMirror 41 = .ok (.invokevirtual 149, 3) := by decide +kernel
theorem dX8_moveMirror_44 : decode cX8_moveMirror 44 = .ok (.istore_n 3, 1) := by decide +kernel
theorem dX8_moveMirror_45 : decode cX8_moveMirror 45 = .ok (.aload_n 0, 1) := by decide +kernel
theorem dX8_moveMirror_46 : decode cX8_moveMirror 46 = .ok (.getfield 58, 3) := by decide +kernel
theorem dX8_moveMirror_49 : decode cX8_moveMirror 49 = .ok (.getfield 112, 3) := by decide +kernel
theorem dX8_moveMirror_52 : decode cX8_moveMirror 52 = .ok (.iload_n 1, 1) := by decide +kernel
theorem dX8_moveMirror_53 : decode cX8_moveMirror 53 = .ok (.iload_n 2, 1) := by decide +kernel
theorem dX8_moveMirror_54 : decode cX8_moveMirror 54 = .ok (.invokevirtual 211, 3) := by decide +kernel
theorem dX8_moveMirror_57 : decode cX8_moveMirror 57 = .ok (.iload_n 3, 1) := by decide +kernel
theorem dX8_moveMirror_58 : decode cX8_moveMirror 58 = .ok (.ireturn, 1) := by decide +kernel
theorem dX8_passMinutes_0 : decode cX8_passMinutes 0 = .ok (.iload_n 1, 1) := by decide +kernel
theorem dX8_passMinutes_1 : decode cX8_passMinutes 1 = .ok (.invokestatic 214, 3) := by decide +kernel
theorem dX8_passMinutes_4 : decode cX8_passMinutes 4 = .ok (.aload_n 0, 1) := by decide +kernel
theorem dX8_passMinutes_5 : decode cX8_passMinutes 5 = .ok (.getfield 58, 3) := by decide +kernel
theorem dX8_passMinutes_8 : decode cX8_passMinutes 8 = .ok (.getfield 163, 3) := by decide +kernel
theorem dX8_passMinutes_11 : decode cX8_passMinutes 11 = .ok (.getfield 172, 3) := by decide +kernel
theorem dX8_passMinutes_14 : decode cX8_passMinutes 14 = .ok (.istore_n 2, 1) := by decide +kernel
theorem dX8_passMinutes_15 : decode cX8_passMinutes 15 = .ok (.aload_n 0, 1) := by decide +kernel
theorem dX8_passMinutes_16 : decode cX8_passMinutes 16 = .ok (.getfield 58, 3) := by decide +kernel
theorem dX8_passMinutes_19 : decode cX8_passMinutes 19 = .ok (.iload_n 1, 1) := by decide +kernel
theorem dX8_passMinutes_20 : decode cX8_passMinutes 20 = .ok (.invokevirtual 217, 3) := by decide +kernel
theorem dX8_passMinutes_23 : decode cX8_passMinutes 23 = .ok (.aload_n 0, 1) := by decide +kernel
theorem dX8_passMinutes_24 : decode cX8_passMinutes 24 = .ok (.getfield 58, 3) := by decide +kernel
theorem dX8_passMinutes_27 : decode cX8_passMinutes 27 = .ok (.getfield 163, 3) := by decide +kernel
theorem dX8_passMinutes_30 : decode cX8_passMinutes 30 = .ok (.getfield 172, 3) := by decide +kernel
theorem dX8_passMinutes_33 : decode cX8_passMinutes 33 = .ok (.iload_n 2, 1) := by decide +kernel
theorem dX8_passMinutes_34 : decode cX8_passMinutes 34 = .ok (.isub, 1) := by decide +kernel
theorem dX8_passMinutes_35 : decode cX8_passMinutes 35 = .ok (.ireturn, 1) := by decide +kernel
theorem dX8_lightAfter_0 : decode cX8_lightAfter 0 = .ok (.iload_n 1, 1) := by decide +kernel
theorem dX8_lightAfter_1 : decode cX8_lightAfter 1 = .ok (.invokestatic 214, 3) := by decide +kernel
theorem dX8_lightAfter_4 : decode cX8_lightAfter 4 = .ok (.aload_n 0, 1) := by decide +kernel
theorem dX8_lightAfter_5 : decode cX8_lightAfter 5 = .ok (.getfield 62, 3) := by decide +kernel
theorem dX8_lightAfter_8 : decode cX8_lightAfter 8 = .ok (.aload_n 0, 1) := by decide +kernel
theorem dX8_lightAfter_9 : decode cX8_lightAfter 9 = .ok (.getfield 58, 3) := by decide +kernel
theorem dX8_lightAfter_12 : decode cX8_lightAfter 12 = .ok (.invokevirtual 220, 3) := by decide +kernel
theorem dX8_lightAfter_15 : decode cX8_lightAfter 15 = .ok (.aload_n 0, 1) := by decide +kernel
theorem dX8_lightAfter_16 : decode cX8_lightAfter 16 = .ok (.getfield 62, 3) := by decide +kernel
theorem dX8_lightAfter_19 : decode cX8_lightAfter 19 = .ok (.iload_n 1, 1) := by decide +kernel
theorem dX8_lightAfter_20 : decode cX8_lightAfter 20 = .ok (.invokevirtual 217, 3) := by decide +kernel
theorem dX8_lightAfter_23 : decode cX8_lightAfter 23 = .ok (.aload_n 0, 1) := by decide +kernel
theorem dX8_lightAfter_24 : decode cX8_lightAfter 24 = .ok (.getfield 62, 3) := by decide +kernel
theorem dX8_lightAfter_27 : decode cX8_lightAfter 27 = .ok (.getfield 112, 3) := by decide +kernel
theorem dX8_lightAfter_30 : decode cX8_lightAfter 30 = .ok (.invokevirtual 127, 3) := by decide +kernel
theorem dX8_lightAfter_33 : decode cX8_lightAfter 33 = .ok (.ireturn, 1) := by decide +kernel
theorem dX8_minutesUntilSeen_0 : decode cX8_minutesUntilSeen 0 = .ok (.aload_n 0, 1) := by decide +kernel
theorem dX8_minutesUntilSeen_1 : decode cX8_minutesUntilSeen 1 = .ok (.getfield 62, 3) := by decide +kernel
theorem dX8_minutesUntilSeen_4 : decode cX8_minutesUntilSeen 4 = .ok (.aload_n 0, 1) := by decide +kernel
theorem dX8_minutesUntilSeen_5 : decode cX8_minutesUntilSeen 5 = .ok (.getfield 58, 3) := by decide +kernel
theorem dX8_minutesUntilSeen_8 : decode cX8_minutesUntilSeen 8 = .ok (.invokevirtual 220, 3) := by decide +kernel
theorem dX8_minutesUntilSeen_11 : decode cX8_minutesUntilSeen 11 = .ok (.iconst 0, 1) := by decide +kernel
theorem dX8_minutesUntilSeen_12 : decode cX8_minutesUntilSeen 12 = .ok (.istore_n 1, 1) := by decide +kernel
theorem dX8_minutesUntilSeen_13 : decode cX8_minutesUntilSeen 13 = .ok (.iload_n 1, 1) := by decide +kernel
theorem dX8_minutesUntilSeen_14 : decode cX8_minutesUntilSeen 14 = .ok (.bipush 100, 2) := by decide +kernel
theorem dX8_minutesUntilSeen_16 : decode cX8_minutesUntilSeen 16 = .ok (.if_icmp .gt 32, 3) := by decide +kernel
theorem dX8_minutesUntilSeen_19 : decode cX8_minutesUntilSeen 19 = .ok (.aload_n 0, 1) := by decide +kernel
theorem dX8_minutesUntilSeen_20 : decode cX8_minutesUntilSeen 20 = .ok (.getfield 62, 3) := by decide +kernel
theorem dX8_minutesUntilSeen_23 : decode cX8_minutesUntilSeen 23 = .ok (.getfield 112, 3) := by decide +kernel
theorem dX8_minutesUntilSeen_26 : decode cX8_minutesUntilSeen 26 = .ok (.invokevirtual 133, 3) := by decide +kernel
theorem dX8_minutesUntilSeen_29 : decode cX8_minutesUntilSeen 29 = .ok (.ifCond .eq 5, 3) := by decide +kernel
theorem dX8_minutesUntilSeen_32 : decode cX8_minutesUntilSeen 32 = .ok (.iload_n 1, 1) := by decide +kernel
theorem dX8_minutesUntilSeen_33 : decode cX8_minutesUntilSeen 33 = .ok (.ireturn, 1) := by decide +kernel
theorem dX8_minutesUntilSeen_34 : decode cX8_minutesUntilSeen 34 = .ok (.aload_n 0, 1) := by decide +kernel
theorem dX8_minutesUntilSeen_35 : decode cX8_minutesUntilSeen 35 = .ok (.getfield 62, 3) := by decide +kernel
theorem dX8_minutesUntilSeen_38 : decode cX8_minutesUntilSeen 38 = .ok (.iconst 1, 1) := by decide +kernel
theorem dX8_minutesUntilSeen_39 : decode cX8_minutesUntilSeen 39 = .ok (.invokevirtual 217, 3) := by decide +kernel
theorem dX8_minutesUntilSeen_42 : decode cX8_minutesUntilSeen 42 = .ok (.iinc 1 1, 3) := by decide +kernel
theorem dX8_minutesUntilSeen_45 : decode cX8_minutesUntilSeen 45 = .ok (.goto (-32), 3) := by decide +kernel
theorem dX8_minutesUntilSeen_48 : decode cX8_minutesUntilSeen 48 = .ok (.iconst (-1), 1) := by decide +kernel
theorem dX8_minutesUntilSeen_49 : decode cX8_minutesUntilSeen 49 = .ok (.ireturn, 1) := by decide +kernel
theorem dX8_minutesUntilDone_0 : decode cX8_minutesUntilDone 0 = .ok (.aload_n 0, 1) := by decide +kernel
theorem dX8_minutesUntilDone_1 : decode cX8_minutesUntilDone 1 = .ok (.iload_n 1, 1) := by decide +kernel
theorem dX8_minutesUntilDone_2 : decode cX8_minutesUntilDone 2 = .ok (.invokevirtual 175, 3) := by decide +kernel
theorem dX8_minutesUntilDone_5 : decode cX8_minutesUntilDone 5 = .ok (.aload_n 0, 1) := by decide +kernel
theorem dX8_minutesUntilDone_6 : decode cX8_minutesUntilDone 6 = .ok (.getfield 62, 3) := by decide +kernel
theorem dX8_minutesUntilDone_9 : decode cX8_minutesUntilDone 9 = .ok (.aload_n 0, 1) := by decide +kernel
theorem dX8_minutesUntilDone_10 : decode cX8_minutesUntilDone 10 = .ok (.getfield 58, 3) := by decide +kernel
theorem dX8_minutesUntilDone_13 : decode cX8_minutesUntilDone 13 = .ok (.invokevirtual 220, 3) := by decide +kernel
theorem dX8_minutesUntilDone_16 : decode cX8_minutesUntilDone 16 = .ok (.aload_n 0, 1) := by decide +kernel
theorem dX8_minutesUntilDone_17 : decode cX8_minutesUntilDone 17 = .ok (.getfield 58, 3) := by decide +kernel
theorem dX8_minutesUntilDone_20 : decode cX8_minutesUntilDone 20 = .ok (.getfield 163, 3) := by decide +kernel
theorem dX8_minutesUntilDone_23 : decode cX8_minutesUntilDone 23 = .ok (.getfield 172, 3) := by decide +kernel
theorem dX8_minutesUntilDone_26 : decode cX8_minutesUntilDone 26 = .ok (.iload_n 1, 1) := by decide +kernel
theorem dX8_minutesUntilDone_27 : decode cX8_minutesUntilDone 27 = .ok (.iadd, 1) := by decide +kernel
theorem dX8_minutesUntilDone_28 : decode cX8_minutesUntilDone 28 = .ok (.iconst 1, 1) := by decide +kernel
theorem dX8_minutesUntilDone_29 : decode cX8_minutesUntilDone 29 = .ok (.iadd, 1) := by decide +kernel
theorem dX8_minutesUntilDone_30 : decode cX8_minutesUntilDone 30 = .ok (.istore_n 2, 1) := by decide +kernel
theorem dX8_minutesUntilDone_31 : decode cX8_minutesUntilDone 31 = .ok (.iconst 1, 1) := by decide +kernel
theorem dX8_minutesUntilDone_32 : decode cX8_minutesUntilDone 32 = .ok (.istore_n 3, 1) := by decide +kernel
theorem dX8_minutesUntilDone_33 : decode cX8_minutesUntilDone 33 = .ok (.iload_n 3, 1) := by decide +kernel
theorem dX8_minutesUntilDone_34 : decode cX8_minutesUntilDone 34 = .ok (.sipush 300, 3) := by decide +kernel
theorem dX8_minutesUntilDone_37 : decode cX8_minutesUntilDone 37 = .ok (.if_icmp .gt 33, 3) := by decide +kernel
theorem dX8_minutesUntilDone_40 : decode cX8_minutesUntilDone 40 = .ok (.aload_n 0, 1) := by decide +kernel
theorem dX8_minutesUntilDone_41 : decode cX8_minutesUntilDone 41 = .ok (.getfield 62, 3) := by decide +kernel
theorem dX8_minutesUntilDone_44 : decode cX8_minutesUntilDone 44 = .ok (.iconst 1, 1) := by decide +kernel
theorem dX8_minutesUntilDone_45 : decode cX8_minutesUntilDone 45 = .ok (.invokevirtual 217, 3) := by decide +kernel
theorem dX8_minutesUntilDone_48 : decode cX8_minutesUntilDone 48 = .ok (.aload_n 0, 1) := by decide +kernel
theorem dX8_minutesUntilDone_49 : decode cX8_minutesUntilDone 49 = .ok (.getfield 62, 3) := by decide +kernel
theorem dX8_minutesUntilDone_52 : decode cX8_minutesUntilDone 52 = .ok (.getfield 163, 3) := by decide +kernel
theorem dX8_minutesUntilDone_55 : decode cX8_minutesUntilDone 55 = .ok (.getfield 172, 3) := by decide +kernel
theorem dX8_minutesUntilDone_58 : decode cX8_minutesUntilDone 58 = .ok (.iload_n 2, 1) := by decide +kernel
theorem dX8_minutesUntilDone_59 : decode cX8_minutesUntilDone 59 = .ok (.if_icmp .lt 5, 3) := by decide +kernel
theorem dX8_minutesUntilDone_62 : decode cX8_minutesUntilDone 62 = .ok (.iload_n 3, 1) := by decide +kernel
theorem dX8_minutesUntilDone_63 : decode cX8_minutesUntilDone 63 = .ok (.ireturn, 1) := by decide +kernel
theorem dX8_minutesUntilDone_64 : decode cX8_minutesUntilDone 64 = .ok (.iinc 3 1, 3) := by decide +kernel
theorem dX8_minutesUntilDone_67 : decode cX8_minutesUntilDone 67 = .ok (.goto (-34), 3) := by decide +kernel
theorem dX8_minutesUntilDone_70 : decode cX8_minutesUntilDone 70 = .ok (.iconst (-1), 1) := by decide +kernel
theorem dX8_minutesUntilDone_71 : decode cX8_minutesUntilDone 71 = .ok (.ireturn, 1) := by decide +kernel
theorem dX8_bestToClean_0 : decode cX8_bestToClean 0 = .ok (.iconst (-1), 1) := by decide +kernel
theorem dX8_bestToClean_1 : decode cX8_bestToClean 1 = .ok (.istore_n 1, 1) := by decide +kernel
theorem dX8_bestToClean_2 : decode cX8_bestToClean 2 = .ok (.aload_n 0, 1) := by decide +kernel
theorem dX8_bestToClean_3 : decode cX8_bestToClean 3 = .ok (.getfield 58, 3) := by decide +kernel
theorem dX8_bestToClean_6 : decode cX8_bestToClean 6 = .ok (.getfield 112, 3) := by decide +kernel
theorem dX8_bestToClean_9 : decode cX8_bestToClean 9 = .ok (.invokevirtual 127, 3) := by decide +kernel
theorem dX8_bestToClean_12 : decode cX8_bestToClean 12 = .ok (.istore_n 2, 1) := by decide +kernel
theorem dX8_bestToClean_13 : decode cX8_bestToClean 13 = .ok (.iconst 0, 1) := by decide +kernel
theorem dX8_bestToClean_14 : decode cX8_bestToClean 14 = .ok (.istore_n 3, 1) := by decide +kernel
theorem dX8_bestToClean_15 : decode cX8_bestToClean 15 = .ok (.iload_n 3, 1) := by decide +kernel
theorem dX8_bestToClean_16 : decode cX8_bestToClean 16 = .ok (.aload_n 0, 1) := by decide +kernel
theorem dX8_bestToClean_17 : decode cX8_bestToClean 17 = .ok (.getfield 58, 3) := by decide +kernel
theorem dX8_bestToClean_20 : decode cX8_bestToClean 20 = .ok (.getfield 112, 3) := by decide +kernel
theorem dX8_bestToClean_23 : decode cX8_bestToClean 23 = .ok (.getfield 116, 3) := by decide +kernel
theorem dX8_bestToClean_26 : decode cX8_bestToClean 26 = .ok (.if_icmp .ge 60, 3) := by decide +kernel
theorem dX8_bestToClean_29 : decode cX8_bestToClean 29 = .ok (.aload_n 0, 1) := by decide +kernel
theorem dX8_bestToClean_30 : decode cX8_bestToClean 30 = .ok (.getfield 62, 3) := by decide +kernel
theorem dX8_bestToClean_33 : decode cX8_bestToClean 33 = .ok (.getfield 112, 3) := by decide +kernel
theorem dX8_bestToClean_36 : decode cX8_bestToClean 36 = .ok (.aload_n 0, 1) := by decide +kernel
theorem dX8_bestToClean_37 : decode cX8_bestToClean 37 = .ok (.getfield 58, 3) := by decide +kernel
theorem dX8_bestToClean_40 : decode cX8_bestToClean 40 = .ok (.getfield 112, 3) := by decide +kernel
theorem dX8_bestToClean_43 : decode cX8_bestToClean 43 = .ok (.invokevirtual 224, 3) := by decide +kernel
theorem dX8_bestToClean_46 : decode cX8_bestToClean 46 = .ok (.aload_n 0, 1) := by decide +kernel
theorem dX8_bestToClean_47 : decode cX8_bestToClean 47 = .ok (.getfield 62, 3) := by decide +kernel
theorem dX8_bestToClean_50 : decode cX8_bestToClean 50 = .ok (.getfield 112, 3) := by decide +kernel
theorem dX8_bestToClean_53 : decode cX8_bestToClean 53 = .ok (.iload_n 3, 1) := by decide +kernel
theorem dX8_bestToClean_54 : decode cX8_bestToClean 54 = .ok (.invokevirtual 227, 3) := by decide +kernel
theorem dX8_bestToClean_57 : decode cX8_bestToClean 57 = .ok (.aload_n 0, 1) := by decide +kernel
theorem dX8_bestToClean_58 : decode cX8_bestToClean 58 = .ok (.getfield 62, 3) := by decide +kernel
theorem dX8_bestToClean_61 : decode cX8_bestToClean 61 = .ok (.getfield 112, 3) := by decide +kernel
theorem dX8_bestToClean_64 : decode cX8_bestToClean 64 = .ok (.invokevirtual 127, 3) := by decide +kernel
theorem dX8_bestToClean_67 : decode cX8_bestToClean 67 = .ok (.istore 4, 2) := by decide +kernel
theorem dX8_bestToClean_69 : decode cX8_bestToClean 69 = .ok (.iload 4, 2) := by decide +kernel
theorem dX8_bestToClean_71 : decode cX8_bestToClean 71 = .ok (.iload_n 2, 1) := by decide +kernel
theorem dX8_bestToClean_72 : decode cX8_bestToClean 72 = .ok (.if_icmp .le 8, 3) := by decide +kernel
theorem dX8_bestToClean_75 : decode cX8_bestToClean 75 = .ok (.iload 4, 2) := by decide +kernel
theorem dX8_bestToClean_77 : decode cX8_bestToClean 77 = .ok (.istore_n 2, 1) := by decide +kernel
theorem dX8_bestToClean_78 : decode cX8_bestToClean 78 = .ok (.iload_n 3, 1) := by decide +kernel
theorem dX8_bestToClean_79 : decode cX8_bestToClean 79 = .ok (.istore_n 1, 1) := by decide +kernel
theorem dX8_bestToClean_80 : decode cX8_bestToClean 80 = .ok (.iinc 3 1, 3) := by decide +kernel
theorem dX8_bestToClean_83 : decode cX8_bestToClean 83 = .ok (.goto (-68), 3) := by decide +kernel
theorem dX8_bestToClean_86 : decode cX8_bestToClean 86 = .ok (.iload_n 1, 1) := by decide +kernel
theorem dX8_bestToClean_87 : decode cX8_bestToClean 87 = .ok (.ireturn, 1) := by decide +kernel
theorem dX8_bestOffset_0 : decode cX8_bestOffset 0 = .ok (.aload_n 0, 1) := by decide +kernel
theorem dX8_bestOffset_1 : decode cX8_bestOffset 1 = .ok (.iload_n 1, 1) := by decide +kernel
theorem dX8_bestOffset_2 : decode cX8_bestOffset 2 = .ok (.invokevirtual 142, 3) := by decide +kernel
theorem dX8_bestOffset_5 : decode cX8_bestOffset 5 = .ok (.aload_n 0, 1) := by decide +kernel
theorem dX8_bestOffset_6 : decode cX8_bestOffset 6 = .ok (.getfield 62, 3) := by decide +kernel
theorem dX8_bestOffset_9 : decode cX8_bestOffset 9 = .ok (.getfield 112, 3) := by decide +kernel
theorem dX8_bestOffset_12 : decode cX8_bestOffset 12 = .ok (.aload_n 0, 1) := by decide +kernel
theorem dX8_bestOffset_13 : decode cX8_bestOffset 13 = .ok (.getfield 58, 3) := by decide +kernel
theorem dX8_bestOffset_16 : decode cX8_bestOffset 16 = .ok (.getfield 112, 3) := by decide +kernel
theorem dX8_bestOffset_19 : decode cX8_bestOffset 19 = .ok (.invokevirtual 224, 3) := by decide +kernel
theorem dX8_bestOffset_22 : decode cX8_bestOffset 22 = .ok (.iconst 0, 1) := by decide +kernel
theorem dX8_bestOffset_23 : decode cX8_bestOffset 23 = .ok (.istore_n 2, 1) := by decide +kernel
theorem dX8_bestOffset_24 : decode cX8_bestOffset 24 = .ok (.aload_n 0, 1) := by decide +kernel
theorem dX8_bestOffset_25 : decode cX8_bestOffset 25 = .ok (.iload_n 1, 1) := by decide +kernel
theorem dX8_bestOffset_26 : decode cX8_bestOffset 26 = .ok (.iconst 0, 1) := by decide +kernel
theorem dX8_bestOffset_27 : decode cX8_bestOffset 27 = .ok (.invokevirtual 230, 3) := by decide +kernel
theorem dX8_bestOffset_30 : decode cX8_bestOffset 30 = .ok (.istore_n 3, 1) := by decide +kernel
theorem dX8_bestOffset_31 : decode cX8_bestOffset 31 = .ok (.iconst 1, 1) := by decide +kernel
theorem dX8_bestOffset_32 : decode cX8_bestOffset 32 = .ok (.istore 4, 2) := by decide +kernel
theorem dX8_bestOffset_34 : decode cX8_bestOffset 34 = .ok (.iload 4, 2) := by decide +kernel
theorem dX8_bestOffset_36 : decode cX8_bestOffset 36 = .ok (.bipush 90, 2) := by decide +kernel
theorem dX8_bestOffset_38 : decode cX8_bestOffset 38 = .ok (.if_icmp .gt 53, 3) := by decide +kernel
theorem dX8_bestOffset_41 : decode cX8_bestOffset 41 = .ok (.aload_n 0, 1) := by decide +kernel
theorem dX8_bestOffset_42 : decode cX8_bestOffset 42 = .ok (.iload_n 1, 1) := by decide +kernel
theorem dX8_bestOffset_43 : decode cX8_bestOffset 43 = .ok (.iload 4, 2) := by decide +kernel
theorem dX8_bestOffset_45 : decode cX8_bestOffset 45 = .ok (.invokevirtual 230, 3) := by decide +kernel
theorem dX8_bestOffset_48 : decode cX8_bestOffset 48 = .ok (.istore 5, 2) := by decide +kernel
theorem dX8_bestOffset_50 : decode cX8_bestOffset 50 = .ok (.iload 5, 2) := by decide +kernel
theorem dX8_bestOffset_52 : decode cX8_bestOffset 52 = .ok (.iload_n 3, 1) := by decide +kernel
theorem dX8_bestOffset_53 : decode cX8_bestOffset 53 = .ok (.if_icmp .le 9, 3) := by decide +kernel
theorem dX8_bestOffset_56 : decode cX8_bestOffset 56 = .ok (.iload 5, 2) := by decide +kernel
theorem dX8_bestOffset_58 : decode cX8_bestOffset 58 = .ok (.istore_n 3, 1) := by decide +kernel
theorem dX8_bestOffset_59 : decode cX8_bestOffset 59 = .ok (.iload 4, 2) := by decide +kernel
theorem dX8_bestOffset_61 : decode cX8_bestOffset 61 = .ok (.istore_n 2, 1) := by decide +kernel
theorem dX8_bestOffset_62 : decode cX8_bestOffset 62 = .ok (.aload_n 0, 1) := by decide +kernel
theorem dX8_bestOffset_63 : decode cX8_bestOffset 63 = .ok (.iload_n 1, 1) := by decide +kernel
theorem dX8_bestOffset_64 : decode cX8_bestOffset 64 = .ok (.iload 4, 2) := by decide +kernel
theorem dX8_bestOffset_66 : decode cX8_bestOffset 66 = .ok (.ineg, 1) := by decide +kernel
theorem dX8_bestOffset_67 : decode cX8_bestOffset 67 = .ok (.invokevirtual 230, 3) := by decide +kernel
theorem dX8_bestOffset_70 : decode cX8_bestOffset 70 = .ok (.istore 6, 2) := by decide +kernel
theorem dX8_bestOffset_72 : decode cX8_bestOffset 72 = .ok (.iload 6, 2) := by decide +kernel
theorem dX8_bestOffset_74 : decode cX8_bestOffset 74 = .ok (.iload_n 3, 1) := by decide +kernel
theorem dX8_bestOffset_75 : decode cX8_bestOffset 75 = .ok (.if_icmp .le 10, 3) := by decide +kernel
theorem dX8_bestOffset_78 : decode cX8_bestOffset 78 = .ok (.iload 6, 2) := by decide +kernel
theorem dX8_bestOffset_80 : decode cX8_bestOffset 80 = .ok (.istore_n 3, 1) := by decide +kernel
theorem dX8_bestOffset_81 : decode cX8_bestOffset 81 = .ok (.iload 4, 2) := by decide +kernel
theorem dX8_bestOffset_83 : decode cX8_bestOffset 83 = .ok (.ineg, 1) := by decide +kernel
theorem dX8_bestOffset_84 : decode cX8_bestOffset 84 = .ok (.istore_n 2, 1) := by decide +kernel
theorem dX8_bestOffset_85 : decode cX8_bestOffset 85 = .ok (.iinc 4 1, 3) := by decide +kernel
theorem dX8_bestOffset_88 : decode cX8_bestOffset 88 = .ok (.goto (-54), 3) := by decide +kernel
theorem dX8_bestOffset_91 : decode cX8_bestOffset 91 = .ok (.iload_n 2, 1) := by decide +kernel
theorem dX8_bestOffset_92 : decode cX8_bestOffset 92 = .ok (.ireturn, 1) := by decide +kernel
theorem dX8_meanClarity_0 : decode cX8_meanClarity 0 = .ok (.aload_n 0, 1) := by decide +kernel
theorem dX8_meanClarity_1 : decode cX8_meanClarity 1 = .ok (.getfield 58, 3) := by decide +kernel
theorem dX8_meanClarity_4 : decode cX8_meanClarity 4 = .ok (.getfield 112, 3) := by decide +kernel
theorem dX8_meanClarity_7 : decode cX8_meanClarity 7 = .ok (.getfield 116, 3) := by decide +kernel
theorem dX8_meanClarity_10 : decode cX8_meanClarity 10 = .ok (.istore_n 1, 1) := by decide +kernel
theorem dX8_meanClarity_11 : decode cX8_meanClarity 11 = .ok (.iload_n 1, 1) := by decide +kernel
theorem dX8_meanClarity_12 : decode cX8_meanClarity 12 = .ok (.ifCond .ne 5, 3) := by decide +kernel
theorem dX8_meanClarity_15 : decode cX8_meanClarity 15 = .ok (.dconst 0, 1) := by decide +kernel
theorem dX8_meanClarity_16 : decode cX8_meanClarity 16 = .ok (.dreturn, 1) := by decide +kernel
theorem dX8_meanClarity_17 : decode cX8_meanClarity 17 = .ok (.iconst 0, 1) := by decide +kernel
theorem dX8_meanClarity_18 : decode cX8_meanClarity 18 = .ok (.istore_n 2, 1) := by decide +kernel
theorem dX8_meanClarity_19 : decode cX8_meanClarity 19 = .ok (.iconst 0, 1) := by decide +kernel
theorem dX8_meanClarity_20 : decode cX8_meanClarity 20 = .ok (.istore_n 3, 1) := by decide +kernel
theorem dX8_meanClarity_21 : decode cX8_meanClarity 21 = .ok (.iload_n 3, 1) := by decide +kernel
theorem dX8_meanClarity_22 : decode cX8_meanClarity 22 = .ok (.iload_n 1, 1) := by decide +kernel
theorem dX8_meanClarity_23 : decode cX8_meanClarity 23 = .ok (.if_icmp .ge 26, 3) := by decide +kernel
theorem dX8_meanClarity_26 : decode cX8_meanClarity 26 = .ok (.iload_n 2, 1) := by decide +kernel
theorem dX8_meanClarity_27 : decode cX8_meanClarity 27 = .ok (.aload_n 0, 1) := by decide +kernel
theorem dX8_meanClarity_28 : decode cX8_meanClarity 28 = .ok (.getfield 58, 3) := by decide +kernel
theorem dX8_meanClarity_31 : decode cX8_meanClarity 31 = .ok (.getfield 112, 3) := by decide +kernel
theorem dX8_meanClarity_34 : decode cX8_meanClarity 34 = .ok (.sipush 129, 3) := by decide +kernel
theorem dX8_meanClarity_37 : decode cX8_meanClarity 37 = .ok (.iload_n 3, 1) := by decide +kernel
theorem dX8_meanClarity_38 : decode cX8_meanClarity 38 = .ok (.invokevirtual 145, 3) := by decide +kernel
theorem dX8_meanClarity_41 : decode cX8_meanClarity 41 = .ok (.iadd, 1) := by decide +kernel
theorem dX8_meanClarity_42 : decode cX8_meanClarity 42 = .ok (.istore_n 2, 1) := by decide +kernel
theorem dX8_meanClarity_43 : decode cX8_meanClarity 43 = .ok (.iinc 3 1, 3) := by decide +kernel
theorem dX8_meanClarity_46 : decode cX8_meanClarity 46 = .ok (.goto (-25), 3) := by decide +kernel
theorem dX8_meanClarity_49 : decode cX8_meanClarity 49 = .ok (.iload_n 2, 1) := by decide +kernel
theorem dX8_meanClarity_50 : decode cX8_meanClarity 50 = .ok (.i2d, 1) := by decide +kernel
theorem dX8_meanClarity_51 : decode cX8_meanClarity 51 = .ok (.iload_n 1, 1) := by decide +kernel
theorem dX8_meanClarity_52 : decode cX8_meanClarity 52 = .ok (.i2d, 1) := by decide +kernel
theorem dX8_meanClarity_53 : decode cX8_meanClarity 53 = .ok (.ddiv, 1) := by decide +kernel
theorem dX8_meanClarity_54 : decode cX8_meanClarity 54 = .ok (.dreturn, 1) := by decide +kernel
theorem dX8_digest_0 : decode cX8_digest 0 = .ok (.ldc2_w 233, 3) := by decide +kernel
theorem dX8_digest_3 : decode cX8_digest 3 = .ok (.lstore_n 1, 1) := by decide +kernel
theorem dX8_digest_4 : decode cX8_digest 4 = .ok (.lload_n 1, 1) := by decide +kernel
theorem dX8_digest_5 : decode cX8_digest 5 = .ok (.ldc2_w 235, 3) := by decide +kernel
theorem dX8_digest_8 : decode cX8_digest 8 = .ok (.lmul, 1) := by decide +kernel
theorem dX8_digest_9 : decode cX8_digest 9 = .ok (.aload_n 0, 1) := by decide +kernel
theorem dX8_digest_10 : decode cX8_digest 10 = .ok (.invokevirtual 237, 3) := by decide +kernel
theorem dX8_digest_13 : decode cX8_digest 13 = .ok (.i2l, 1) := by decide +kernel
theorem dX8_digest_14 : decode cX8_digest 14 = .ok (.ladd, 1) := by decide +kernel
theorem dX8_digest_15 : decode cX8_digest 15 = .ok (.lstore_n 1, 1) := by decide +kernel
theorem dX8_digest_16 : decode cX8_digest 16 = .ok (.lload_n 1, 1) := by decide +kernel
theorem dX8_digest_17 : decode cX8_digest 17 = .ok (.ldc2_w 235, 3) := by decide +kernel
theorem dX8_digest_20 : decode cX8_digest 20 = .ok (.lmul, 1) := by decide +kernel
theorem dX8_digest_21 : decode cX8_digest 21 = .ok (.aload_n 0, 1) := by decide +kernel
theorem dX8_digest_22 : decode cX8_digest 22 = .ok (.invokevirtual 240, 3) := by decide +kernel
theorem dX8_digest_25 : decode cX8_digest 25 = .ok (.i2l, 1) := by decide +kernel
theorem dX8_digest_26 : decode cX8_digest 26 = .ok (.ladd, 1) := by decide +kernel
theorem dX8_digest_27 : decode cX8_digest 27 = .ok (.lstore_n 1, 1) := by decide +kernel
theorem dX8_digest_28 : decode cX8_digest 28 = .ok (.lload_n 1, 1) := by decide +kernel
theorem dX8_digest_29 : decode cX8_digest 29 = .ok (.ldc2_w 235, 3) := by decide +kernel
theorem dX8_digest_32 : decode cX8_digest 32 = .ok (.lmul, 1) := by decide +kernel
theorem dX8_digest_33 : decode cX8_digest 33 = .ok (.aload_n 0, 1) := by decide +kernel
theorem dX8_digest_34 : decode cX8_digest 34 = .ok (.invokevirtual 242, 3) := by decide +kernel
theorem dX8_digest_37 : decode cX8_digest 37 = .ok (.i2l, 1) := by decide +kernel
theorem dX8_digest_38 : decode cX8_digest 38 = .ok (.ladd, 1) := by decide +kernel
theorem dX8_digest_39 : decode cX8_digest 39 = .ok (.lstore_n 1, 1) := by decide +kernel
theorem dX8_digest_40 : decode cX8_digest 40 = .ok (.lload_n 1, 1) := by decide +kernel
theorem dX8_digest_41 : decode cX8_digest 41 = .ok (.ldc2_w 235, 3) := by decide +kernel
theorem dX8_digest_44 : decode cX8_digest 44 = .ok (.lmul, 1) := by decide +kernel
theorem dX8_digest_45 : decode cX8_digest 45 = .ok (.aload_n 0, 1) := by decide +kernel
theorem dX8_digest_46 : decode cX8_digest 46 = .ok (.invokevirtual 245, 3) := by decide +kernel
theorem dX8_digest_49 : decode cX8_digest 49 = .ok (.i2l, 1) := by decide +kernel
theorem dX8_digest_50 : decode cX8_digest 50 = .ok (.ladd, 1) := by decide +kernel
theorem dX8_digest_51 : decode cX8_digest 51 = .ok (.lstore_n 1, 1) := by decide +kernel
theorem dX8_digest_52 : decode cX8_digest 52 = .ok (.lload_n 1, 1) := by decide +kernel
theorem dX8_digest_53 : decode cX8_digest 53 = .ok (.ldc2_w 235, 3) := by decide +kernel
theorem dX8_digest_56 : decode cX8_digest 56 = .ok (.lmul, 1) := by decide +kernel
theorem dX8_digest_57 : decode cX8_digest 57 = .ok (.aload_n 0, 1) := by decide +kernel
theorem dX8_digest_58 : decode cX8_digest 58 = .ok (.invokevirtual 248, 3) := by decide +kernel
theorem dX8_digest_61 : decode cX8_digest 61 = .ok (.i2l, 1) := by decide +kernel
theorem dX8_digest_62 : decode cX8_digest 62 = .ok (.ladd, 1) := by decide +kernel
theorem dX8_digest_63 : decode cX8_digest 63 = .ok (.lstore_n 1, 1) := by decide +kernel
theorem dX8_digest_64 : decode cX8_digest 64 = .ok (.lload_n 1, 1) := by decide +kernel
theorem dX8_digest_65 : decode cX8_digest 65 = .ok (.ldc2_w 235, 3) := by decide +kernel
theorem dX8_digest_68 : decode cX8_digest 68 = .ok (.lmul, 1) := by decide +kernel
theorem dX8_digest_69 : decode cX8_digest 69 = .ok (.aload_n 0, 1) := by decide +kernel
theorem dX8_digest_70 : decode cX8_digest 70 = .ok (.invokevirtual 251, 3) := by decide +kernel
theorem dX8_digest_73 : decode cX8_digest 73 = .ok (.i2l, 1) := by decide +kernel
theorem dX8_digest_74 : decode cX8_digest 74 = .ok (.ladd, 1) := by decide +kernel
theorem dX8_digest_75 : decode cX8_digest 75 = .ok (.lstore_n 1, 1) := by decide +kernel
theorem dX8_digest_76 : decode cX8_digest 76 = .ok (.lload_n 1, 1) := by decide +kernel
theorem dX8_digest_77 : decode cX8_digest 77 = .ok (.ldc2_w 235, 3) := by decide +kernel
theorem dX8_digest_80 : decode cX8_digest 80 = .ok (.lmul, 1) := by decide +kernel
theorem dX8_digest_81 : decode cX8_digest 81 = .ok (.aload_n 0, 1) := by decide +kernel
theorem dX8_digest_82 : decode cX8_digest 82 = .ok (.invokevirtual 254, 3) := by decide +kernel
theorem dX8_digest_85 : decode cX8_digest 85 = .ok (.ifCond .eq 7, 3) := by decide +kernel
theorem dX8_digest_88 : decode cX8_digest 88 = .ok (.iconst 1, 1) := by decide +kernel
theorem dX8_digest_89 : decode cX8_digest 89 = .ok (.goto 4, 3) := by decide +kernel
theorem dX8_digest_92 : decode cX8_digest 92 = .ok (.iconst 0, 1) := by decide +kernel
theorem dX8_digest_93 : decode cX8_digest 93 = .ok (.i2l, 1) := by decide +kernel
theorem dX8_digest_94 : decode cX8_digest 94 = .ok (.ladd, 1) := by decide +kernel
theorem dX8_digest_95 : decode cX8_digest 95 = .ok (.lstore_n 1, 1) := by decide +kernel
theorem dX8_digest_96 : decode cX8_digest 96 = .ok (.iconst 0, 1) := by decide +kernel
theorem dX8_digest_97 : decode cX8_digest 97 = .ok (.istore_n 3, 1) := by decide +kernel
theorem dX8_digest_98 : decode cX8_digest 98 = .ok (.iload_n 3, 1) := by decide +kernel
theorem dX8_digest_99 : decode cX8_digest 99 = .ok (.aload_n 0, 1) := by decide +kernel
theorem dX8_digest_100 : decode cX8_digest 100 = .ok (.getfield 58, 3) := by decide +kernel
theorem dX8_digest_103 : decode cX8_digest 103 = .ok (.getfield 112, 3) := by decide +kernel
theorem dX8_digest_106 : decode cX8_digest 106 = .ok (.getfield 116, 3) := by decide +kernel
theorem dX8_digest_109 : decode cX8_digest 109 = .ok (.if_icmp .ge 16, 3) := by decide +kernel
theorem dX8_digest_112 : decode cX8_digest 112 = .ok (.aload_n 0, 1) := by decide +kernel
theorem dX8_digest_113 : decode cX8_digest 113 = .ok (.lload_n 1, 1) := by decide +kernel
theorem dX8_digest_114 : decode cX8_digest 114 = .ok (.iload_n 3, 1) := by decide +kernel
theorem dX8_digest_115 : decode cX8_digest 115 = .ok (.invokevirtual 257, 3) := by decide +kernel
theorem dX8_digest_118 : decode cX8_digest 118 = .ok (.lstore_n 1, 1) := by decide +kernel
theorem dX8_digest_119 : decode cX8_digest 119 = .ok (.iinc 3 1, 3) := by decide +kernel
theorem dX8_digest_122 : decode cX8_digest 122 = .ok (.goto (-24), 3) := by decide +kernel
theorem dX8_digest_125 : decode cX8_digest 125 = .ok (.lload_n 1, 1) := by decide +kernel
theorem dX8_digest_126 : decode cX8_digest 126 = .ok (.ldc2_w 235, 3) := by decide +kernel
theorem dX8_digest_129 : decode cX8_digest 129 = .ok (.lmul, 1) := by decide +kernel
theorem dX8_digest_130 : decode cX8_digest 130 = .ok (.aload_n 0, 1) := by decide +kernel
theorem dX8_digest_131 : decode cX8_digest 131 = .ok (.invokevirtual 261, 3) := by decide +kernel
theorem dX8_digest_134 : decode cX8_digest 134 = .ok (.i2l, 1) := by decide +kernel
theorem dX8_digest_135 : decode cX8_digest 135 = .ok (.ladd, 1) := by decide +kernel
theorem dX8_digest_136 : decode cX8_digest 136 = .ok (.lstore_n 1, 1) := by decide +kernel
theorem dX8_digest_137 : decode cX8_digest 137 = .ok (.lload_n 1, 1) := by decide +kernel
theorem dX8_digest_138 : decode cX8_digest 138 = .ok (.ldc2_w 235, 3) := by decide +kernel
theorem dX8_digest_141 : decode cX8_digest 141 = .ok (.lmul, 1) := by decide +kernel
theorem dX8_digest_142 : decode cX8_digest 142 = .ok (.aload_n 0, 1) := by decide +kernel
theorem dX8_digest_143 : decode cX8_digest 143 = .ok (.invokevirtual 264, 3) := by decide +kernel
theorem dX8_digest_146 : decode cX8_digest 146 = .ok (.i2l, 1) := by decide +kernel
theorem dX8_digest_147 : decode cX8_digest 147 = .ok (.ladd, 1) := by decide +kernel
theorem dX8_digest_148 : decode cX8_digest 148 = .ok (.lstore_n 1, 1) := by decide +kernel
theorem dX8_digest_149 : decode cX8_digest 149 = .ok (.lload_n 1, 1) := by decide +kernel
theorem dX8_digest_150 : decode cX8_digest 150 = .ok (.ldc2_w 235, 3) := by decide +kernel
theorem dX8_digest_153 : decode cX8_digest 153 = .ok (.lmul, 1) := by decide +kernel
theorem dX8_digest_154 : decode cX8_digest 154 = .ok (.aload_n 0, 1) := by decide +kernel
theorem dX8_digest_155 : decode cX8_digest 155 = .ok (.invokevirtual 267, 3) := by decide +kernel
theorem dX8_digest_158 : decode cX8_digest 158 = .ok (.i2l, 1) := by decide +kernel
theorem dX8_digest_159 : decode cX8_digest 159 = .ok (.ladd, 1) := by decide +kernel
theorem dX8_digest_160 : decode cX8_digest 160 = .ok (.lstore_n 1, 1) := by decide +kernel
theorem dX8_digest_161 : decode cX8_digest 161 = .ok (.iconst 0, 1) := by decide +kernel
theorem dX8_digest_162 : decode cX8_digest 162 = .ok (.istore_n 3, 1) := by decide +kernel
theorem dX8_digest_163 : decode cX8_digest 163 = .ok (.iload_n 3, 1) := by decide +kernel
theorem dX8_digest_164 : decode cX8_digest 164 = .ok (.aload_n 0, 1) := by decide +kernel
theorem dX8_digest_165 : decode cX8_digest 165 = .ok (.getfield 58, 3) := by decide +kernel
theorem dX8_digest_168 : decode cX8_digest 168 = .ok (.getfield 163, 3) := by decide +kernel
theorem dX8_digest_171 : decode cX8_digest 171 = .ok (.getfield 167, 3) := by decide +kernel
theorem dX8_digest_174 : decode cX8_digest 174 = .ok (.if_icmp .ge 47, 3) := by decide +kernel
theorem dX8_digest_177 : decode cX8_digest 177 = .ok (.lload_n 1, 1) := by decide +kernel
theorem dX8_digest_178 : decode cX8_digest 178 = .ok (.ldc2_w 235, 3) := by decide +kernel
theorem dX8_digest_181 : decode cX8_digest 181 = .ok (.lmul, 1) := by decide +kernel
theorem dX8_digest_182 : decode cX8_digest 182 = .ok (.aload_n 0, 1) := by decide +kernel
theorem dX8_digest_183 : decode cX8_digest 183 = .ok (.getfield 58, 3) := by decide +kernel
theorem dX8_digest_186 : decode cX8_digest 186 = .ok (.getfield 163, 3) := by decide +kernel
theorem dX8_digest_189 : decode cX8_digest 189 = .ok (.iload_n 3, 1) := by decide +kernel
theorem dX8_digest_190 : decode cX8_digest 190 = .ok (.invokevirtual 178, 3) := by decide +kernel
theorem dX8_digest_193 : decode cX8_digest 193 = .ok (.i2l, 1) := by decide +kernel
theorem dX8_digest_194 : decode cX8_digest 194 = .ok (.ladd, 1) := by decide +kernel
theorem dX8_digest_195 : decode cX8_digest 195 = .ok (.lstore_n 1, 1) := by decide +kernel
theorem dX8_digest_196 : decode cX8_digest 196 = .ok (.lload_n 1, 1) := by decide +kernel
theorem dX8_digest_197 : decode cX8_digest 197 = .ok (.ldc2_w 235, 3) := by decide +kernel
theorem dX8_digest_200 : decode cX8_digest 200 = .ok (.lmul, 1) := by decide +kernel
theorem dX8_digest_201 : decode cX8_digest 201 = .ok (.aload_n 0, 1) := by decide +kernel
theorem dX8_digest_202 : decode cX8_digest 202 = .ok (.getfield 58, 3) := by decide +kernel
theorem dX8_digest_205 : decode cX8_digest 205 = .ok (.getfield 163, 3) := by decide +kernel
theorem dX8_digest_208 : decode cX8_digest 208 = .ok (.iload_n 3, 1) := by decide +kernel
theorem dX8_digest_209 : decode cX8_digest 209 = .ok (.invokevirtual 181, 3) := by decide +kernel
theorem dX8_digest_212 : decode cX8_digest 212 = .ok (.i2l, 1) := by decide +kernel
theorem dX8_digest_213 : decode cX8_digest 213 = .ok (.ladd, 1) := by decide +kernel
theorem dX8_digest_214 : decode cX8_digest 214 = .ok (.lstore_n 1, 1) := by decide +kernel
theorem dX8_digest_215 : decode cX8_digest 215 = .ok (.iinc 3 1, 3) := by decide +kernel
theorem dX8_digest_218 : decode cX8_digest 218 = .ok (.goto (-55), 3) := by decide +kernel
theorem dX8_digest_221 : decode cX8_digest 221 = .ok (.lload_n 1, 1) := by decide +kernel
theorem dX8_digest_222 : decode cX8_digest 222 = .ok (.lreturn, 1) := by decide +kernel
theorem dX8_digestOfMirror_0 : decode cX8_digestOfMirror 0 = .ok (.lload_n 1, 1) := by decide +kernel
theorem dX8_digestOfMirror_1 : decode cX8_digestOfMirror 1 = .ok (.lstore 4, 2) := by decide +kernel
theorem dX8_digestOfMirror_3 : decode cX8_digestOfMirror 3 = .ok (.lload 4, 2) := by decide +kernel
theorem dX8_digestOfMirror_5 : decode cX8_digestOfMirror 5 = .ok (.ldc2_w 235, 3) := by decide +kernel
theorem dX8_digestOfMirror_8 : decode cX8_digestOfMirror 8 = .ok (.lmul, 1) := by decide +kernel
theorem dX8_digestOfMirror_9 : decode cX8_digestOfMirror 9 = .ok (.aload_n 0, 1) := by decide +kernel
theorem dX8_digestOfMirror_10 : decode cX8_digestOfMirror 10 = .ok (.getfield 58, 3) := by decide +kernel
theorem dX8_digestOfMirror_13 : decode cX8_digestOfMirror 13 = .ok (.getfield 112, 3) := by decide +kernel
theorem dX8_digestOfMirror_16 : decode cX8_digestOfMirror 16 = .ok (.sipush 129, 3) := by decide +kernel
theorem dX8_digestOfMirror_19 : decode cX8_digestOfMirror 19 = .ok (.iload_n 3, 1) := by decide +kernel
theorem dX8_digestOfMirror_20 : decode cX8_digestOfMirror 20 = .ok (.invokevirtual 145, 3) := by decide +kernel
theorem dX8_digestOfMirror_23 : decode cX8_digestOfMirror 23 = .ok (.i2l, 1) := by decide +kernel
theorem dX8_digestOfMirror_24 : decode cX8_digestOfMirror 24 = .ok (.ladd, 1) := by decide +kernel
theorem dX8_digestOfMirror_25 : decode cX8_digestOfMirror 25 = .ok (.lstore 4, 2) := by decide +kernel
theorem dX8_digestOfMirror_27 : decode cX8_digestOfMirror 27 = .ok (.lload 4, 2) := by decide +kernel
theorem dX8_digestOfMirror_29 : decode cX8_digestOfMirror 29 = .ok (.ldc2_w 235, 3) := by decide +kernel
theorem dX8_digestOfMirror_32 : decode cX8_digestOfMirror 32 = .ok (.lmul, 1) := by decide +kernel
theorem dX8_digestOfMirror_33 : decode cX8_digestOfMirror 33 = .ok (.aload_n 0, 1) := by decide +kernel
theorem dX8_digestOfMirror_34 : decode cX8_digestOfMirror 34 = .ok (.getfield 58, 3) := by decide +kernel
theorem dX8_digestOfMirror_37 : decode cX8_digestOfMirror 37 = .ok (.getfield 112, 3) := by decide +kernel
theorem dX8_digestOfMirror_40 : decode cX8_digestOfMirror 40 = .ok (.sipush 145, 3) := by decide +kernel
theorem dX8_digestOfMirror_43 : decode cX8_digestOfMirror 43 = .ok (.iload_n 3, 1) := by decide +kernel
theorem dX8_digestOfMirror_44 : decode cX8_digestOfMirror 44 = .ok (.invokevirtual 145, 3) := by decide +kernel
theorem dX8_digestOfMirror_47 : decode cX8_digestOfMirror 47 = .ok (.i2l, 1) := by decide +kernel
theorem dX8_digestOfMirror_48 : decode cX8_digestOfMirror 48 = .ok (.ladd, 1) := by decide +kernel
theorem dX8_digestOfMirror_49 : decode cX8_digestOfMirror 49 = .ok (.lstore 4, 2) := by decide +kernel
theorem dX8_digestOfMirror_51 : decode cX8_digestOfMirror 51 = .ok (.lload 4, 2) := by decide +kernel
theorem dX8_digestOfMirror_53 : decode cX8_digestOfMirror 53 = .ok (.ldc2_w 235, 3) := by decide +kernel
theorem dX8_digestOfMirror_56 : decode cX8_digestOfMirror 56 = .ok (.lmul, 1) := by decide +kernel
theorem dX8_digestOfMirror_57 : decode cX8_digestOfMirror 57 = .ok (.aload_n 0, 1) := by decide +kernel
theorem dX8_digestOfMirror_58 : decode cX8_digestOfMirror 58 = .ok (.getfield 58, 3) := by decide +kernel
theorem dX8_digestOfMirror_61 : decode cX8_digestOfMirror 61 = .ok (.getfield 112, 3) := by decide +kernel
theorem dX8_digestOfMirror_64 : decode cX8_digestOfMirror 64 = .ok (.sipush 130, 3) := by decide +kernel
theorem dX8_digestOfMirror_67 : decode cX8_digestOfMirror 67 = .ok (.iload_n 3, 1) := by decide +kernel
theorem dX8_digestOfMirror_68 : decode cX8_digestOfMirror 68 = .ok (.invokevirtual 145, 3) := by decide +kernel
theorem dX8_digestOfMirror_71 : decode cX8_digestOfMirror 71 = .ok (.i2l, 1) := by decide +kernel
theorem dX8_digestOfMirror_72 : decode cX8_digestOfMirror 72 = .ok (.ladd, 1) := by decide +kernel
theorem dX8_digestOfMirror_73 : decode cX8_digestOfMirror 73 = .ok (.lstore 4, 2) := by decide +kernel
theorem dX8_digestOfMirror_75 : decode cX8_digestOfMirror 75 = .ok (.lload 4, 2) := by decide +kernel
theorem dX8_digestOfMirror_77 : decode cX8_digestOfMirror 77 = .ok (.ldc2_w 235, 3) := by decide +kernel
theorem dX8_digestOfMirror_80 : decode cX8_digestOfMirror 80 = .ok (.lmul, 1) := by decide +kernel
theorem dX8_digestOfMirror_81 : decode cX8_digestOfMirror 81 = .ok (.aload_n 0, 1) := by decide +kernel
theorem dX8_digestOfMirror_82 : decode cX8_digestOfMirror 82 = .ok (.getfield 58, 3) := by decide +kernel
theorem dX8_digestOfMirror_85 : decode cX8_digestOfMirror 85 = .ok (.getfield 112, 3) := by decide +kernel
theorem dX8_digestOfMirror_88 : decode cX8_digestOfMirror 88 = .ok (.iload_n 3, 1) := by decide +kernel
theorem dX8_digestOfMirror_89 : decode cX8_digestOfMirror 89 = .ok (.invokevirtual 149, 3) := by decide +kernel
theorem dX8_digestOfMirror_92 : decode cX8_digestOfMirror 92 = .ok (.i2l, 1) := by decide +kernel
theorem dX8_digestOfMirror_93 : decode cX8_digestOfMirror 93 = .ok (.ladd, 1) := by decide +kernel
theorem dX8_digestOfMirror_94 : decode cX8_digestOfMirror 94 = .ok (.lstore 4, 2) := by decide +kernel
theorem dX8_digestOfMirror_96 : decode cX8_digestOfMirror 96 = .ok (.lload 4, 2) := by decide +kernel
theorem dX8_digestOfMirror_98 : decode cX8_digestOfMirror 98 = .ok (.ldc2_w 235, 3) := by decide +kernel
theorem dX8_digestOfMirror_101 : decode cX8_digestOfMirror 101 = .ok (.lmul, 1) := by decide +kernel
theorem dX8_digestOfMirror_102 : decode cX8_digestOfMirror 102 = .ok (.aload_n 0, 1) := by decide +kernel
theorem dX8_digestOfMirror_103 : decode cX8_digestOfMirror 103 = .ok (.getfield 58, 3) := by decide +kernel
theorem dX8_digestOfMirror_106 : decode cX8_digestOfMirror 106 = .ok (.getfield 112, 3) := by decide +kernel
theorem dX8_digestOfMirror_109 : decode cX8_digestOfMirror 109 = .ok (.sipush 141, 3) := by decide +kernel
theorem dX8_digestOfMirror_112 : decode cX8_digestOfMirror 112 = .ok (.iload_n 3, 1) := by decide +kernel
theorem dX8_digestOfMirror_113 : decode cX8_digestOfMirror 113 = .ok (.invokevirtual 145, 3) := by decide +kernel
theorem dX8_digestOfMirror_116 : decode cX8_digestOfMirror 116 = .ok (.i2l, 1) := by decide +kernel
theorem dX8_digestOfMirror_117 : decode cX8_digestOfMirror 117 = .ok (.ladd, 1) := by decide +kernel
theorem dX8_digestOfMirror_118 : decode cX8_digestOfMirror 118 = .ok (.lstore 4, 2) := by decide +kernel
theorem dX8_digestOfMirror_120 : decode cX8_digestOfMirror 120 = .ok (.lload 4, 2) := by decide +kernel
theorem dX8_digestOfMirror_122 : decode cX8_digestOfMirror 122 = .ok (.ldc2_w 235, 3) := by decide +kernel
theorem dX8_digestOfMirror_125 : decode cX8_digestOfMirror 125 = .ok (.lmul, 1) := by decide +kernel
theorem dX8_digestOfMirror_126 : decode cX8_digestOfMirror 126 = .ok (.aload_n 0, 1) := by decide +kernel
theorem dX8_digestOfMirror_127 : decode cX8_digestOfMirror 127 = .ok (.getfield 58, 3) := by decide +kernel
theorem dX8_digestOfMirror_130 : decode cX8_digestOfMirror 130 = .ok (.getfield 112, 3) := by decide +kernel
theorem dX8_digestOfMirror_133 : decode cX8_digestOfMirror 133 = .ok (.sipush 143, 3) := by decide +kernel
theorem dX8_digestOfMirror_136 : decode cX8_digestOfMirror 136 = .ok (.iload_n 3, 1) := by decide +kernel
theorem dX8_digestOfMirror_137 : decode cX8_digestOfMirror 137 = .ok (.invokevirtual 145, 3) := by decide +kernel
theorem dX8_digestOfMirror_140 : decode cX8_digestOfMirror 140 = .ok (.i2l, 1) := by decide +kernel
theorem dX8_digestOfMirror_141 : decode cX8_digestOfMirror 141 = .ok (.ladd, 1) := by decide +kernel
theorem dX8_digestOfMirror_142 : decode cX8_digestOfMirror 142 = .ok (.lstore 4, 2) := by decide +kernel
theorem dX8_digestOfMirror_144 : decode cX8_digestOfMirror 144 = .ok (.lload 4, 2) := by decide +kernel
theorem dX8_digestOfMirror_146 : decode cX8_digestOfMirror 146 = .ok (.ldc2_w 235, 3) := by decide +kernel
theorem dX8_digestOfMirror_149 : decode cX8_digestOfMirror 149 = .ok (.lmul, 1) := by decide +kernel
theorem dX8_digestOfMirror_150 : decode cX8_digestOfMirror 150 = .ok (.aload_n 0, 1) := by decide +kernel
theorem dX8_digestOfMirror_151 : decode cX8_digestOfMirror 151 = .ok (.getfield 58, 3) := by decide +kernel
theorem dX8_digestOfMirror_154 : decode cX8_digestOfMirror 154 = .ok (.getfield 112, 3) := by decide +kernel
theorem dX8_digestOfMirror_157 : decode cX8_digestOfMirror 157 = .ok (.sipush 144, 3) := by decide +kernel
theorem dX8_digestOfMirror_160 : decode cX8_digestOfMirror 160 = .ok (.iload_n 3, 1) := by decide +kernel
theorem dX8_digestOfMirror_161 : decode cX8_digestOfMirror 161 = .ok (.invokevirtual 145, 3) := by decide +kernel
theorem dX8_digestOfMirror_164 : decode cX8_digestOfMirror 164 = .ok (.i2l, 1) := by decide +kernel
theorem dX8_digestOfMirror_165 : decode cX8_digestOfMirror 165 = .ok (.ladd, 1) := by decide +kernel
theorem dX8_digestOfMirror_166 : decode cX8_digestOfMirror 166 = .ok (.lstore 4, 2) := by decide +kernel
theorem dX8_digestOfMirror_168 : decode cX8_digestOfMirror 168 = .ok (.lload 4, 2) := by decide +kernel
theorem dX8_digestOfMirror_170 : decode cX8_digestOfMirror 170 = .ok (.ldc2_w 235, 3) := by decide +kernel
theorem dX8_digestOfMirror_173 : decode cX8_digestOfMirror 173 = .ok (.lmul, 1) := by decide +kernel
theorem dX8_digestOfMirror_174 : decode cX8_digestOfMirror 174 = .ok (.aload_n 0, 1) := by decide +kernel
theorem dX8_digestOfMirror_175 : decode cX8_digestOfMirror 175 = .ok (.getfield 58, 3) := by decide +kernel
theorem dX8_digestOfMirror_178 : decode cX8_digestOfMirror 178 = .ok (.getfield 112, 3) := by decide +kernel
theorem dX8_digestOfMirror_181 : decode cX8_digestOfMirror 181 = .ok (.getfield 152, 3) := by decide +kernel
theorem dX8_digestOfMirror_184 : decode cX8_digestOfMirror 184 = .ok (.iload_n 3, 1) := by decide +kernel
theorem dX8_digestOfMirror_185 : decode cX8_digestOfMirror 185 = .ok (.if_icmp .ne 7, 3) := by decide +kernel
theorem dX8_digestOfMirror_188 : decode cX8_digestOfMirror 188 = .ok (.iconst 1, 1) := by decide +kernel
theorem dX8_digestOfMirror_189 : decode cX8_digestOfMirror 189 = .ok (.goto 4, 3) := by decide +kernel
theorem dX8_digestOfMirror_192 : decode cX8_digestOfMirror 192 = .ok (.iconst 0, 1) := by decide +kernel
theorem dX8_digestOfMirror_193 : decode cX8_digestOfMirror 193 = .ok (.i2l, 1) := by decide +kernel
theorem dX8_digestOfMirror_194 : decode cX8_digestOfMirror 194 = .ok (.ladd, 1) := by decide +kernel
theorem dX8_digestOfMirror_195 : decode cX8_digestOfMirror 195 = .ok (.lstore 4, 2) := by decide +kernel
theorem dX8_digestOfMirror_197 : decode cX8_digestOfMirror 197 = .ok (.lload 4, 2) := by decide +kernel
theorem dX8_digestOfMirror_199 : decode cX8_digestOfMirror 199 = .ok (.lreturn, 1) := by decide +kernel
theorem dX8_lightIfTurned_0 : decode cX8_lightIfTurned 0 = .ok (.aload_n 0, 1) := by decide +kernel
theorem dX8_lightIfTurned_1 : decode cX8_lightIfTurned 1 = .ok (.getfield 62, 3) := by decide +kernel
theorem dX8_lightIfTurned_4 : decode cX8_lightIfTurned 4 = .ok (.getfield 112, 3) := by decide +kernel
theorem dX8_lightIfTurned_7 : decode cX8_lightIfTurned 7 = .ok (.iload_n 1, 1) := by decide +kernel
theorem dX8_lightIfTurned_8 : decode cX8_lightIfTurned 8 = .ok (.iload_n 2, 1) := by decide +kernel
theorem dX8_lightIfTurned_9 : decode cX8_lightIfTurned 9 = .ok (.invokevirtual 202, 3) := by decide +kernel
theorem dX8_lightIfTurned_12 : decode cX8_lightIfTurned 12 = .ok (.aload_n 0, 1) := by decide +kernel
theorem dX8_lightIfTurned_13 : decode cX8_lightIfTurned 13 = .ok (.getfield 62, 3) := by decide +kernel
theorem dX8_lightIfTurned_16 : decode cX8_lightIfTurned 16 = .ok (.getfield 112, 3) := by decide +kernel
theorem dX8_lightIfTurned_19 : decode cX8_lightIfTurned 19 = .ok (.invokevirtual 127, 3) := by decide +kernel
theorem dX8_lightIfTurned_22 : decode cX8_lightIfTurned 22 = .ok (.ireturn, 1) := by decide +kernel
theorem dX8_checkMirror_0 : decode cX8_checkMirror 0 = .ok (.iload_n 1, 1) := by decide +kernel
theorem dX8_checkMirror_1 : decode cX8_checkMirror 1 = .ok (.ifCond .lt 17, 3) := by decide +kernel
theorem dX8_checkMirror_4 : decode cX8_checkMirror 4 = .ok (.iload_n 1, 1) := by decide +kernel
theorem dX8_checkMirror_5 : decode cX8_checkMirror 5 = .ok (.aload_n 0, 1) := by decide +kernel
theorem dX8_checkMirror_6 : decode cX8_checkMirror 6 = .ok (.getfield 58, 3) := by decide +kernel
theorem dX8_checkMirror_9 : decode cX8_checkMirror 9 = .ok (.getfield 112, 3) := by decide +kernel
theorem dX8_checkMirror_12 : decode cX8_checkMirror 12 = .ok (.getfield 116, 3) := by decide +kernel
theorem dX8_checkMirror_15 : decode cX8_checkMirror 15 = .ok (.if_icmp .lt 14, 3) := by decide +kernel
theorem dX8_checkMirror_18 : decode cX8_checkMirror 18 = .ok (.new 155, 3) := by decide +kernel
theorem dX8_checkMirror_21 : decode cX8_checkMirror 21 = .ok (.dup, 1) := by decide +kernel
theorem dX8_checkMirror_22 : decode cX8_checkMirror 22 = .ok (.ldc_w 270, 3) := by decide +kernel
theorem dX8_checkMirror_25 : decode cX8_checkMirror 25 = .ok (.invokespecial 159, 3) := by decide +kernel
theorem dX8_checkMirror_28 : decode cX8_checkMirror 28 = .ok (.athrow, 1) := by decide +kernel
theorem dX8_checkMirror_29 : decode cX8_checkMirror 29 = .ok (.return_, 1) := by decide +kernel
theorem dX8_checkJob_0 : decode cX8_checkJob 0 = .ok (.iload_n 1, 1) := by decide +kernel
theorem dX8_checkJob_1 : decode cX8_checkJob 1 = .ok (.ifCond .lt 17, 3) := by decide +kernel
theorem dX8_checkJob_4 : decode cX8_checkJob 4 = .ok (.iload_n 1, 1) := by decide +kernel
theorem dX8_checkJob_5 : decode cX8_checkJob 5 = .ok (.aload_n 0, 1) := by decide +kernel
theorem dX8_checkJob_6 : decode cX8_checkJob 6 = .ok (.getfield 58, 3) := by decide +kernel
theorem dX8_checkJob_9 : decode cX8_checkJob 9 = .ok (.getfield 163, 3) := by decide +kernel
theorem dX8_checkJob_12 : decode cX8_checkJob 12 = .ok (.getfield 167, 3) := by decide +kernel
theorem dX8_checkJob_15 : decode cX8_checkJob 15 = .ok (.if_icmp .lt 14, 3) := by decide +kernel
theorem dX8_checkJob_18 : decode cX8_checkJob 18 = .ok (.new 155, 3) := by decide +kernel
theorem dX8_checkJob_21 : decode cX8_checkJob 21 = .ok (.dup, 1) := by decide +kernel
theorem dX8_checkJob_22 : decode cX8_checkJob 22 = .ok (.ldc_w 272, 3) := by decide +kernel
theorem dX8_checkJob_25 : decode cX8_checkJob 25 = .ok (.invokespecial 159, 3) := by decide +kernel
theorem dX8_checkJob_28 : decode cX8_checkJob 28 = .ok (.athrow, 1) := by decide +kernel
theorem dX8_checkJob_29 : decode cX8_checkJob 29 = .ok (.return_, 1) := by decide +kernel
theorem dX8_checkMinutes_0 : decode cX8_checkMinutes 0 = .ok (.iload_n 0, 1) := by decide +kernel
theorem dX8_checkMinutes_1 : decode cX8_checkMinutes 1 = .ok (.iconst 1, 1) := by decide +kernel
theorem dX8_checkMinutes_2 : decode cX8_checkMinutes 2 = .ok (.if_icmp .lt 9, 3) := by decide +kernel
theorem dX8_checkMinutes_5 : decode cX8_checkMinutes 5 = .ok (.iload_n 0, 1) := by decide +kernel
theorem dX8_checkMinutes_6 : decode cX8_checkMinutes 6 = .ok (.bipush 100, 2) := by decide +kernel
theorem dX8_checkMinutes_8 : decode cX8_checkMinutes 8 = .ok (.if_icmp .le 14, 3) := by decide +kernel
theorem dX8_checkMinutes_11 : decode cX8_checkMinutes 11 = .ok (.new 83, 3) := by decide +kernel
theorem dX8_checkMinutes_14 : decode cX8_checkMinutes 14 = .ok (.dup, 1) := by decide +kernel
theorem dX8_checkMinutes_15 : decode cX8_checkMinutes 15 = .ok (.ldc_w 274, 3) := by decide +kernel
theorem dX8_checkMinutes_18 : decode cX8_checkMinutes 18 = .ok (.invokespecial 87, 3) := by decide +kernel
theorem dX8_checkMinutes_21 : decode cX8_checkMinutes 21 = .ok (.athrow, 1) := by decide +kernel
theorem dX8_checkMinutes_22 : decode cX8_checkMinutes 22 = .ok (.return_, 1) := by decide +kernel
theorem dX8_isOrder_0 : decode cX8_isOrder 0 = .ok (.iload_n 0, 1) := by decide +kernel
theorem dX8_isOrder_1 : decode cX8_isOrder 1 = .ok (.sipush 133, 3) := by decide +kernel
theorem dX8_isOrder_4 : decode cX8_isOrder 4 = .ok (.if_icmp .eq 31, 3) := by decide +kernel
theorem dX8_isOrder_7 : decode cX8_isOrder 7 = .ok (.iload_n 0, 1) := by decide +kernel
theorem dX8_isOrder_8 : decode cX8_isOrder 8 = .ok (.sipush 135, 3) := by decide +kernel
theorem dX8_isOrder_11 : decode cX8_isOrder 11 = .ok (.if_icmp .eq 24, 3) := by decide +kernel
theorem dX8_isOrder_14 : decode cX8_isOrder 14 = .ok (.iload_n 0, 1) := by decide +kernel
theorem dX8_isOrder_15 : decode cX8_isOrder 15 = .ok (.sipush 136, 3) := by decide +kernel
theorem dX8_isOrder_18 : decode cX8_isOrder 18 = .ok (.if_icmp .eq 17, 3) := by decide +kernel
theorem dX8_isOrder_21 : decode cX8_isOrder 21 = .ok (.iload_n 0, 1) := by decide +kernel
theorem dX8_isOrder_22 : decode cX8_isOrder 22 = .ok (.sipush 137, 3) := by decide +kernel
theorem dX8_isOrder_25 : decode cX8_isOrder 25 = .ok (.if_icmp .eq 10, 3) := by decide +kernel
theorem dX8_isOrder_28 : decode cX8_isOrder 28 = .ok (.iload_n 0, 1) := by decide +kernel
theorem dX8_isOrder_29 : decode cX8_isOrder 29 = .ok (.sipush 138, 3) := by decide +kernel
theorem dX8_isOrder_32 : decode cX8_isOrder 32 = .ok (.if_icmp .ne 7, 3) := by decide +kernel
theorem dX8_isOrder_35 : decode cX8_isOrder 35 = .ok (.iconst 1, 1) := by decide +kernel
theorem dX8_isOrder_36 : decode cX8_isOrder 36 = .ok (.goto 4, 3) := by decide +kernel
theorem dX8_isOrder_39 : decode cX8_isOrder 39 = .ok (.iconst 0, 1) := by decide +kernel
theorem dX8_isOrder_40 : decode cX8_isOrder 40 = .ok (.ireturn, 1) := by decide +kernel
theorem dX8_isOrderBySum_0 : decode cX8_isOrderBySum 0 = .ok (.iload_n 0, 1) := by decide +kernel
theorem dX8_isOrderBySum_1 : decode cX8_isOrderBySum 1 = .ok (.sipush 133, 3) := by decide +kernel
theorem dX8_isOrderBySum_4 : decode cX8_isOrderBySum 4 = .ok (.if_icmp .eq 10, 3) := by decide +kernel
theorem dX8_isOrderBySum_7 : decode cX8_isOrderBySum 7 = .ok (.iload_n 0, 1) := by decide +kernel
theorem dX8_isOrderBySum_8 : decode cX8_isOrderBySum 8 = .ok (.sipush 135, 3) := by decide +kernel
theorem dX8_isOrderBySum_11 : decode cX8_isOrderBySum 11 = .ok (.if_icmp .ne 7, 3) := by decide +kernel
theorem dX8_isOrderBySum_14 : decode cX8_isOrderBySum 14 = .ok (.iconst 1, 1) := by decide +kernel
theorem dX8_isOrderBySum_15 : decode cX8_isOrderBySum 15 = .ok (.goto 4, 3) := by decide +kernel
theorem dX8_isOrderBySum_18 : decode cX8_isOrderBySum 18 = .ok (.iconst 0, 1) := by decide +kernel
theorem dX8_isOrderBySum_19 : decode cX8_isOrderBySum 19 = .ok (.ireturn, 1) := by decide +kernel
theorem dX8_hold_0 : decode cX8_hold 0 = .ok (.iload_n 2, 1) := by decide +kernel
theorem dX8_hold_1 : decode cX8_hold 1 = .ok (.i2l, 1) := by decide +kernel
theorem dX8_hold_2 : decode cX8_hold 2 = .ok (.iload_n 3, 1) := by decide +kernel
theorem dX8_hold_3 : decode cX8_hold 3 = .ok (.i2l, 1) := by decide +kernel
theorem dX8_hold_4 : decode cX8_hold 4 = .ok (.lload_n 0, 1) := by decide +kernel
theorem dX8_hold_5 : decode cX8_hold 5 = .ok (.invokestatic 276, 3) := by decide +kernel
theorem dX8_hold_8 : decode cX8_hold 8 = .ok (.invokestatic 282, 3) := by decide +kernel
theorem dX8_hold_11 : decode cX8_hold 11 = .ok (.l2i, 1) := by decide +kernel
theorem dX8_hold_12 : decode cX8_hold 12 = .ok (.ireturn, 1) := by decide +kernel
