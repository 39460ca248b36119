theorem dL_feed_0 : decode cL_feed 0 = .ok (.aload 6, 2) := by decide +kernel
theorem dL_feed_2 : decode cL_feed 2 = .ok (.iconst 0, 1) := by decide +kernel
theorem dL_feed_3 : decode cL_feed 3 = .ok (.aload_n 0, 1) := by decide +kernel
theorem dL_feed_4 : decode cL_feed 4 = .ok (.iload_n 1, 1) := by decide +kernel
theorem dL_feed_5 : decode cL_feed 5 = .ok (.iload_n 2, 1) := by decide +kernel
theorem dL_feed_6 : decode cL_feed 6 = .ok (.iload_n 3, 1) := by decide +kernel
theorem dL_feed_7 : decode cL_feed 7 = .ok (.iload 4, 2) := by decide +kernel
theorem dL_feed_9 : decode cL_feed 9 = .ok (.iload 5, 2) := by decide +kernel
theorem dL_feed_11 : decode cL_feed 11 = .ok (.invokevirtual 7, 3) := by decide +kernel
theorem dL_feed_14 : decode cL_feed 14 = .ok (.i2l, 1) := by decide +kernel
theorem dL_feed_15 : decode cL_feed 15 = .ok (.lastore, 1) := by decide +kernel
theorem dL_feed_16 : decode cL_feed 16 = .ok (.goto 7, 3) := by decide +kernel
theorem dL_feed_19 : decode cL_feed 19 = .ok (.astore 7, 2) := by decide +kernel
theorem dL_feed_21 : decode cL_feed 21 = .ok (.iconst 1, 1) := by decide +kernel
theorem dL_feed_22 : decode cL_feed 22 = .ok (.ireturn, 1) := by decide +kernel
theorem dL_feed_23 : decode cL_feed 23 = .ok (.iconst 0, 1) := by decide +kernel
theorem dL_feed_24 : decode cL_feed 24 = .ok (.ireturn, 1) := by decide +kernel
theorem dL_trim_0 : decode cL_trim 0 = .ok (.aload_n 2, 1) := by decide +kernel
theorem dL_trim_1 : decode cL_trim 1 = .ok (.iconst 0, 1) := by decide +kernel
theorem dL_trim_2 : decode cL_trim 2 = .ok (.aload_n 0, 1) := by decide +kernel
theorem dL_trim_3 : decode cL_trim 3 = .ok (.iload_n 1, 1) := by decide +kernel
theorem dL_trim_4 : decode cL_trim 4 = .ok (.invokevirtual 15, 3) := by decide +kernel
theorem dL_trim_7 : decode cL_trim 7 = .ok (.i2l, 1) := by decide +kernel
theorem dL_trim_8 : decode cL_trim 8 = .ok (.lastore, 1) := by decide +kernel
theorem dL_trim_9 : decode cL_trim 9 = .ok (.goto 6, 3) := by decide +kernel
theorem dL_trim_12 : decode cL_trim 12 = .ok (.astore_n 3, 1) := by decide +kernel
theorem dL_trim_13 : decode cL_trim 13 = .ok (.iconst 1, 1) := by decide +kernel
theorem dL_trim_14 : decode cL_trim 14 = .ok (.ireturn, 1) := by decide +kernel
theorem dL_trim_15 : decode cL_trim 15 = .ok (.iconst 0, 1) := by decide +kernel
theorem dL_trim_16 : decode cL_trim 16 = .ok (.ireturn, 1) := by decide +kernel
theorem dL_worstMirror_0 : decode cL_worstMirror 0 = .ok (.aload_n 1, 1) := by decide +kernel
theorem dL_worstMirror_1 : decode cL_worstMirror 1 = .ok (.iconst 0, 1) := by decide +kernel
theorem dL_worstMirror_2 : decode cL_worstMirror 2 = .ok (.aload_n 0, 1) := by decide +kernel
theorem dL_worstMirror_3 : decode cL_worstMirror 3 = .ok (.invokevirtual 21, 3) := by decide +kernel
theorem dL_worstMirror_6 : decode cL_worstMirror 6 = .ok (.i2l, 1) := by decide +kernel
theorem dL_worstMirror_7 : decode cL_worstMirror 7 = .ok (.lastore, 1) := by decide +kernel
theorem dL_worstMirror_8 : decode cL_worstMirror 8 = .ok (.goto 6, 3) := by decide +kernel
theorem dL_worstMirror_11 : decode cL_worstMirror 11 = .ok (.astore_n 2, 1) := by decide +kernel
theorem dL_worstMirror_12 : decode cL_worstMirror 12 = .ok (.iconst 1, 1) := by decide +kernel
theorem dL_worstMirror_13 : decode cL_worstMirror 13 = .ok (.ireturn, 1) := by decide +kernel
theorem dL_worstMirror_14 : decode cL_worstMirror 14 = .ok (.iconst 0, 1) := by decide +kernel
theorem dL_worstMirror_15 : decode cL_worstMirror 15 = .ok (.ireturn, 1) := by decide +kernel
theorem dL_clarityOf_0 : decode cL_clarityOf 0 = .ok (.aload_n 2, 1) := by decide +kernel
theorem dL_clarityOf_1 : decode cL_clarityOf 1 = .ok (.iconst 0, 1) := by decide +kernel
theorem dL_clarityOf_2 : decode cL_clarityOf 2 = .ok (.aload_n 0, 1) := by decide +kernel
theorem dL_clarityOf_3 : decode cL_clarityOf 3 = .ok (.iload_n 1, 1) := by decide +kernel
theorem dL_clarityOf_4 : decode cL_clarityOf 4 = .ok (.invokevirtual 25, 3) := by decide +kernel
theorem dL_clarityOf_7 : decode cL_clarityOf 7 = .ok (.i2l, 1) := by decide +kernel
theorem dL_clarityOf_8 : decode cL_clarityOf 8 = .ok (.lastore, 1) := by decide +kernel
theorem dL_clarityOf_9 : decode cL_clarityOf 9 = .ok (.goto 6, 3) := by decide +kernel
theorem dL_clarityOf_12 : decode cL_clarityOf 12 = .ok (.astore_n 3, 1) := by decide +kernel
theorem dL_clarityOf_13 : decode cL_clarityOf 13 = .ok (.iconst 1, 1) := by decide +kernel
theorem dL_clarityOf_14 : decode cL_clarityOf 14 = .ok (.ireturn, 1) := by decide +kernel
theorem dL_clarityOf_15 : decode cL_clarityOf 15 = .ok (.iconst 0, 1) := by decide +kernel
theorem dL_clarityOf_16 : decode cL_clarityOf 16 = .ok (.ireturn, 1) := by decide +kernel
theorem dL_bestClarityOf_0 : decode cL_bestClarityOf 0 = .ok (.aload_n 2, 1) := by decide +kernel
theorem dL_bestClarityOf_1 : decode cL_bestClarityOf 1 = .ok (.iconst 0, 1) := by decide +kernel
theorem dL_bestClarityOf_2 : decode cL_bestClarityOf 2 = .ok (.aload_n 0, 1) := by decide +kernel
theorem dL_bestClarityOf_3 : decode cL_bestClarityOf 3 = .ok (.iload_n 1, 1) := by decide +kernel
theorem dL_bestClarityOf_4 : decode cL_bestClarityOf 4 = .ok (.invokevirtual 30, 3) := by decide +kernel
theorem dL_bestClarityOf_7 : decode cL_bestClarityOf 7 = .ok (.i2l, 1) := by decide +kernel
theorem dL_bestClarityOf_8 : decode cL_bestClarityOf 8 = .ok (.lastore, 1) := by decide +kernel
theorem dL_bestClarityOf_9 : decode cL_bestClarityOf 9 = .ok (.goto 6, 3) := by decide +kernel
theorem dL_bestClarityOf_12 : decode cL_bestClarityOf 12 = .ok (.astore_n 3, 1) := by decide +kernel
theorem dL_bestClarityOf_13 : decode cL_bestClarityOf 13 = .ok (.iconst 1, 1) := by decide +kernel
theorem dL_bestClarityOf_14 : decode cL_bestClarityOf 14 = .ok (.ireturn, 1) := by decide +kernel
theorem dL_bestClarityOf_15 : decode cL_bestClarityOf 15 = .ok (.iconst 0, 1) := by decide +kernel
theorem dL_bestClarityOf_16 : decode cL_bestClarityOf 16 = .ok (.ireturn, 1) := by decide +kernel
theorem dL_offsetOf_0 : decode cL_offsetOf 0 = .ok (.aload_n 2, 1) := by decide +kernel
theorem dL_offsetOf_1 : decode cL_offsetOf 1 = .ok (.iconst 0, 1) := by decide +kernel
theorem dL_offsetOf_2 : decode cL_offsetOf 2 = .ok (.aload_n 0, 1) := by decide +kernel
theorem dL_offsetOf_3 : decode cL_offsetOf 3 = .ok (.iload_n 1, 1) := by decide +kernel
theorem dL_offsetOf_4 : decode cL_offsetOf 4 = .ok (.invokevirtual 33, 3) := by decide +kernel
theorem dL_offsetOf_7 : decode cL_offsetOf 7 = .ok (.i2l, 1) := by decide +kernel
theorem dL_offsetOf_8 : decode cL_offsetOf 8 = .ok (.lastore, 1) := by decide +kernel
theorem dL_offsetOf_9 : decode cL_offsetOf 9 = .ok (.goto 6, 3) := by decide +kernel
theorem dL_offsetOf_12 : decode cL_offsetOf 12 = .ok (.astore_n 3, 1) := by decide +kernel
theorem dL_offsetOf_13 : decode cL_offsetOf 13 = .ok (.iconst 1, 1) := by decide +kernel
theorem dL_offsetOf_14 : decode cL_offsetOf 14 = .ok (.ireturn, 1) := by decide +kernel
theorem dL_offsetOf_15 : decode cL_offsetOf 15 = .ok (.iconst 0, 1) := by decide +kernel
theorem dL_offsetOf_16 : decode cL_offsetOf 16 = .ok (.ireturn, 1) := by decide +kernel
theorem dL_placeOf_0 : decode cL_placeOf 0 = .ok (.aload_n 2, 1) := by decide +kernel
theorem dL_placeOf_1 : decode cL_placeOf 1 = .ok (.iconst 0, 1) := by decide +kernel
theorem dL_placeOf_2 : decode cL_placeOf 2 = .ok (.aload_n 0, 1) := by decide +kernel
theorem dL_placeOf_3 : decode cL_placeOf 3 = .ok (.iload_n 1, 1) := by decide +kernel
theorem dL_placeOf_4 : decode cL_placeOf 4 = .ok (.invokevirtual 36, 3) := by decide +kernel
theorem dL_placeOf_7 : decode cL_placeOf 7 = .ok (.i2l, 1) := by decide +kernel
theorem dL_placeOf_8 : decode cL_placeOf 8 = .ok (.lastore, 1) := by decide +kernel
theorem dL_placeOf_9 : decode cL_placeOf 9 = .ok (.goto 6, 3) := by decide +kernel
theorem dL_placeOf_12 : decode cL_placeOf 12 = .ok (.astore_n 3, 1) := by decide +kernel
theorem dL_placeOf_13 : decode cL_placeOf 13 = .ok (.iconst 1, 1) := by decide +kernel
theorem dL_placeOf_14 : decode cL_placeOf 14 = .ok (.ireturn, 1) := by decide +kernel
theorem dL_placeOf_15 : decode cL_placeOf 15 = .ok (.iconst 0, 1) := by decide +kernel
theorem dL_placeOf_16 : decode cL_placeOf 16 = .ok (.ireturn, 1) := by decide +kernel
theorem dL_lightBehind_0 : decode cL_lightBehind 0 = .ok (.aload_n 2, 1) := by decide +kernel
theorem dL_lightBehind_1 : decode cL_lightBehind 1 = .ok (.iconst 0, 1) := by decide +kernel
theorem dL_lightBehind_2 : decode cL_lightBehind 2 = .ok (.aload_n 0, 1) := by decide +kernel
theorem dL_lightBehind_3 : decode cL_lightBehind 3 = .ok (.iload_n 1, 1) := by decide +kernel
theorem dL_lightBehind_4 : decode cL_lightBehind 4 = .ok (.invokevirtual 39, 3) := by decide +kernel
theorem dL_lightBehind_7 : decode cL_lightBehind 7 = .ok (.i2l, 1) := by decide +kernel
theorem dL_lightBehind_8 : decode cL_lightBehind 8 = .ok (.lastore, 1) := by decide +kernel
theorem dL_lightBehind_9 : decode cL_lightBehind 9 = .ok (.goto 6, 3) := by decide +kernel
theorem dL_lightBehind_12 : decode cL_lightBehind 12 = .ok (.astore_n 3, 1) := by decide +kernel
theorem dL_lightBehind_13 : decode cL_lightBehind 13 = .ok (.iconst 1, 1) := by decide +kernel
theorem dL_lightBehind_14 : decode cL_lightBehind 14 = .ok (.ireturn, 1) := by decide +kernel
theorem dL_lightBehind_15 : decode cL_lightBehind 15 = .ok (.iconst 0, 1) := by decide +kernel
theorem dL_lightBehind_16 : decode cL_lightBehind 16 = .ok (.ireturn, 1) := by decide +kernel
theorem dL_lostAt_0 : decode cL_lostAt 0 = .ok (.aload_n 2, 1) := by decide +kernel
theorem dL_lostAt_1 : decode cL_lostAt 1 = .ok (.iconst 0, 1) := by decide +kernel
theorem dL_lostAt_2 : decode cL_lostAt 2 = .ok (.aload_n 0, 1) := by decide +kernel
theorem dL_lostAt_3 : decode cL_lostAt 3 = .ok (.iload_n 1, 1) := by decide +kernel
theorem dL_lostAt_4 : decode cL_lostAt 4 = .ok (.invokevirtual 42, 3) := by decide +kernel
theorem dL_lostAt_7 : decode cL_lostAt 7 = .ok (.i2l, 1) := by decide +kernel
theorem dL_lostAt_8 : decode cL_lostAt 8 = .ok (.lastore, 1) := by decide +kernel
theorem dL_lostAt_9 : decode cL_lostAt 9 = .ok (.goto 6, 3) := by decide +kernel
theorem dL_lostAt_12 : decode cL_lostAt 12 = .ok (.astore_n 3, 1) := by decide +kernel
theorem dL_lostAt_13 : decode cL_lostAt 13 = .ok (.iconst 1, 1) := by decide +kernel
theorem dL_lostAt_14 : decode cL_lostAt 14 = .ok (.ireturn, 1) := by decide +kernel
theorem dL_lostAt_15 : decode cL_lostAt 15 = .ok (.iconst 0, 1) := by decide +kernel
theorem dL_lostAt_16 : decode cL_lostAt 16 = .ok (.ireturn, 1) := by decide +kernel
theorem dL_tiltBehind_0 : decode cL_tiltBehind 0 = .ok (.aload_n 2, 1) := by decide +kernel
theorem dL_tiltBehind_1 : decode cL_tiltBehind 1 = .ok (.iconst 0, 1) := by decide +kernel
theorem dL_tiltBehind_2 : decode cL_tiltBehind 2 = .ok (.aload_n 0, 1) := by decide +kernel
theorem dL_tiltBehind_3 : decode cL_tiltBehind 3 = .ok (.iload_n 1, 1) := by decide +kernel
theorem dL_tiltBehind_4 : decode cL_tiltBehind 4 = .ok (.invokevirtual 45, 3) := by decide +kernel
theorem dL_tiltBehind_7 : decode cL_tiltBehind 7 = .ok (.i2l, 1) := by decide +kernel
theorem dL_tiltBehind_8 : decode cL_tiltBehind 8 = .ok (.lastore, 1) := by decide +kernel
theorem dL_tiltBehind_9 : decode cL_tiltBehind 9 = .ok (.goto 6, 3) := by decide +kernel
theorem dL_tiltBehind_12 : decode cL_tiltBehind 12 = .ok (.astore_n 3, 1) := by decide +kernel
theorem dL_tiltBehind_13 : decode cL_tiltBehind 13 = .ok (.iconst 1, 1) := by decide +kernel
theorem dL_tiltBehind_14 : decode cL_tiltBehind 14 = .ok (.ireturn, 1) := by decide +kernel
theorem dL_tiltBehind_15 : decode cL_tiltBehind 15 = .ok (.iconst 0, 1) := by decide +kernel
theorem dL_tiltBehind_16 : decode cL_tiltBehind 16 = .ok (.ireturn, 1) := by decide +kernel
theorem dL_isCovered_0 : decode cL_isCovered 0 = .ok (.aload_n 2, 1) := by decide +kernel
theorem dL_isCovered_1 : decode cL_isCovered 1 = .ok (.iconst 0, 1) := by decide +kernel
theorem dL_isCovered_2 : decode cL_isCovered 2 = .ok (.aload_n 0, 1) := by decide +kernel
theorem dL_isCovered_3 : decode cL_isCovered 3 = .ok (.iload_n 1, 1) := by decide +kernel
theorem dL_isCovered_4 : decode cL_isCovered 4 = .ok (.invokevirtual 48, 3) := by decide +kernel
theorem dL_isCovered_7 : decode cL_isCovered 7 = .ok (.ifCond .eq 7, 3) := by decide +kernel
theorem dL_isCovered_10 : decode cL_isCovered 10 = .ok (.lconst 1, 1) := by decide +kernel
theorem dL_isCovered_11 : decode cL_isCovered 11 = .ok (.goto 4, 3) := by decide +kernel
theorem dL_isCovered_14 : decode cL_isCovered 14 = .ok (.lconst 0, 1) := by decide +kernel
theorem dL_isCovered_15 : decode cL_isCovered 15 = .ok (.lastore, 1) := by decide +kernel
theorem dL_isCovered_16 : decode cL_isCovered 16 = .ok (.goto 6, 3) := by decide +kernel
theorem dL_isCovered_19 : decode cL_isCovered 19 = .ok (.astore_n 3, 1) := by decide +kernel
theorem dL_isCovered_20 : decode cL_isCovered 20 = .ok (.iconst 1, 1) := by decide +kernel
theorem dL_isCovered_21 : decode cL_isCovered 21 = .ok (.ireturn, 1) := by decide +kernel
theorem dL_isCovered_22 : decode cL_isCovered 22 = .ok (.iconst 0, 1) := by decide +kernel
theorem dL_isCovered_23 : decode cL_isCovered 23 = .ok (.ireturn, 1) := by decide +kernel
theorem dL_mirrorAt_0 : decode cL_mirrorAt 0 = .ok (.aload_n 2, 1) := by decide +kernel
theorem dL_mirrorAt_1 : decode cL_mirrorAt 1 = .ok (.iconst 0, 1) := by decide +kernel
theorem dL_mirrorAt_2 : decode cL_mirrorAt 2 = .ok (.aload_n 0, 1) := by decide +kernel
theorem dL_mirrorAt_3 : decode cL_mirrorAt 3 = .ok (.iload_n 1, 1) := by decide +kernel
theorem dL_mirrorAt_4 : decode cL_mirrorAt 4 = .ok (.invokevirtual 52, 3) := by decide +kernel
theorem dL_mirrorAt_7 : decode cL_mirrorAt 7 = .ok (.i2l, 1) := by decide +kernel
theorem dL_mirrorAt_8 : decode cL_mirrorAt 8 = .ok (.lastore, 1) := by decide +kernel
theorem dL_mirrorAt_9 : decode cL_mirrorAt 9 = .ok (.goto 6, 3) := by decide +kernel
theorem dL_mirrorAt_12 : decode cL_mirrorAt 12 = .ok (.astore_n 3, 1) := by decide +kernel
theorem dL_mirrorAt_13 : decode cL_mirrorAt 13 = .ok (.iconst 1, 1) := by decide +kernel
theorem dL_mirrorAt_14 : decode cL_mirrorAt 14 = .ok (.ireturn, 1) := by decide +kernel
theorem dL_mirrorAt_15 : decode cL_mirrorAt 15 = .ok (.iconst 0, 1) := by decide +kernel
theorem dL_mirrorAt_16 : decode cL_mirrorAt 16 = .ok (.ireturn, 1) := by decide +kernel
theorem dL_kindOfJob_0 : decode cL_kindOfJob 0 = .ok (.aload_n 2, 1) := by decide +kernel
theorem dL_kindOfJob_1 : decode cL_kindOfJob 1 = .ok (.iconst 0, 1) := by decide +kernel
theorem dL_kindOfJob_2 : decode cL_kindOfJob 2 = .ok (.aload_n 0, 1) := by decide +kernel
theorem dL_kindOfJob_3 : decode cL_kindOfJob 3 = .ok (.iload_n 1, 1) := by decide +kernel
theorem dL_kindOfJob_4 : decode cL_kindOfJob 4 = .ok (.invokevirtual 55, 3) := by decide +kernel
theorem dL_kindOfJob_7 : decode cL_kindOfJob 7 = .ok (.i2l, 1) := by decide +kernel
theorem dL_kindOfJob_8 : decode cL_kindOfJob 8 = .ok (.lastore, 1) := by decide +kernel
theorem dL_kindOfJob_9 : decode cL_kindOfJob 9 = .ok (.goto 6, 3) := by decide +kernel
theorem dL_kindOfJob_12 : decode cL_kindOfJob 12 = .ok (.astore_n 3, 1) := by decide +kernel
theorem dL_kindOfJob_13 : decode cL_kindOfJob 13 = .ok (.iconst 1, 1) := by decide +kernel
theorem dL_kindOfJob_14 : decode cL_kindOfJob 14 = .ok (.ireturn, 1) := by decide +kernel
theorem dL_kindOfJob_15 : decode cL_kindOfJob 15 = .ok (.iconst 0, 1) := by decide +kernel
theorem dL_kindOfJob_16 : decode cL_kindOfJob 16 = .ok (.ireturn, 1) := by decide +kernel
theorem dL_mirrorOfJob_0 : decode cL_mirrorOfJob 0 = .ok (.aload_n 2, 1) := by decide +kernel
theorem dL_mirrorOfJob_1 : decode cL_mirrorOfJob 1 = .ok (.iconst 0, 1) := by decide +kernel
theorem dL_mirrorOfJob_2 : decode cL_mirrorOfJob 2 = .ok (.aload_n 0, 1) := by decide +kernel
theorem dL_mirrorOfJob_3 : decode cL_mirrorOfJob 3 = .ok (.iload_n 1, 1) := by decide +kernel
theorem dL_mirrorOfJob_4 : decode cL_mirrorOfJob 4 = .ok (.invokevirtual 58, 3) := by decide +kernel
theorem dL_mirrorOfJob_7 : decode cL_mirrorOfJob 7 = .ok (.i2l, 1) := by decide +kernel
theorem dL_mirrorOfJob_8 : decode cL_mirrorOfJob 8 = .ok (.lastore, 1) := by decide +kernel
theorem dL_mirrorOfJob_9 : decode cL_mirrorOfJob 9 = .ok (.goto 6, 3) := by decide +kernel
theorem dL_mirrorOfJob_12 : decode cL_mirrorOfJob 12 = .ok (.astore_n 3, 1) := by decide +kernel
theorem dL_mirrorOfJob_13 : decode cL_mirrorOfJob 13 = .ok (.iconst 1, 1) := by decide +kernel
theorem dL_mirrorOfJob_14 : decode cL_mirrorOfJob 14 = .ok (.ireturn, 1) := by decide +kernel
theorem dL_mirrorOfJob_15 : decode cL_mirrorOfJob 15 = .ok (.iconst 0, 1) := by decide +kernel
theorem dL_mirrorOfJob_16 : decode cL_mirrorOfJob 16 = .ok (.ireturn, 1) := by decide +kernel
theorem dL_orderJob_0 : decode cL_orderJob 0 = .ok (.aload_n 3, 1) := by decide +kernel
theorem dL_orderJob_1 : decode cL_orderJob 1 = .ok (.iconst 0, 1) := by decide +kernel
theorem dL_orderJob_2 : decode cL_orderJob 2 = .ok (.aload_n 0, 1) := by decide +kernel
theorem dL_orderJob_3 : decode cL_orderJob 3 = .ok (.iload_n 1, 1) := by decide +kernel
theorem dL_orderJob_4 : decode cL_orderJob 4 = .ok (.iload_n 2, 1) := by decide +kernel
theorem dL_orderJob_5 : decode cL_orderJob 5 = .ok (.invokevirtual 61, 3) := by decide +kernel
theorem dL_orderJob_8 : decode cL_orderJob 8 = .ok (.i2l, 1) := by decide +kernel
theorem dL_orderJob_9 : decode cL_orderJob 9 = .ok (.lastore, 1) := by decide +kernel
theorem dL_orderJob_10 : decode cL_orderJob 10 = .ok (.goto 15, 3) := by decide +kernel
theorem dL_orderJob_13 : decode cL_orderJob 13 = .ok (.astore 4, 2) := by decide +kernel
theorem dL_orderJob_15 : decode cL_orderJob 15 = .ok (.iconst 1, 1) := by decide +kernel
theorem dL_orderJob_16 : decode cL_orderJob 16 = .ok (.ireturn, 1) := by decide +kernel
theorem dL_orderJob_17 : decode cL_orderJob 17 = .ok (.astore 4, 2) := by decide +kernel
theorem dL_orderJob_19 : decode cL_orderJob 19 = .ok (.iconst 2, 1) := by decide +kernel
theorem dL_orderJob_20 : decode cL_orderJob 20 = .ok (.ireturn, 1) := by decide +kernel
theorem dL_orderJob_21 : decode cL_orderJob 21 = .ok (.astore 4, 2) := by decide +kernel
theorem dL_orderJob_23 : decode cL_orderJob 23 = .ok (.iconst 3, 1) := by decide +kernel
theorem dL_orderJob_24 : decode cL_orderJob 24 = .ok (.ireturn, 1) := by decide +kernel
theorem dL_orderJob_25 : decode cL_orderJob 25 = .ok (.iconst 0, 1) := by decide +kernel
theorem dL_orderJob_26 : decode cL_orderJob 26 = .ok (.ireturn, 1) := by decide +kernel
theorem dL_cancelJob_0 : decode cL_cancelJob 0 = .ok (.aload_n 2, 1) := by decide +kernel
theorem dL_cancelJob_1 : decode cL_cancelJob 1 = .ok (.iconst 0, 1) := by decide +kernel
theorem dL_cancelJob_2 : decode cL_cancelJob 2 = .ok (.aload_n 0, 1) := by decide +kernel
theorem dL_cancelJob_3 : decode cL_cancelJob 3 = .ok (.iload_n 1, 1) := by decide +kernel
theorem dL_cancelJob_4 : decode cL_cancelJob 4 = .ok (.invokevirtual 65, 3) := by decide +kernel
theorem dL_cancelJob_7 : decode cL_cancelJob 7 = .ok (.i2l, 1) := by decide +kernel
theorem dL_cancelJob_8 : decode cL_cancelJob 8 = .ok (.lastore, 1) := by decide +kernel
theorem dL_cancelJob_9 : decode cL_cancelJob 9 = .ok (.goto 6, 3) := by decide +kernel
theorem dL_cancelJob_12 : decode cL_cancelJob 12 = .ok (.astore_n 3, 1) := by decide +kernel
theorem dL_cancelJob_13 : decode cL_cancelJob 13 = .ok (.iconst 1, 1) := by decide +kernel
theorem dL_cancelJob_14 : decode cL_cancelJob 14 = .ok (.ireturn, 1) := by decide +kernel
theorem dL_cancelJob_15 : decode cL_cancelJob 15 = .ok (.iconst 0, 1) := by decide +kernel
theorem dL_cancelJob_16 : decode cL_cancelJob 16 = .ok (.ireturn, 1) := by decide +kernel
theorem dL_turnMirror_0 : decode cL_turnMirror 0 = .ok (.aload_n 3, 1) := by decide +kernel
theorem dL_turnMirror_1 : decode cL_turnMirror 1 = .ok (.iconst 0, 1) := by decide +kernel
theorem dL_turnMirror_2 : decode cL_turnMirror 2 = .ok (.aload_n 0, 1) := by decide +kernel
theorem dL_turnMirror_3 : decode cL_turnMirror 3 = .ok (.iload_n 1, 1) := by decide +kernel
theorem dL_turnMirror_4 : decode cL_turnMirror 4 = .ok (.iload_n 2, 1) := by decide +kernel
theorem dL_turnMirror_5 : decode cL_turnMirror 5 = .ok (.invokevirtual 68, 3) := by decide +kernel
theorem dL_turnMirror_8 : decode cL_turnMirror 8 = .ok (.i2l, 1) := by decide +kernel
theorem dL_turnMirror_9 : decode cL_turnMirror 9 = .ok (.lastore, 1) := by decide +kernel
theorem dL_turnMirror_10 : decode cL_turnMirror 10 = .ok (.goto 11, 3) := by decide +kernel
theorem dL_turnMirror_13 : decode cL_turnMirror 13 = .ok (.astore 4, 2) := by decide +kernel
theorem dL_turnMirror_15 : decode cL_turnMirror 15 = .ok (.iconst 1, 1) := by decide +kernel
theorem dL_turnMirror_16 : decode cL_turnMirror 16 = .ok (.ireturn, 1) := by decide +kernel
theorem dL_turnMirror_17 : decode cL_turnMirror 17 = .ok (.astore 4, 2) := by decide +kernel
theorem dL_turnMirror_19 : decode cL_turnMirror 19 = .ok (.iconst 2, 1) := by decide +kernel
theorem dL_turnMirror_20 : decode cL_turnMirror 20 = .ok (.ireturn, 1) := by decide +kernel
theorem dL_turnMirror_21 : decode cL_turnMirror 21 = .ok (.iconst 0, 1) := by decide +kernel
theorem dL_turnMirror_22 : decode cL_turnMirror 22 = .ok (.ireturn, 1) := by decide +kernel
theorem dL_dustMirror_0 : decode cL_dustMirror 0 = .ok (.aload_n 3, 1) := by decide +kernel
theorem dL_dustMirror_1 : decode cL_dustMirror 1 = .ok (.iconst 0, 1) := by decide +kernel
theorem dL_dustMirror_2 : decode cL_dustMirror 2 = .ok (.aload_n 0, 1) := by decide +kernel
theorem dL_dustMirror_3 : decode cL_dustMirror 3 = .ok (.iload_n 1, 1) := by decide +kernel
theorem dL_dustMirror_4 : decode cL_dustMirror 4 = .ok (.iload_n 2, 1) := by decide +kernel
theorem dL_dustMirror_5 : decode cL_dustMirror 5 = .ok (.invokevirtual 71, 3) := by decide +kernel
theorem dL_dustMirror_8 : decode cL_dustMirror 8 = .ok (.i2l, 1) := by decide +kernel
theorem dL_dustMirror_9 : decode cL_dustMirror 9 = .ok (.lastore, 1) := by decide +kernel
theorem dL_dustMirror_10 : decode cL_dustMirror 10 = .ok (.goto 11, 3) := by decide +kernel
theorem dL_dustMirror_13 : decode cL_dustMirror 13 = .ok (.astore 4, 2) := by decide +kernel
theorem dL_dustMirror_15 : decode cL_dustMirror 15 = .ok (.iconst 1, 1) := by decide +kernel
theorem dL_dustMirror_16 : decode cL_dustMirror 16 = .ok (.ireturn, 1) := by decide +kernel
theorem dL_dustMirror_17 : decode cL_dustMirror 17 = .ok (.astore 4, 2) := by decide +kernel
theorem dL_dustMirror_19 : decode cL_dustMirror 19 = .ok (.iconst 2, 1) := by decide +kernel
theorem dL_dustMirror_20 : decode cL_dustMirror 20 = .ok (.ireturn, 1) := by decide +kernel
theorem dL_dustMirror_21 : decode cL_dustMirror 21 = .ok (.iconst 0, 1) := by decide +kernel
theorem dL_dustMirror_22 : decode cL_dustMirror 22 = .ok (.ireturn, 1) := by decide +kernel
theorem dL_moveMirror_0 : decode cL_moveMirror 0 = .ok (.aload_n 3, 1) := by decide +kernel
theorem dL_moveMirror_1 : decode cL_moveMirror 1 = .ok (.iconst 0, 1) := by decide +kernel
theorem dL_moveMirror_2 : decode cL_moveMirror 2 = .ok (.aload_n 0, 1) := by decide +kernel
theorem dL_moveMirror_3 : decode cL_moveMirror 3 = .ok (.iload_n 1, 1) := by decide +kernel
theorem dL_moveMirror_4 : decode cL_moveMirror 4 = .ok (.iload_n 2, 1) := by decide +kernel
theorem dL_moveMirror_5 : decode cL_moveMirror 5 = .ok (.invokevirtual 74, 3) := by decide +kernel
theorem dL_moveMirror_8 : decode cL_moveMirror 8 = .ok (.i2l, 1) := by decide +kernel
theorem dL_moveMirror_9 : decode cL_moveMirror 9 = .ok (.lastore, 1) := by decide +kernel
theorem dL_moveMirror_10 : decode cL_moveMirror 10 = .ok (.goto 7, 3) := by decide +kernel
theorem dL_moveMirror_13 : decode cL_moveMirror 13 = .ok (.astore 4, 2) := by decide +kernel
theorem dL_moveMirror_15 : decode cL_moveMirror 15 = .ok (.iconst 1, 1) := by decide +kernel
theorem dL_moveMirror_16 : decode cL_moveMirror 16 = .ok (.ireturn, 1) := by decide +kernel
theorem dL_moveMirror_17 : decode cL_moveMirror 17 = .ok (.iconst 0, 1) := by decide +kernel
theorem dL_moveMirror_18 : decode cL_moveMirror 18 = .ok (.ireturn, 1) := by decide +kernel
theorem dL_passMinutes_0 : decode cL_passMinutes 0 = .ok (.aload_n 2, 1) := by decide +kernel
theorem dL_passMinutes_1 : decode cL_passMinutes 1 = .ok (.iconst 0, 1) := by decide +kernel
theorem dL_passMinutes_2 : decode cL_passMinutes 2 = .ok (.aload_n 0, 1) := by decide +kernel
theorem dL_passMinutes_3 : decode cL_passMinutes 3 = .ok (.iload_n 1, 1) := by decide +kernel
theorem dL_passMinutes_4 : decode cL_passMinutes 4 = .ok (.invokevirtual 77, 3) := by decide +kernel
theorem dL_passMinutes_7 : decode cL_passMinutes 7 = .ok (.i2l, 1) := by decide +kernel
theorem dL_passMinutes_8 : decode cL_passMinutes 8 = .ok (.lastore, 1) := by decide +kernel
theorem dL_passMinutes_9 : decode cL_passMinutes 9 = .ok (.goto 6, 3) := by decide +kernel
theorem dL_passMinutes_12 : decode cL_passMinutes 12 = .ok (.astore_n 3, 1) := by decide +kernel
theorem dL_passMinutes_13 : decode cL_passMinutes 13 = .ok (.iconst 1, 1) := by decide +kernel
theorem dL_passMinutes_14 : decode cL_passMinutes 14 = .ok (.ireturn, 1) := by decide +kernel
theorem dL_passMinutes_15 : decode cL_passMinutes 15 = .ok (.iconst 0, 1) := by decide +kernel
theorem dL_passMinutes_16 : decode cL_passMinutes 16 = .ok (.ireturn, 1) := by decide +kernel
theorem dL_lightAfter_0 : decode cL_lightAfter 0 = .ok (.aload_n 2, 1) := by decide +kernel
theorem dL_lightAfter_1 : decode cL_lightAfter 1 = .ok (.iconst 0, 1) := by decide +kernel
theorem dL_lightAfter_2 : decode cL_lightAfter 2 = .ok (.aload_n 0, 1) := by decide +kernel
theorem dL_lightAfter_3 : decode cL_lightAfter 3 = .ok (.iload_n 1, 1) := by decide +kernel
theorem dL_lightAfter_4 : decode cL_lightAfter 4 = .ok (.invokevirtual 80, 3) := by decide +kernel
theorem dL_lightAfter_7 : decode cL_lightAfter 7 = .ok (.i2l, 1) := by decide +kernel
theorem dL_lightAfter_8 : decode cL_lightAfter 8 = .ok (.lastore, 1) := by decide +kernel
theorem dL_lightAfter_9 : decode cL_lightAfter 9 = .ok (.goto 6, 3) := by decide +kernel
theorem dL_lightAfter_12 : decode cL_lightAfter 12 = .ok (.astore_n 3, 1) := by decide +kernel
theorem dL_lightAfter_13 : decode cL_lightAfter 13 = .ok (.iconst 1, 1) := by decide +kernel
theorem dL_lightAfter_14 : decode cL_lightAfter 14 = .ok (.ireturn, 1) := by decide +kernel
theorem dL_lightAfter_15 : decode cL_lightAfter 15 = .ok (.iconst 0, 1) := by decide +kernel
theorem dL_lightAfter_16 : decode cL_lightAfter 16 = .ok (.ireturn, 1) := by decide +kernel
theorem dL_minutesUntilDone_0 : decode cL_minutesUntilDone 0 = .ok (.aload_n 2, 1) := by decide +kernel
theorem dL_minutesUntilDone_1 : decode cL_minutesUntilDone 1 = .ok (.iconst 0, 1) := by decide +kernel
theorem dL_minutesUntilDone_2 : decode cL_minutesUntilDone 2 = .ok (.aload_n 0, 1) := by decide +kernel
theorem dL_minutesUntilDone_3 : decode cL_minutesUntilDone 3 = .ok (.iload_n 1, 1) := by decide +kernel
theorem dL_minutesUntilDone_4 : decode cL_minutesUntilDone 4 = .ok (.invokevirtual 83, 3) := by decide +kernel
theorem dL_minutesUntilDone_7 : decode cL_minutesUntilDone 7 = .ok (.i2l, 1) := by decide +kernel
theorem dL_minutesUntilDone_8 : decode cL_minutesUntilDone 8 = .ok (.lastore, 1) := by decide +kernel
theorem dL_minutesUntilDone_9 : decode cL_minutesUntilDone 9 = .ok (.goto 6, 3) := by decide +kernel
theorem dL_minutesUntilDone_12 : decode cL_minutesUntilDone 12 = .ok (.astore_n 3, 1) := by decide +kernel
theorem dL_minutesUntilDone_13 : decode cL_minutesUntilDone 13 = .ok (.iconst 1, 1) := by decide +kernel
theorem dL_minutesUntilDone_14 : decode cL_minutesUntilDone 14 = .ok (.ireturn, 1) := by decide +kernel
theorem dL_minutesUntilDone_15 : decode cL_minutesUntilDone 15 = .ok (.iconst 0, 1) := by decide +kernel
theorem dL_minutesUntilDone_16 : decode cL_minutesUntilDone 16 = .ok (.ireturn, 1) := by decide +kernel
theorem dL_bestOffset_0 : decode cL_bestOffset 0 = .ok (.aload_n 2, 1) := by decide +kernel
theorem dL_bestOffset_1 : decode cL_bestOffset 1 = .ok (.iconst 0, 1) := by decide +kernel
theorem dL_bestOffset_2 : decode cL_bestOffset 2 = .ok (.aload_n 0, 1) := by decide +kernel
theorem dL_bestOffset_3 : decode cL_bestOffset 3 = .ok (.iload_n 1, 1) := by decide +kernel
theorem dL_bestOffset_4 : decode cL_bestOffset 4 = .ok (.invokevirtual 86, 3) := by decide +kernel
theorem dL_bestOffset_7 : decode cL_bestOffset 7 = .ok (.i2l, 1) := by decide +kernel
theorem dL_bestOffset_8 : decode cL_bestOffset 8 = .ok (.lastore, 1) := by decide +kernel
theorem dL_bestOffset_9 : decode cL_bestOffset 9 = .ok (.goto 6, 3) := by decide +kernel
theorem dL_bestOffset_12 : decode cL_bestOffset 12 = .ok (.astore_n 3, 1) := by decide +kernel
theorem dL_bestOffset_13 : decode cL_bestOffset 13 = .ok (.iconst 1, 1) := by decide +kernel
theorem dL_bestOffset_14 : decode cL_bestOffset 14 = .ok (.ireturn, 1) := by decide +kernel
theorem dL_bestOffset_15 : decode cL_bestOffset 15 = .ok (.iconst 0, 1) := by decide +kernel
theorem dL_bestOffset_16 : decode cL_bestOffset 16 = .ok (.ireturn, 1) := by decide +kernel
