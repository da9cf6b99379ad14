theorem dX0_init_0 : decode cX0_init 0 = .ok (.aload_n 0, 1) := by decide +kernel
theorem dX0_init_1 : decode cX0_init 1 = .ok (.invokespecial 3, 3) := by decide +kernel
theorem dX0_init_4 : decode cX0_init 4 = .ok (.aload_n 0, 1) := by decide +kernel
theorem dX0_init_5 : decode cX0_init 5 = .ok (.bipush 20, 2) := by decide +kernel
theorem dX0_init_7 : decode cX0_init 7 = .ok (.newarray .int, 2) := by decide +kernel
theorem dX0_init_9 : decode cX0_init 9 = .ok (.putfield 9, 3) := by decide +kernel
theorem dX0_init_12 : decode cX0_init 12 = .ok (.aload_n 0, 1) := by decide +kernel
theorem dX0_init_13 : decode cX0_init 13 = .ok (.bipush 20, 2) := by decide +kernel
theorem dX0_init_15 : decode cX0_init 15 = .ok (.newarray .int, 2) := by decide +kernel
theorem dX0_init_17 : decode cX0_init 17 = .ok (.putfield 15, 3) := by decide +kernel
theorem dX0_init_20 : decode cX0_init 20 = .ok (.return_, 1) := by decide +kernel
theorem dX0_put_0 : decode cX0_put 0 = .ok (.iload_n 2, 1) := by decide +kernel
theorem dX0_put_1 : decode cX0_put 1 = .ok (.ifCond .eq 10, 3) := by decide +kernel
theorem dX0_put_4 : decode cX0_put 4 = .ok (.aload_n 0, 1) := by decide +kernel
theorem dX0_put_5 : decode cX0_put 5 = .ok (.getfield 9, 3) := by decide +kernel
theorem dX0_put_8 : decode cX0_put 8 = .ok (.goto 7, 3) := by decide +kernel
theorem dX0_put_11 : decode cX0_put 11 = .ok (.aload_n 0, 1) := by decide +kernel
theorem dX0_put_12 : decode cX0_put 12 = .ok (.getfield 15, 3) := by decide +kernel
theorem dX0_put_15 : decode cX0_put 15 = .ok (.astore 4, 2) := by decide +kernel
theorem dX0_put_17 : decode cX0_put 17 = .ok (.aload 4, 2) := by decide +kernel
theorem dX0_put_19 : decode cX0_put 19 = .ok (.iload_n 1, 1) := by decide +kernel
theorem dX0_put_20 : decode cX0_put 20 = .ok (.iaload, 1) := by decide +kernel
theorem dX0_put_21 : decode cX0_put 21 = .ok (.istore 5, 2) := by decide +kernel
theorem dX0_put_23 : decode cX0_put 23 = .ok (.aload 4, 2) := by decide +kernel
theorem dX0_put_25 : decode cX0_put 25 = .ok (.iload_n 1, 1) := by decide +kernel
theorem dX0_put_26 : decode cX0_put 26 = .ok (.iload_n 3, 1) := by decide +kernel
theorem dX0_put_27 : decode cX0_put 27 = .ok (.iastore, 1) := by decide +kernel
theorem dX0_put_28 : decode cX0_put 28 = .ok (.iload 5, 2) := by decide +kernel
theorem dX0_put_30 : decode cX0_put 30 = .ok (.ireturn, 1) := by decide +kernel
theorem dX0_has_0 : decode cX0_has 0 = .ok (.aload_n 0, 1) := by decide +kernel
theorem dX0_has_1 : decode cX0_has 1 = .ok (.getfield 9, 3) := by decide +kernel
theorem dX0_has_4 : decode cX0_has 4 = .ok (.iload_n 2, 1) := by decide +kernel
theorem dX0_has_5 : decode cX0_has 5 = .ok (.iaload, 1) := by decide +kernel
theorem dX0_has_6 : decode cX0_has 6 = .ok (.iload_n 1, 1) := by decide +kernel
theorem dX0_has_7 : decode cX0_has 7 = .ok (.if_icmp .eq 13, 3) := by decide +kernel
theorem dX0_has_10 : decode cX0_has 10 = .ok (.aload_n 0, 1) := by decide +kernel
theorem dX0_has_11 : decode cX0_has 11 = .ok (.getfield 15, 3) := by decide +kernel
theorem dX0_has_14 : decode cX0_has 14 = .ok (.iload_n 2, 1) := by decide +kernel
theorem dX0_has_15 : decode cX0_has 15 = .ok (.iaload, 1) := by decide +kernel
theorem dX0_has_16 : decode cX0_has 16 = .ok (.iload_n 1, 1) := by decide +kernel
theorem dX0_has_17 : decode cX0_has 17 = .ok (.if_icmp .ne 7, 3) := by decide +kernel
theorem dX0_has_20 : decode cX0_has 20 = .ok (.iconst 1, 1) := by decide +kernel
theorem dX0_has_21 : decode cX0_has 21 = .ok (.goto 4, 3) := by decide +kernel
theorem dX0_has_24 : decode cX0_has 24 = .ok (.iconst 0, 1) := by decide +kernel
theorem dX0_has_25 : decode cX0_has 25 = .ok (.ireturn, 1) := by decide +kernel
theorem dX0_pinsOf_0 : decode cX0_pinsOf 0 = .ok (.iconst 0, 1) := by decide +kernel
theorem dX0_pinsOf_1 : decode cX0_pinsOf 1 = .ok (.istore_n 2, 1) := by decide +kernel
theorem dX0_pinsOf_2 : decode cX0_pinsOf 2 = .ok (.iconst 0, 1) := by decide +kernel
theorem dX0_pinsOf_3 : decode cX0_pinsOf 3 = .ok (.istore_n 3, 1) := by decide +kernel
theorem dX0_pinsOf_4 : decode cX0_pinsOf 4 = .ok (.iload_n 3, 1) := by decide +kernel
theorem dX0_pinsOf_5 : decode cX0_pinsOf 5 = .ok (.bipush 20, 2) := by decide +kernel
theorem dX0_pinsOf_7 : decode cX0_pinsOf 7 = .ok (.if_icmp .ge 35, 3) := by decide +kernel
theorem dX0_pinsOf_10 : decode cX0_pinsOf 10 = .ok (.aload_n 0, 1) := by decide +kernel
theorem dX0_pinsOf_11 : decode cX0_pinsOf 11 = .ok (.getfield 9, 3) := by decide +kernel
theorem dX0_pinsOf_14 : decode cX0_pinsOf 14 = .ok (.iload_n 3, 1) := by decide +kernel
theorem dX0_pinsOf_15 : decode cX0_pinsOf 15 = .ok (.iaload, 1) := by decide +kernel
theorem dX0_pinsOf_16 : decode cX0_pinsOf 16 = .ok (.iload_n 1, 1) := by decide +kernel
theorem dX0_pinsOf_17 : decode cX0_pinsOf 17 = .ok (.if_icmp .ne 6, 3) := by decide +kernel
theorem dX0_pinsOf_20 : decode cX0_pinsOf 20 = .ok (.iinc 2 1, 3) := by decide +kernel
theorem dX0_pinsOf_23 : decode cX0_pinsOf 23 = .ok (.aload_n 0, 1) := by decide +kernel
theorem dX0_pinsOf_24 : decode cX0_pinsOf 24 = .ok (.getfield 15, 3) := by decide +kernel
theorem dX0_pinsOf_27 : decode cX0_pinsOf 27 = .ok (.iload_n 3, 1) := by decide +kernel
theorem dX0_pinsOf_28 : decode cX0_pinsOf 28 = .ok (.iaload, 1) := by decide +kernel
theorem dX0_pinsOf_29 : decode cX0_pinsOf 29 = .ok (.iload_n 1, 1) := by decide +kernel
theorem dX0_pinsOf_30 : decode cX0_pinsOf 30 = .ok (.if_icmp .ne 6, 3) := by decide +kernel
theorem dX0_pinsOf_33 : decode cX0_pinsOf 33 = .ok (.iinc 2 1, 3) := by decide +kernel
theorem dX0_pinsOf_36 : decode cX0_pinsOf 36 = .ok (.iinc 3 1, 3) := by decide +kernel
theorem dX0_pinsOf_39 : decode cX0_pinsOf 39 = .ok (.goto (-35), 3) := by decide +kernel
theorem dX0_pinsOf_42 : decode cX0_pinsOf 42 = .ok (.iload_n 2, 1) := by decide +kernel
theorem dX0_pinsOf_43 : decode cX0_pinsOf 43 = .ok (.ireturn, 1) := by decide +kernel
theorem dX0_firstColumn_0 : decode cX0_firstColumn 0 = .ok (.iconst 0, 1) := by decide +kernel
theorem dX0_firstColumn_1 : decode cX0_firstColumn 1 = .ok (.istore_n 2, 1) := by decide +kernel
theorem dX0_firstColumn_2 : decode cX0_firstColumn 2 = .ok (.iload_n 2, 1) := by decide +kernel
theorem dX0_firstColumn_3 : decode cX0_firstColumn 3 = .ok (.bipush 20, 2) := by decide +kernel
theorem dX0_firstColumn_5 : decode cX0_firstColumn 5 = .ok (.if_icmp .ge 20, 3) := by decide +kernel
theorem dX0_firstColumn_8 : decode cX0_firstColumn 8 = .ok (.aload_n 0, 1) := by decide +kernel
theorem dX0_firstColumn_9 : decode cX0_firstColumn 9 = .ok (.iload_n 1, 1) := by decide +kernel
theorem dX0_firstColumn_10 : decode cX0_firstColumn 10 = .ok (.iload_n 2, 1) := by decide +kernel
theorem dX0_firstColumn_11 : decode cX0_firstColumn 11 = .ok (.invokevirtual 18, 3) := by decide +kernel
theorem dX0_firstColumn_14 : decode cX0_firstColumn 14 = .ok (.ifCond .eq 5, 3) := by decide +kernel
theorem dX0_firstColumn_17 : decode cX0_firstColumn 17 = .ok (.iload_n 2, 1) := by decide +kernel
theorem dX0_firstColumn_18 : decode cX0_firstColumn 18 = .ok (.ireturn, 1) := by decide +kernel
theorem dX0_firstColumn_19 : decode cX0_firstColumn 19 = .ok (.iinc 2 1, 3) := by decide +kernel
theorem dX0_firstColumn_22 : decode cX0_firstColumn 22 = .ok (.goto (-20), 3) := by decide +kernel
theorem dX0_firstColumn_25 : decode cX0_firstColumn 25 = .ok (.iconst (-1), 1) := by decide +kernel
theorem dX0_firstColumn_26 : decode cX0_firstColumn 26 = .ok (.ireturn, 1) := by decide +kernel
theorem dX0_lastColumn_0 : decode cX0_lastColumn 0 = .ok (.bipush 19, 2) := by decide +kernel
theorem dX0_lastColumn_2 : decode cX0_lastColumn 2 = .ok (.istore_n 2, 1) := by decide +kernel
theorem dX0_lastColumn_3 : decode cX0_lastColumn 3 = .ok (.iload_n 2, 1) := by decide +kernel
theorem dX0_lastColumn_4 : decode cX0_lastColumn 4 = .ok (.ifCond .lt 20, 3) := by decide +kernel
theorem dX0_lastColumn_7 : decode cX0_lastColumn 7 = .ok (.aload_n 0, 1) := by decide +kernel
theorem dX0_lastColumn_8 : decode cX0_lastColumn 8 = .ok (.iload_n 1, 1) := by decide +kernel
theorem dX0_lastColumn_9 : decode cX0_lastColumn 9 = .ok (.iload_n 2, 1) := by decide +kernel
theorem dX0_lastColumn_10 : decode cX0_lastColumn 10 = .ok (.invokevirtual 18, 3) := by decide +kernel
theorem dX0_lastColumn_13 : decode cX0_lastColumn 13 = .ok (.ifCond .eq 5, 3) := by decide +kernel
theorem dX0_lastColumn_16 : decode cX0_lastColumn 16 = .ok (.iload_n 2, 1) := by decide +kernel
theorem dX0_lastColumn_17 : decode cX0_lastColumn 17 = .ok (.ireturn, 1) := by decide +kernel
theorem dX0_lastColumn_18 : decode cX0_lastColumn 18 = .ok (.iinc 2 (-1), 3) := by decide +kernel
theorem dX0_lastColumn_21 : decode cX0_lastColumn 21 = .ok (.goto (-18), 3) := by decide +kernel
theorem dX0_lastColumn_24 : decode cX0_lastColumn 24 = .ok (.iconst (-1), 1) := by decide +kernel
theorem dX0_lastColumn_25 : decode cX0_lastColumn 25 = .ok (.ireturn, 1) := by decide +kernel
theorem dX0_kindOf_0 : decode cX0_kindOf 0 = .ok (.aload_n 0, 1) := by decide +kernel
theorem dX0_kindOf_1 : decode cX0_kindOf 1 = .ok (.iload_n 1, 1) := by decide +kernel
theorem dX0_kindOf_2 : decode cX0_kindOf 2 = .ok (.invokevirtual 22, 3) := by decide +kernel
theorem dX0_kindOf_5 : decode cX0_kindOf 5 = .ok (.istore_n 2, 1) := by decide +kernel
theorem dX0_kindOf_6 : decode cX0_kindOf 6 = .ok (.iload_n 2, 1) := by decide +kernel
theorem dX0_kindOf_7 : decode cX0_kindOf 7 = .ok (.ifCond .ne 5, 3) := by decide +kernel
theorem dX0_kindOf_10 : decode cX0_kindOf 10 = .ok (.iconst 0, 1) := by decide +kernel
theorem dX0_kindOf_11 : decode cX0_kindOf 11 = .ok (.ireturn, 1) := by decide +kernel
theorem dX0_kindOf_12 : decode cX0_kindOf 12 = .ok (.iload_n 2, 1) := by decide +kernel
theorem dX0_kindOf_13 : decode cX0_kindOf 13 = .ok (.iconst 1, 1) := by decide +kernel
theorem dX0_kindOf_14 : decode cX0_kindOf 14 = .ok (.if_icmp .ne 5, 3) := by decide +kernel
theorem dX0_kindOf_17 : decode cX0_kindOf 17 = .ok (.iconst 1, 1) := by decide +kernel
theorem dX0_kindOf_18 : decode cX0_kindOf 18 = .ok (.ireturn, 1) := by decide +kernel
theorem dX0_kindOf_19 : decode cX0_kindOf 19 = .ok (.aload_n 0, 1) := by decide +kernel
theorem dX0_kindOf_20 : decode cX0_kindOf 20 = .ok (.iload_n 1, 1) := by decide +kernel
theorem dX0_kindOf_21 : decode cX0_kindOf 21 = .ok (.invokevirtual 26, 3) := by decide +kernel
theorem dX0_kindOf_24 : decode cX0_kindOf 24 = .ok (.aload_n 0, 1) := by decide +kernel
theorem dX0_kindOf_25 : decode cX0_kindOf 25 = .ok (.iload_n 1, 1) := by decide +kernel
theorem dX0_kindOf_26 : decode cX0_kindOf 26 = .ok (.invokevirtual 29, 3) := by decide +kernel
theorem dX0_kindOf_29 : decode cX0_kindOf 29 = .ok (.if_icmp .ne 7, 3) := by decide +kernel
theorem dX0_kindOf_32 : decode cX0_kindOf 32 = .ok (.iconst 2, 1) := by decide +kernel
theorem dX0_kindOf_33 : decode cX0_kindOf 33 = .ok (.goto 4, 3) := by decide +kernel
theorem dX0_kindOf_36 : decode cX0_kindOf 36 = .ok (.iconst 3, 1) := by decide +kernel
theorem dX0_kindOf_37 : decode cX0_kindOf 37 = .ok (.ireturn, 1) := by decide +kernel
theorem dX0_isLong_0 : decode cX0_isLong 0 = .ok (.aload_n 0, 1) := by decide +kernel
theorem dX0_isLong_1 : decode cX0_isLong 1 = .ok (.iload_n 1, 1) := by decide +kernel
theorem dX0_isLong_2 : decode cX0_isLong 2 = .ok (.invokevirtual 32, 3) := by decide +kernel
theorem dX0_isLong_5 : decode cX0_isLong 5 = .ok (.iconst 3, 1) := by decide +kernel
theorem dX0_isLong_6 : decode cX0_isLong 6 = .ok (.if_icmp .ne 7, 3) := by decide +kernel
theorem dX0_isLong_9 : decode cX0_isLong 9 = .ok (.iconst 1, 1) := by decide +kernel
theorem dX0_isLong_10 : decode cX0_isLong 10 = .ok (.goto 4, 3) := by decide +kernel
theorem dX0_isLong_13 : decode cX0_isLong 13 = .ok (.iconst 0, 1) := by decide +kernel
theorem dX0_isLong_14 : decode cX0_isLong 14 = .ok (.ireturn, 1) := by decide +kernel
theorem dX0_anySingle_0 : decode cX0_anySingle 0 = .ok (.iconst 1, 1) := by decide +kernel
theorem dX0_anySingle_1 : decode cX0_anySingle 1 = .ok (.istore_n 1, 1) := by decide +kernel
theorem dX0_anySingle_2 : decode cX0_anySingle 2 = .ok (.iload_n 1, 1) := by decide +kernel
theorem dX0_anySingle_3 : decode cX0_anySingle 3 = .ok (.bipush 9, 2) := by decide +kernel
theorem dX0_anySingle_5 : decode cX0_anySingle 5 = .ok (.if_icmp .gt 20, 3) := by decide +kernel
theorem dX0_anySingle_8 : decode cX0_anySingle 8 = .ok (.aload_n 0, 1) := by decide +kernel
theorem dX0_anySingle_9 : decode cX0_anySingle 9 = .ok (.iload_n 1, 1) := by decide +kernel
theorem dX0_anySingle_10 : decode cX0_anySingle 10 = .ok (.invokevirtual 32, 3) := by decide +kernel
theorem dX0_anySingle_13 : decode cX0_anySingle 13 = .ok (.iconst 1, 1) := by decide +kernel
theorem dX0_anySingle_14 : decode cX0_anySingle 14 = .ok (.if_icmp .ne 5, 3) := by decide +kernel
theorem dX0_anySingle_17 : decode cX0_anySingle 17 = .ok (.iconst 1, 1) := by decide +kernel
theorem dX0_anySingle_18 : decode cX0_anySingle 18 = .ok (.ireturn, 1) := by decide +kernel
theorem dX0_anySingle_19 : decode cX0_anySingle 19 = .ok (.iinc 1 1, 3) := by decide +kernel
theorem dX0_anySingle_22 : decode cX0_anySingle 22 = .ok (.goto (-20), 3) := by decide +kernel
theorem dX0_anySingle_25 : decode cX0_anySingle 25 = .ok (.iconst 0, 1) := by decide +kernel
theorem dX0_anySingle_26 : decode cX0_anySingle 26 = .ok (.ireturn, 1) := by decide +kernel
theorem dX0_longNetsAt_0 : decode cX0_longNetsAt 0 = .ok (.iconst 0, 1) := by decide +kernel
theorem dX0_longNetsAt_1 : decode cX0_longNetsAt 1 = .ok (.istore_n 2, 1) := by decide +kernel
theorem dX0_longNetsAt_2 : decode cX0_longNetsAt 2 = .ok (.iconst 1, 1) := by decide +kernel
theorem dX0_longNetsAt_3 : decode cX0_longNetsAt 3 = .ok (.istore_n 3, 1) := by decide +kernel
theorem dX0_longNetsAt_4 : decode cX0_longNetsAt 4 = .ok (.iload_n 3, 1) := by decide +kernel
theorem dX0_longNetsAt_5 : decode cX0_longNetsAt 5 = .ok (.bipush 9, 2) := by decide +kernel
theorem dX0_longNetsAt_7 : decode cX0_longNetsAt 7 = .ok (.if_icmp .gt 38, 3) := by decide +kernel
theorem dX0_longNetsAt_10 : decode cX0_longNetsAt 10 = .ok (.aload_n 0, 1) := by decide +kernel
theorem dX0_longNetsAt_11 : decode cX0_longNetsAt 11 = .ok (.iload_n 3, 1) := by decide +kernel
theorem dX0_longNetsAt_12 : decode cX0_longNetsAt 12 = .ok (.invokevirtual 35, 3) := by decide +kernel
theorem dX0_longNetsAt_15 : decode cX0_longNetsAt 15 = .ok (.ifCond .eq 24, 3) := by decide +kernel
theorem dX0_longNetsAt_18 : decode cX0_longNetsAt 18 = .ok (.aload_n 0, 1) := by decide +kernel
theorem dX0_longNetsAt_19 : decode cX0_longNetsAt 19 = .ok (.iload_n 3, 1) := by decide +kernel
theorem dX0_longNetsAt_20 : decode cX0_longNetsAt 20 = .ok (.invokevirtual 26, 3) := by decide +kernel
theorem dX0_longNetsAt_23 : decode cX0_longNetsAt 23 = .ok (.iload_n 1, 1) := by decide +kernel
theorem dX0_longNetsAt_24 : decode cX0_longNetsAt 24 = .ok (.if_icmp .gt 15, 3) := by decide +kernel
theorem dX0_longNetsAt_27 : decode cX0_longNetsAt 27 = .ok (.iload_n 1, 1) := by decide +kernel
theorem dX0_longNetsAt_28 : decode cX0_longNetsAt 28 = .ok (.aload_n 0, 1) := by decide +kernel
theorem dX0_longNetsAt_29 : decode cX0_longNetsAt 29 = .ok (.iload_n 3, 1) := by decide +kernel
theorem dX0_longNetsAt_30 : decode cX0_longNetsAt 30 = .ok (.invokevirtual 29, 3) := by decide +kernel
theorem dX0_longNetsAt_33 : decode cX0_longNetsAt 33 = .ok (.if_icmp .gt 6, 3) := by decide +kernel
theorem dX0_longNetsAt_36 : decode cX0_longNetsAt 36 = .ok (.iinc 2 1, 3) := by decide +kernel
theorem dX0_longNetsAt_39 : decode cX0_longNetsAt 39 = .ok (.iinc 3 1, 3) := by decide +kernel
theorem dX0_longNetsAt_42 : decode cX0_longNetsAt 42 = .ok (.goto (-38), 3) := by decide +kernel
theorem dX0_longNetsAt_45 : decode cX0_longNetsAt 45 = .ok (.iload_n 2, 1) := by decide +kernel
theorem dX0_longNetsAt_46 : decode cX0_longNetsAt 46 = .ok (.ireturn, 1) := by decide +kernel
theorem dX1_init_0 : decode cX1_init 0 = .ok (.aload_n 0, 1) := by decide +kernel
theorem dX1_init_1 : decode cX1_init 1 = .ok (.invokespecial 3, 3) := by decide +kernel
theorem dX1_init_4 : decode cX1_init 4 = .ok (.aload_n 0, 1) := by decide +kernel
theorem dX1_init_5 : decode cX1_init 5 = .ok (.bipush 38, 2) := by decide +kernel
theorem dX1_init_7 : decode cX1_init 7 = .ok (.newarray .int, 2) := by decide +kernel
theorem dX1_init_9 : decode cX1_init 9 = .ok (.putfield 9, 3) := by decide +kernel
theorem dX1_init_12 : decode cX1_init 12 = .ok (.aload_n 0, 1) := by decide +kernel
theorem dX1_init_13 : decode cX1_init 13 = .ok (.bipush 38, 2) := by decide +kernel
theorem dX1_init_15 : decode cX1_init 15 = .ok (.newarray .int, 2) := by decide +kernel
theorem dX1_init_17 : decode cX1_init 17 = .ok (.putfield 15, 3) := by decide +kernel
theorem dX1_init_20 : decode cX1_init 20 = .ok (.aload_n 0, 1) := by decide +kernel
theorem dX1_init_21 : decode cX1_init 21 = .ok (.bipush 38, 2) := by decide +kernel
theorem dX1_init_23 : decode cX1_init 23 = .ok (.newarray .int, 2) := by decide +kernel
theorem dX1_init_25 : decode cX1_init 25 = .ok (.putfield 18, 3) := by decide +kernel
theorem dX1_init_28 : decode cX1_init 28 = .ok (.aload_n 0, 1) := by decide +kernel
theorem dX1_init_29 : decode cX1_init 29 = .ok (.bipush 38, 2) := by decide +kernel
theorem dX1_init_31 : decode cX1_init 31 = .ok (.newarray .int, 2) := by decide +kernel
theorem dX1_init_33 : decode cX1_init 33 = .ok (.putfield 21, 3) := by decide +kernel
theorem dX1_init_36 : decode cX1_init 36 = .ok (.aload_n 0, 1) := by decide +kernel
theorem dX1_init_37 : decode cX1_init 37 = .ok (.bipush 38, 2) := by decide +kernel
theorem dX1_init_39 : decode cX1_init 39 = .ok (.newarray .int, 2) := by decide +kernel
theorem dX1_init_41 : decode cX1_init 41 = .ok (.putfield 24, 3) := by decide +kernel
theorem dX1_init_44 : decode cX1_init 44 = .ok (.aload_n 0, 1) := by decide +kernel
theorem dX1_init_45 : decode cX1_init 45 = .ok (.bipush 38, 2) := by decide +kernel
theorem dX1_init_47 : decode cX1_init 47 = .ok (.newarray .long, 2) := by decide +kernel
theorem dX1_init_49 : decode cX1_init 49 = .ok (.putfield 27, 3) := by decide +kernel
theorem dX1_init_52 : decode cX1_init 52 = .ok (.aload_n 0, 1) := by decide +kernel
theorem dX1_init_53 : decode cX1_init 53 = .ok (.bipush 38, 2) := by decide +kernel
theorem dX1_init_55 : decode cX1_init 55 = .ok (.newarray .int, 2) := by decide +kernel
theorem dX1_init_57 : decode cX1_init 57 = .ok (.putfield 31, 3) := by decide +kernel
theorem dX1_init_60 : decode cX1_init 60 = .ok (.aload_n 0, 1) := by decide +kernel
theorem dX1_init_61 : decode cX1_init 61 = .ok (.iconst 0, 1) := by decide +kernel
theorem dX1_init_62 : decode cX1_init 62 = .ok (.putfield 34, 3) := by decide +kernel
theorem dX1_init_65 : decode cX1_init 65 = .ok (.aload_n 0, 1) := by decide +kernel
theorem dX1_init_66 : decode cX1_init 66 = .ok (.iconst 0, 1) := by decide +kernel
theorem dX1_init_67 : decode cX1_init 67 = .ok (.putfield 38, 3) := by decide +kernel
theorem dX1_init_70 : decode cX1_init 70 = .ok (.return_, 1) := by decide +kernel
theorem dX1_clear_0 : decode cX1_clear 0 = .ok (.aload_n 0, 1) := by decide +kernel
theorem dX1_clear_1 : decode cX1_clear 1 = .ok (.iconst 0, 1) := by decide +kernel
theorem dX1_clear_2 : decode cX1_clear 2 = .ok (.putfield 34, 3) := by decide +kernel
theorem dX1_clear_5 : decode cX1_clear 5 = .ok (.aload_n 0, 1) := by decide +kernel
theorem dX1_clear_6 : decode cX1_clear 6 = .ok (.iconst 0, 1) := by decide +kernel
theorem dX1_clear_7 : decode cX1_clear 7 = .ok (.putfield 38, 3) := by decide +kernel
theorem dX1_clear_10 : decode cX1_clear 10 = .ok (.return_, 1) := by decide +kernel
theorem dX1_draw_0 : decode cX1_draw 0 = .ok (.aload_n 0, 1) := by decide +kernel
theorem dX1_draw_1 : decode cX1_draw 1 = .ok (.invokevirtual 41, 3) := by decide +kernel
theorem dX1_draw_4 : decode cX1_draw 4 = .ok (.iconst 1, 1) := by decide +kernel
theorem dX1_draw_5 : decode cX1_draw 5 = .ok (.istore_n 3, 1) := by decide +kernel
theorem dX1_draw_6 : decode cX1_draw 6 = .ok (.iload_n 3, 1) := by decide +kernel
theorem dX1_draw_7 : decode cX1_draw 7 = .ok (.bipush 9, 2) := by decide +kernel
theorem dX1_draw_9 : decode cX1_draw 9 = .ok (.if_icmp .gt 36, 3) := by decide +kernel
theorem dX1_draw_12 : decode cX1_draw 12 = .ok (.aload_n 1, 1) := by decide +kernel
theorem dX1_draw_13 : decode cX1_draw 13 = .ok (.iload_n 3, 1) := by decide +kernel
theorem dX1_draw_14 : decode cX1_draw 14 = .ok (.invokevirtual 44, 3) := by decide +kernel
theorem dX1_draw_17 : decode cX1_draw 17 = .ok (.ifCond .eq 22, 3) := by decide +kernel
theorem dX1_draw_20 : decode cX1_draw 20 = .ok (.iload_n 2, 1) := by decide +kernel
theorem dX1_draw_21 : decode cX1_draw 21 = .ok (.ifCond .eq 12, 3) := by decide +kernel
theorem dX1_draw_24 : decode cX1_draw 24 = .ok (.aload_n 0, 1) := by decide +kernel
theorem dX1_draw_25 : decode cX1_draw 25 = .ok (.aload_n 1, 1) := by decide +kernel
theorem dX1_draw_26 : decode cX1_draw 26 = .ok (.iload_n 3, 1) := by decide +kernel
theorem dX1_draw_27 : decode cX1_draw 27 = .ok (.invokevirtual 50, 3) := by decide +kernel
theorem dX1_draw_30 : decode cX1_draw 30 = .ok (.goto 9, 3) := by decide +kernel
theorem dX1_draw_33 : decode cX1_draw 33 = .ok (.aload_n 0, 1) := by decide +kernel
theorem dX1_draw_34 : decode cX1_draw 34 = .ok (.aload_n 1, 1) := by decide +kernel
theorem dX1_draw_35 : decode cX1_draw 35 = .ok (.iload_n 3, 1) := by decide +kernel
theorem dX1_draw_36 : decode cX1_draw 36 = .ok (.invokevirtual 54, 3) := by decide +kernel
theorem dX1_draw_39 : decode cX1_draw 39 = .ok (.iinc 3 1, 3) := by decide +kernel
theorem dX1_draw_42 : decode cX1_draw 42 = .ok (.goto (-36), 3) := by decide +kernel
theorem dX1_draw_45 : decode cX1_draw 45 = .ok (.aload_n 0, 1) := by decide +kernel
theorem dX1_draw_46 : decode cX1_draw 46 = .ok (.aload_n 1, 1) := by decide +kernel
theorem dX1_draw_47 : decode cX1_draw 47 = .ok (.invokevirtual 57, 3) := by decide +kernel
theorem dX1_draw_50 : decode cX1_draw 50 = .ok (.return_, 1) := by decide +kernel
theorem dX1_addWhole_0 : decode cX1_addWhole 0 = .ok (.iconst 0, 1) := by decide +kernel
theorem dX1_addWhole_1 : decode cX1_addWhole 1 = .ok (.istore_n 3, 1) := by decide +kernel
theorem dX1_addWhole_2 : decode cX1_addWhole 2 = .ok (.iconst 0, 1) := by decide +kernel
theorem dX1_addWhole_3 : decode cX1_addWhole 3 = .ok (.istore 4, 2) := by decide +kernel
theorem dX1_addWhole_5 : decode cX1_addWhole 5 = .ok (.iload 4, 2) := by decide +kernel
theorem dX1_addWhole_7 : decode cX1_addWhole 7 = .ok (.bipush 20, 2) := by decide +kernel
theorem dX1_addWhole_9 : decode cX1_addWhole 9 = .ok (.if_icmp .ge 26, 3) := by decide +kernel
theorem dX1_addWhole_12 : decode cX1_addWhole 12 = .ok (.aload_n 1, 1) := by decide +kernel
theorem dX1_addWhole_13 : decode cX1_addWhole 13 = .ok (.iload_n 2, 1) := by decide +kernel
theorem dX1_addWhole_14 : decode cX1_addWhole 14 = .ok (.iload 4, 2) := by decide +kernel
theorem dX1_addWhole_16 : decode cX1_addWhole 16 = .ok (.invokevirtual 61, 3) := by decide +kernel
theorem dX1_addWhole_19 : decode cX1_addWhole 19 = .ok (.ifCond .eq 10, 3) := by decide +kernel
theorem dX1_addWhole_22 : decode cX1_addWhole 22 = .ok (.iload_n 3, 1) := by decide +kernel
theorem dX1_addWhole_23 : decode cX1_addWhole 23 = .ok (.iconst 1, 1) := by decide +kernel
theorem dX1_addWhole_24 : decode cX1_addWhole 24 = .ok (.iload 4, 2) := by decide +kernel
theorem dX1_addWhole_26 : decode cX1_addWhole 26 = .ok (.ishl, 1) := by decide +kernel
theorem dX1_addWhole_27 : decode cX1_addWhole 27 = .ok (.ior, 1) := by decide +kernel
theorem dX1_addWhole_28 : decode cX1_addWhole 28 = .ok (.istore_n 3, 1) := by decide +kernel
theorem dX1_addWhole_29 : decode cX1_addWhole 29 = .ok (.iinc 4 1, 3) := by decide +kernel
theorem dX1_addWhole_32 : decode cX1_addWhole 32 = .ok (.goto (-27), 3) := by decide +kernel
theorem dX1_addWhole_35 : decode cX1_addWhole 35 = .ok (.aload_n 0, 1) := by decide +kernel
theorem dX1_addWhole_36 : decode cX1_addWhole 36 = .ok (.iload_n 2, 1) := by decide +kernel
theorem dX1_addWhole_37 : decode cX1_addWhole 37 = .ok (.aload_n 1, 1) := by decide +kernel
theorem dX1_addWhole_38 : decode cX1_addWhole 38 = .ok (.iload_n 2, 1) := by decide +kernel
theorem dX1_addWhole_39 : decode cX1_addWhole 39 = .ok (.invokevirtual 65, 3) := by decide +kernel
theorem dX1_addWhole_42 : decode cX1_addWhole 42 = .ok (.aload_n 1, 1) := by decide +kernel
theorem dX1_addWhole_43 : decode cX1_addWhole 43 = .ok (.iload_n 2, 1) := by decide +kernel
theorem dX1_addWhole_44 : decode cX1_addWhole 44 = .ok (.invokevirtual 69, 3) := by decide +kernel
theorem dX1_addWhole_47 : decode cX1_addWhole 47 = .ok (.iload_n 3, 1) := by decide +kernel
theorem dX1_addWhole_48 : decode cX1_addWhole 48 = .ok (.invokevirtual 72, 3) := by decide +kernel
theorem dX1_addWhole_51 : decode cX1_addWhole 51 = .ok (.return_, 1) := by decide +kernel
theorem dX1_addPieces_0 : decode cX1_addPieces 0 = .ok (.iconst (-1), 1) := by decide +kernel
theorem dX1_addPieces_1 : decode cX1_addPieces 1 = .ok (.istore_n 3, 1) := by decide +kernel
theorem dX1_addPieces_2 : decode cX1_addPieces 2 = .ok (.iconst 0, 1) := by decide +kernel
theorem dX1_addPieces_3 : decode cX1_addPieces 3 = .ok (.istore 4, 2) := by decide +kernel
theorem dX1_addPieces_5 : decode cX1_addPieces 5 = .ok (.iload 4, 2) := by decide +kernel
theorem dX1_addPieces_7 : decode cX1_addPieces 7 = .ok (.bipush 20, 2) := by decide +kernel
theorem dX1_addPieces_9 : decode cX1_addPieces 9 = .ok (.if_icmp .ge 43, 3) := by decide +kernel
theorem dX1_addPieces_12 : decode cX1_addPieces 12 = .ok (.aload_n 1, 1) := by decide +kernel
theorem dX1_addPieces_13 : decode cX1_addPieces 13 = .ok (.iload_n 2, 1) := by decide +kernel
theorem dX1_addPieces_14 : decode cX1_addPieces 14 = .ok (.iload 4, 2) := by decide +kernel
theorem dX1_addPieces_16 : decode cX1_addPieces 16 = .ok (.invokevirtual 61, 3) := by decide +kernel
theorem dX1_addPieces_19 : decode cX1_addPieces 19 = .ok (.ifCond .eq 27, 3) := by decide +kernel
theorem dX1_addPieces_22 : decode cX1_addPieces 22 = .ok (.iload_n 3, 1) := by decide +kernel
theorem dX1_addPieces_23 : decode cX1_addPieces 23 = .ok (.iconst (-1), 1) := by decide +kernel
theorem dX1_addPieces_24 : decode cX1_addPieces 24 = .ok (.if_icmp .eq 19, 3) := by decide +kernel
theorem dX1_addPieces_27 : decode cX1_addPieces 27 = .ok (.aload_n 0, 1) := by decide +kernel
theorem dX1_addPieces_28 : decode cX1_addPieces 28 = .ok (.iload_n 2, 1) := by decide +kernel
theorem dX1_addPieces_29 : decode cX1_addPieces 29 = .ok (.iload_n 3, 1) := by decide +kernel
theorem dX1_addPieces_30 : decode cX1_addPieces 30 = .ok (.iload 4, 2) := by decide +kernel
theorem dX1_addPieces_32 : decode cX1_addPieces 32 = .ok (.iconst 1, 1) := by decide +kernel
theorem dX1_addPieces_33 : decode cX1_addPieces 33 = .ok (.iload_n 3, 1) := by decide +kernel
theorem dX1_addPieces_34 : decode cX1_addPieces 34 = .ok (.ishl, 1) := by decide +kernel
theorem dX1_addPieces_35 : decode cX1_addPieces 35 = .ok (.iconst 1, 1) := by decide +kernel
theorem dX1_addPieces_36 : decode cX1_addPieces 36 = .ok (.iload 4, 2) := by decide +kernel
theorem dX1_addPieces_38 : decode cX1_addPieces 38 = .ok (.ishl, 1) := by decide +kernel
theorem dX1_addPieces_39 : decode cX1_addPieces 39 = .ok (.ior, 1) := by decide +kernel
theorem dX1_addPieces_40 : decode cX1_addPieces 40 = .ok (.invokevirtual 72, 3) := by decide +kernel
theorem dX1_addPieces_43 : decode cX1_addPieces 43 = .ok (.iload 4, 2) := by decide +kernel
theorem dX1_addPieces_45 : decode cX1_addPieces 45 = .ok (.istore_n 3, 1) := by decide +kernel
theorem dX1_addPieces_46 : decode cX1_addPieces 46 = .ok (.iinc 4 1, 3) := by decide +kernel
theorem dX1_addPieces_49 : decode cX1_addPieces 49 = .ok (.goto (-44), 3) := by decide +kernel
theorem dX1_addPieces_52 : decode cX1_addPieces 52 = .ok (.return_, 1) := by decide +kernel
theorem dX1_add_0 : decode cX1_add 0 = .ok (.aload_n 0, 1) := by decide +kernel
theorem dX1_add_1 : decode cX1_add 1 = .ok (.getfield 34, 3) := by decide +kernel
theorem dX1_add_4 : decode cX1_add 4 = .ok (.bipush 38, 2) := by decide +kernel
theorem dX1_add_6 : decode cX1_add 6 = .ok (.if_icmp .ge 54, 3) := by decide +kernel
theorem dX1_add_9 : decode cX1_add 9 = .ok (.aload_n 0, 1) := by decide +kernel
theorem dX1_add_10 : decode cX1_add 10 = .ok (.getfield 9, 3) := by decide +kernel
theorem dX1_add_13 : decode cX1_add 13 = .ok (.aload_n 0, 1) := by decide +kernel
theorem dX1_add_14 : decode cX1_add 14 = .ok (.getfield 34, 3) := by decide +kernel
theorem dX1_add_17 : decode cX1_add 17 = .ok (.iload_n 1, 1) := by decide +kernel
theorem dX1_add_18 : decode cX1_add 18 = .ok (.iastore, 1) := by decide +kernel
theorem dX1_add_19 : decode cX1_add 19 = .ok (.aload_n 0, 1) := by decide +kernel
theorem dX1_add_20 : decode cX1_add 20 = .ok (.getfield 15, 3) := by decide +kernel
theorem dX1_add_23 : decode cX1_add 23 = .ok (.aload_n 0, 1) := by decide +kernel
theorem dX1_add_24 : decode cX1_add 24 = .ok (.getfield 34, 3) := by decide +kernel
theorem dX1_add_27 : decode cX1_add 27 = .ok (.iload_n 2, 1) := by decide +kernel
theorem dX1_add_28 : decode cX1_add 28 = .ok (.iastore, 1) := by decide +kernel
theorem dX1_add_29 : decode cX1_add 29 = .ok (.aload_n 0, 1) := by decide +kernel
theorem dX1_add_30 : decode cX1_add 30 = .ok (.getfield 18, 3) := by decide +kernel
theorem dX1_add_33 : decode cX1_add 33 = .ok (.aload_n 0, 1) := by decide +kernel
theorem dX1_add_34 : decode cX1_add 34 = .ok (.getfield 34, 3) := by decide +kernel
theorem dX1_add_37 : decode cX1_add 37 = .ok (.iload_n 3, 1) := by decide +kernel
theorem dX1_add_38 : decode cX1_add 38 = .ok (.iastore, 1) := by decide +kernel
theorem dX1_add_39 : decode cX1_add 39 = .ok (.aload_n 0, 1) := by decide +kernel
theorem dX1_add_40 : decode cX1_add 40 = .ok (.getfield 24, 3) := by decide +kernel
theorem dX1_add_43 : decode cX1_add 43 = .ok (.aload_n 0, 1) := by decide +kernel
theorem dX1_add_44 : decode cX1_add 44 = .ok (.getfield 34, 3) := by decide +kernel
theorem dX1_add_47 : decode cX1_add 47 = .ok (.iload 4, 2) := by decide +kernel
theorem dX1_add_49 : decode cX1_add 49 = .ok (.iastore, 1) := by decide +kernel
theorem dX1_add_50 : decode cX1_add 50 = .ok (.aload_n 0, 1) := by decide +kernel
theorem dX1_add_51 : decode cX1_add 51 = .ok (.dup, 1) := by decide +kernel
theorem dX1_add_52 : decode cX1_add 52 = .ok (.getfield 34, 3) := by decide +kernel
theorem dX1_add_55 : decode cX1_add 55 = .ok (.iconst 1, 1) := by decide +kernel
theorem dX1_add_56 : decode cX1_add 56 = .ok (.iadd, 1) := by decide +kernel
theorem dX1_add_57 : decode cX1_add 57 = .ok (.putfield 34, 3) := by decide +kernel
theorem dX1_add_60 : decode cX1_add 60 = .ok (.return_, 1) := by decide +kernel
theorem dX1_findBelow_0 : decode cX1_findBelow 0 = .ok (.aload_n 0, 1) := by decide +kernel
theorem dX1_findBelow_1 : decode cX1_findBelow 1 = .ok (.getfield 27, 3) := by decide +kernel
theorem dX1_findBelow_4 : decode cX1_findBelow 4 = .ok (.lconst 0, 1) := by decide +kernel
theorem dX1_findBelow_5 : decode cX1_findBelow 5 = .ok (.invokestatic 76, 3) := by decide +kernel
theorem dX1_findBelow_8 : decode cX1_findBelow 8 = .ok (.iconst 0, 1) := by decide +kernel
theorem dX1_findBelow_9 : decode cX1_findBelow 9 = .ok (.istore_n 2, 1) := by decide +kernel
theorem dX1_findBelow_10 : decode cX1_findBelow 10 = .ok (.iload_n 2, 1) := by decide +kernel
theorem dX1_findBelow_11 : decode cX1_findBelow 11 = .ok (.bipush 20, 2) := by decide +kernel
theorem dX1_findBelow_13 : decode cX1_findBelow 13 = .ok (.if_icmp .ge 47, 3) := by decide +kernel
theorem dX1_findBelow_16 : decode cX1_findBelow 16 = .ok (.aload_n 1, 1) := by decide +kernel
theorem dX1_findBelow_17 : decode cX1_findBelow 17 = .ok (.getfield 82, 3) := by decide +kernel
theorem dX1_findBelow_20 : decode cX1_findBelow 20 = .ok (.iload_n 2, 1) := by decide +kernel
theorem dX1_findBelow_21 : decode cX1_findBelow 21 = .ok (.iaload, 1) := by decide +kernel
theorem dX1_findBelow_22 : decode cX1_findBelow 22 = .ok (.istore_n 3, 1) := by decide +kernel
theorem dX1_findBelow_23 : decode cX1_findBelow 23 = .ok (.aload_n 1, 1) := by decide +kernel
theorem dX1_findBelow_24 : decode cX1_findBelow 24 = .ok (.getfield 85, 3) := by decide +kernel
theorem dX1_findBelow_27 : decode cX1_findBelow 27 = .ok (.iload_n 2, 1) := by decide +kernel
theorem dX1_findBelow_28 : decode cX1_findBelow 28 = .ok (.iaload, 1) := by decide +kernel
theorem dX1_findBelow_29 : decode cX1_findBelow 29 = .ok (.istore 4, 2) := by decide +kernel
theorem dX1_findBelow_31 : decode cX1_findBelow 31 = .ok (.iload_n 3, 1) := by decide +kernel
theorem dX1_findBelow_32 : decode cX1_findBelow 32 = .ok (.iload 4, 2) := by decide +kernel
theorem dX1_findBelow_34 : decode cX1_findBelow 34 = .ok (.if_icmp .eq 20, 3) := by decide +kernel
theorem dX1_findBelow_37 : decode cX1_findBelow 37 = .ok (.aload_n 0, 1) := by decide +kernel
theorem dX1_findBelow_38 : decode cX1_findBelow 38 = .ok (.aload_n 0, 1) := by decide +kernel
theorem dX1_findBelow_39 : decode cX1_findBelow 39 = .ok (.iload_n 2, 1) := by decide +kernel
theorem dX1_findBelow_40 : decode cX1_findBelow 40 = .ok (.iload_n 3, 1) := by decide +kernel
theorem dX1_findBelow_41 : decode cX1_findBelow 41 = .ok (.invokevirtual 88, 3) := by decide +kernel
theorem dX1_findBelow_44 : decode cX1_findBelow 44 = .ok (.aload_n 0, 1) := by decide +kernel
theorem dX1_findBelow_45 : decode cX1_findBelow 45 = .ok (.iload_n 2, 1) := by decide +kernel
theorem dX1_findBelow_46 : decode cX1_findBelow 46 = .ok (.iload 4, 2) := by decide +kernel
theorem dX1_findBelow_48 : decode cX1_findBelow 48 = .ok (.invokevirtual 88, 3) := by decide +kernel
theorem dX1_findBelow_51 : decode cX1_findBelow 51 = .ok (.invokevirtual 92, 3) := by decide +kernel
theorem dX1_findBelow_54 : decode cX1_findBelow 54 = .ok (.iinc 2 1, 3) := by decide +kernel
theorem dX1_findBelow_57 : decode cX1_findBelow 57 = .ok (.goto (-47), 3) := by decide +kernel
theorem dX1_findBelow_60 : decode cX1_findBelow 60 = .ok (.return_, 1) := by decide +kernel
theorem dX1_addBelow_0 : decode cX1_addBelow 0 = .ok (.iconst 0, 1) := by decide +kernel
theorem dX1_addBelow_1 : decode cX1_addBelow 1 = .ok (.istore 5, 2) := by decide +kernel
theorem dX1_addBelow_3 : decode cX1_addBelow 3 = .ok (.iload 5, 2) := by decide +kernel
theorem dX1_addBelow_5 : decode cX1_addBelow 5 = .ok (.aload_n 0, 1) := by decide +kernel
theorem dX1_addBelow_6 : decode cX1_addBelow 6 = .ok (.getfield 34, 3) := by decide +kernel
theorem dX1_addBelow_9 : decode cX1_addBelow 9 = .ok (.if_icmp .ge 29, 3) := by decide +kernel
theorem dX1_addBelow_12 : decode cX1_addBelow 12 = .ok (.lload_n 1, 1) := by decide +kernel
theorem dX1_addBelow_13 : decode cX1_addBelow 13 = .ok (.iload 5, 2) := by decide +kernel
theorem dX1_addBelow_15 : decode cX1_addBelow 15 = .ok (.invokestatic 96, 3) := by decide +kernel
theorem dX1_addBelow_18 : decode cX1_addBelow 18 = .ok (.ifCond .eq 14, 3) := by decide +kernel
theorem dX1_addBelow_21 : decode cX1_addBelow 21 = .ok (.aload_n 0, 1) := by decide +kernel
theorem dX1_addBelow_22 : decode cX1_addBelow 22 = .ok (.getfield 27, 3) := by decide +kernel
theorem dX1_addBelow_25 : decode cX1_addBelow 25 = .ok (.iload 5, 2) := by decide +kernel
theorem dX1_addBelow_27 : decode cX1_addBelow 27 = .ok (.dup2, 1) := by decide +kernel
theorem dX1_addBelow_28 : decode cX1_addBelow 28 = .ok (.laload, 1) := by decide +kernel
theorem dX1_addBelow_29 : decode cX1_addBelow 29 = .ok (.lload_n 3, 1) := by decide +kernel
theorem dX1_addBelow_30 : decode cX1_addBelow 30 = .ok (.lor, 1) := by decide +kernel
theorem dX1_addBelow_31 : decode cX1_addBelow 31 = .ok (.lastore, 1) := by decide +kernel
theorem dX1_addBelow_32 : decode cX1_addBelow 32 = .ok (.iinc 5 1, 3) := by decide +kernel
theorem dX1_addBelow_35 : decode cX1_addBelow 35 = .ok (.goto (-32), 3) := by decide +kernel
theorem dX1_addBelow_38 : decode cX1_addBelow 38 = .ok (.return_, 1) := by decide +kernel
theorem dX1_touching_0 : decode cX1_touching 0 = .ok (.lconst 0, 1) := by decide +kernel
theorem dX1_touching_1 : decode cX1_touching 1 = .ok (.lstore_n 3, 1) := by decide +kernel
theorem dX1_touching_2 : decode cX1_touching 2 = .ok (.iconst 0, 1) := by decide +kernel
theorem dX1_touching_3 : decode cX1_touching 3 = .ok (.istore 5, 2) := by decide +kernel
theorem dX1_touching_5 : decode cX1_touching 5 = .ok (.iload 5, 2) := by decide +kernel
theorem dX1_touching_7 : decode cX1_touching 7 = .ok (.aload_n 0, 1) := by decide +kernel
theorem dX1_touching_8 : decode cX1_touching 8 = .ok (.getfield 34, 3) := by decide +kernel
theorem dX1_touching_11 : decode cX1_touching 11 = .ok (.if_icmp .ge 27, 3) := by decide +kernel
theorem dX1_touching_14 : decode cX1_touching 14 = .ok (.aload_n 0, 1) := by decide +kernel
theorem dX1_touching_15 : decode cX1_touching 15 = .ok (.iload 5, 2) := by decide +kernel
theorem dX1_touching_17 : decode cX1_touching 17 = .ok (.iload_n 1, 1) := by decide +kernel
theorem dX1_touching_18 : decode cX1_touching 18 = .ok (.iload_n 2, 1) := by decide +kernel
theorem dX1_touching_19 : decode cX1_touching 19 = .ok (.invokevirtual 100, 3) := by decide +kernel
theorem dX1_touching_22 : decode cX1_touching 22 = .ok (.ifCond .eq 10, 3) := by decide +kernel
theorem dX1_touching_25 : decode cX1_touching 25 = .ok (.lload_n 3, 1) := by decide +kernel
theorem dX1_touching_26 : decode cX1_touching 26 = .ok (.lconst 1, 1) := by decide +kernel
theorem dX1_touching_27 : decode cX1_touching 27 = .ok (.iload 5, 2) := by decide +kernel
theorem dX1_touching_29 : decode cX1_touching 29 = .ok (.lshl, 1) := by decide +kernel
theorem dX1_touching_30 : decode cX1_touching 30 = .ok (.lor, 1) := by decide +kernel
theorem dX1_touching_31 : decode cX1_touching 31 = .ok (.lstore_n 3, 1) := by decide +kernel
theorem dX1_touching_32 : decode cX1_touching 32 = .ok (.iinc 5 1, 3) := by decide +kernel
theorem dX1_touching_35 : decode cX1_touching 35 = .ok (.goto (-30), 3) := by decide +kernel
theorem dX1_touching_38 : decode cX1_touching 38 = .ok (.lload_n 3, 1) := by decide +kernel
theorem dX1_touching_39 : decode cX1_touching 39 = .ok (.lreturn, 1) := by decide +kernel
theorem dX1_touches_0 : decode cX1_touches 0 = .ok (.aload_n 0, 1) := by decide +kernel
theorem dX1_touches_1 : decode cX1_touches 1 = .ok (.getfield 9, 3) := by decide +kernel
theorem dX1_touches_4 : decode cX1_touches 4 = .ok (.iload_n 1, 1) := by decide +kernel
theorem dX1_touches_5 : decode cX1_touches 5 = .ok (.iaload, 1) := by decide +kernel
theorem dX1_touches_6 : decode cX1_touches 6 = .ok (.iload_n 3, 1) := by decide +kernel
theorem dX1_touches_7 : decode cX1_touches 7 = .ok (.if_icmp .ne 20, 3) := by decide +kernel
theorem dX1_touches_10 : decode cX1_touches 10 = .ok (.aload_n 0, 1) := by decide +kernel
theorem dX1_touches_11 : decode cX1_touches 11 = .ok (.getfield 24, 3) := by decide +kernel
theorem dX1_touches_14 : decode cX1_touches 14 = .ok (.iload_n 1, 1) := by decide +kernel
theorem dX1_touches_15 : decode cX1_touches 15 = .ok (.iaload, 1) := by decide +kernel
theorem dX1_touches_16 : decode cX1_touches 16 = .ok (.iload_n 2, 1) := by decide +kernel
theorem dX1_touches_17 : decode cX1_touches 17 = .ok (.ishr, 1) := by decide +kernel
theorem dX1_touches_18 : decode cX1_touches 18 = .ok (.iconst 1, 1) := by decide +kernel
theorem dX1_touches_19 : decode cX1_touches 19 = .ok (.iand, 1) := by decide +kernel
theorem dX1_touches_20 : decode cX1_touches 20 = .ok (.ifCond .eq 7, 3) := by decide +kernel
theorem dX1_touches_23 : decode cX1_touches 23 = .ok (.iconst 1, 1) := by decide +kernel
theorem dX1_touches_24 : decode cX1_touches 24 = .ok (.goto 4, 3) := by decide +kernel
theorem dX1_touches_27 : decode cX1_touches 27 = .ok (.iconst 0, 1) := by decide +kernel
theorem dX1_touches_28 : decode cX1_touches 28 = .ok (.ireturn, 1) := by decide +kernel
theorem dX1_countPairs_0 : decode cX1_countPairs 0 = .ok (.iconst 0, 1) := by decide +kernel
theorem dX1_countPairs_1 : decode cX1_countPairs 1 = .ok (.istore_n 1, 1) := by decide +kernel
theorem dX1_countPairs_2 : decode cX1_countPairs 2 = .ok (.iconst 0, 1) := by decide +kernel
theorem dX1_countPairs_3 : decode cX1_countPairs 3 = .ok (.istore_n 2, 1) := by decide +kernel
theorem dX1_countPairs_4 : decode cX1_countPairs 4 = .ok (.iload_n 2, 1) := by decide +kernel
theorem dX1_countPairs_5 : decode cX1_countPairs 5 = .ok (.aload_n 0, 1) := by decide +kernel
theorem dX1_countPairs_6 : decode cX1_countPairs 6 = .ok (.getfield 34, 3) := by decide +kernel
theorem dX1_countPairs_9 : decode cX1_countPairs 9 = .ok (.if_icmp .ge 21, 3) := by decide +kernel
theorem dX1_countPairs_12 : decode cX1_countPairs 12 = .ok (.iload_n 1, 1) := by decide +kernel
theorem dX1_countPairs_13 : decode cX1_countPairs 13 = .ok (.aload_n 0, 1) := by decide +kernel
theorem dX1_countPairs_14 : decode cX1_countPairs 14 = .ok (.getfield 27, 3) := by decide +kernel
theorem dX1_countPairs_17 : decode cX1_countPairs 17 = .ok (.iload_n 2, 1) := by decide +kernel
theorem dX1_countPairs_18 : decode cX1_countPairs 18 = .ok (.laload, 1) := by decide +kernel
theorem dX1_countPairs_19 : decode cX1_countPairs 19 = .ok (.invokestatic 104, 3) := by decide +kernel
theorem dX1_countPairs_22 : decode cX1_countPairs 22 = .ok (.iadd, 1) := by decide +kernel
theorem dX1_countPairs_23 : decode cX1_countPairs 23 = .ok (.istore_n 1, 1) := by decide +kernel
theorem dX1_countPairs_24 : decode cX1_countPairs 24 = .ok (.iinc 2 1, 3) := by decide +kernel
theorem dX1_countPairs_27 : decode cX1_countPairs 27 = .ok (.goto (-23), 3) := by decide +kernel
theorem dX1_countPairs_30 : decode cX1_countPairs 30 = .ok (.iload_n 1, 1) := by decide +kernel
theorem dX1_countPairs_31 : decode cX1_countPairs 31 = .ok (.ireturn, 1) := by decide +kernel
theorem dX1_fillTracks_0 : decode cX1_fillTracks 0 = .ok (.aload_n 0, 1) := by decide +kernel
theorem dX1_fillTracks_1 : decode cX1_fillTracks 1 = .ok (.invokevirtual 110, 3) := by decide +kernel
theorem dX1_fillTracks_4 : decode cX1_fillTracks 4 = .ok (.lconst 1, 1) := by decide +kernel
theorem dX1_fillTracks_5 : decode cX1_fillTracks 5 = .ok (.aload_n 0, 1) := by decide +kernel
theorem dX1_fillTracks_6 : decode cX1_fillTracks 6 = .ok (.getfield 34, 3) := by decide +kernel
theorem dX1_fillTracks_9 : decode cX1_fillTracks 9 = .ok (.lshl, 1) := by decide +kernel
theorem dX1_fillTracks_10 : decode cX1_fillTracks 10 = .ok (.lconst 1, 1) := by decide +kernel
theorem dX1_fillTracks_11 : decode cX1_fillTracks 11 = .ok (.lsub, 1) := by decide +kernel
theorem dX1_fillTracks_12 : decode cX1_fillTracks 12 = .ok (.lstore_n 1, 1) := by decide +kernel
theorem dX1_fillTracks_13 : decode cX1_fillTracks 13 = .ok (.aload_n 0, 1) := by decide +kernel
theorem dX1_fillTracks_14 : decode cX1_fillTracks 14 = .ok (.iconst 0, 1) := by decide +kernel
theorem dX1_fillTracks_15 : decode cX1_fillTracks 15 = .ok (.putfield 38, 3) := by decide +kernel
theorem dX1_fillTracks_18 : decode cX1_fillTracks 18 = .ok (.lload_n 1, 1) := by decide +kernel
theorem dX1_fillTracks_19 : decode cX1_fillTracks 19 = .ok (.lconst 0, 1) := by decide +kernel
theorem dX1_fillTracks_20 : decode cX1_fillTracks 20 = .ok (.lcmp, 1) := by decide +kernel
theorem dX1_fillTracks_21 : decode cX1_fillTracks 21 = .ok (.ifCond .eq 49, 3) := by decide +kernel
theorem dX1_fillTracks_24 : decode cX1_fillTracks 24 = .ok (.aload_n 0, 1) := by decide +kernel
theorem dX1_fillTracks_25 : decode cX1_fillTracks 25 = .ok (.getfield 38, 3) := by decide +kernel
theorem dX1_fillTracks_28 : decode cX1_fillTracks 28 = .ok (.aload_n 0, 1) := by decide +kernel
theorem dX1_fillTracks_29 : decode cX1_fillTracks 29 = .ok (.getfield 34, 3) := by decide +kernel
theorem dX1_fillTracks_32 : decode cX1_fillTracks 32 = .ok (.if_icmp .ge 38, 3) := by decide +kernel
theorem dX1_fillTracks_35 : decode cX1_fillTracks 35 = .ok (.lload_n 1, 1) := by decide +kernel
theorem dX1_fillTracks_36 : decode cX1_fillTracks 36 = .ok (.aload_n 0, 1) := by decide +kernel
theorem dX1_fillTracks_37 : decode cX1_fillTracks 37 = .ok (.lload_n 1, 1) := by decide +kernel
theorem dX1_fillTracks_38 : decode cX1_fillTracks 38 = .ok (.aload_n 0, 1) := by decide +kernel
theorem dX1_fillTracks_39 : decode cX1_fillTracks 39 = .ok (.lload_n 1, 1) := by decide +kernel
theorem dX1_fillTracks_40 : decode cX1_fillTracks 40 = .ok (.invokevirtual 113, 3) := by decide +kernel
theorem dX1_fillTracks_43 : decode cX1_fillTracks 43 = .ok (.ldc2_w 117, 3) := by decide +kernel
theorem dX1_fillTracks_46 : decode cX1_fillTracks 46 = .ok (.lxor, 1) := by decide +kernel
theorem dX1_fillTracks_47 : decode cX1_fillTracks 47 = .ok (.land, 1) := by decide +kernel
theorem dX1_fillTracks_48 : decode cX1_fillTracks 48 = .ok (.invokevirtual 119, 3) := by decide +kernel
theorem dX1_fillTracks_51 : decode cX1_fillTracks 51 = .ok (.ldc2_w 117, 3) := by decide +kernel
theorem dX1_fillTracks_54 : decode cX1_fillTracks 54 = .ok (.lxor, 1) := by decide +kernel
theorem dX1_fillTracks_55 : decode cX1_fillTracks 55 = .ok (.land, 1) := by decide +kernel
theorem dX1_fillTracks_56 : decode cX1_fillTracks 56 = .ok (.lstore_n 1, 1) := by decide +kernel
theorem dX1_fillTracks_57 : decode cX1_fillTracks 57 = .ok (.aload_n 0, 1) := by decide +kernel
theorem dX1_fillTracks_58 : decode cX1_fillTracks 58 = .ok (.dup, 1) := by decide +kernel
theorem dX1_fillTracks_59 : decode cX1_fillTracks 59 = .ok (.getfield 38, 3) := by decide +kernel
theorem dX1_fillTracks_62 : decode cX1_fillTracks 62 = .ok (.iconst 1, 1) := by decide +kernel
theorem dX1_fillTracks_63 : decode cX1_fillTracks 63 = .ok (.iadd, 1) := by decide +kernel
theorem dX1_fillTracks_64 : decode cX1_fillTracks 64 = .ok (.putfield 38, 3) := by decide +kernel
theorem dX1_fillTracks_67 : decode cX1_fillTracks 67 = .ok (.goto (-49), 3) := by decide +kernel
theorem dX1_fillTracks_70 : decode cX1_fillTracks 70 = .ok (.return_, 1) := by decide +kernel
theorem dX1_sortByLeft_0 : decode cX1_sortByLeft 0 = .ok (.iconst 0, 1) := by decide +kernel
theorem dX1_sortByLeft_1 : decode cX1_sortByLeft 1 = .ok (.istore_n 1, 1) := by decide +kernel
theorem dX1_sortByLeft_2 : decode cX1_sortByLeft 2 = .ok (.iconst 0, 1) := by decide +kernel
theorem dX1_sortByLeft_3 : decode cX1_sortByLeft 3 = .ok (.istore_n 2, 1) := by decide +kernel
theorem dX1_sortByLeft_4 : decode cX1_sortByLeft 4 = .ok (.iload_n 2, 1) := by decide +kernel
theorem dX1_sortByLeft_5 : decode cX1_sortByLeft 5 = .ok (.bipush 20, 2) := by decide +kernel
theorem dX1_sortByLeft_7 : decode cX1_sortByLeft 7 = .ok (.if_icmp .ge 45, 3) := by decide +kernel
theorem dX1_sortByLeft_10 : decode cX1_sortByLeft 10 = .ok (.iconst 0, 1) := by decide +kernel
theorem dX1_sortByLeft_11 : decode cX1_sortByLeft 11 = .ok (.istore_n 3, 1) := by decide +kernel
theorem dX1_sortByLeft_12 : decode cX1_sortByLeft 12 = .ok (.iload_n 3, 1) := by decide +kernel
theorem dX1_sortByLeft_13 : decode cX1_sortByLeft 13 = .ok (.aload_n 0, 1) := by decide +kernel
theorem dX1_sortByLeft_14 : decode cX1_sortByLeft 14 = .ok (.getfield 34, 3) := by decide +kernel
theorem dX1_sortByLeft_17 : decode cX1_sortByLeft 17 = .ok (.if_icmp .ge 29, 3) := by decide +kernel
theorem dX1_sortByLeft_20 : decode cX1_sortByLeft 20 = .ok (.aload_n 0, 1) := by decide +kernel
theorem dX1_sortByLeft_21 : decode cX1_sortByLeft 21 = .ok (.getfield 15, 3) := by decide +kernel
theorem dX1_sortByLeft_24 : decode cX1_sortByLeft 24 = .ok (.iload_n 3, 1) := by decide +kernel
theorem dX1_sortByLeft_25 : decode cX1_sortByLeft 25 = .ok (.iaload, 1) := by decide +kernel
theorem dX1_sortByLeft_26 : decode cX1_sortByLeft 26 = .ok (.iload_n 2, 1) := by decide +kernel
theorem dX1_sortByLeft_27 : decode cX1_sortByLeft 27 = .ok (.if_icmp .ne 13, 3) := by decide +kernel
theorem dX1_sortByLeft_30 : decode cX1_sortByLeft 30 = .ok (.aload_n 0, 1) := by decide +kernel
theorem dX1_sortByLeft_31 : decode cX1_sortByLeft 31 = .ok (.getfield 31, 3) := by decide +kernel
theorem dX1_sortByLeft_34 : decode cX1_sortByLeft 34 = .ok (.iload_n 1, 1) := by decide +kernel
theorem dX1_sortByLeft_35 : decode cX1_sortByLeft 35 = .ok (.iload_n 3, 1) := by decide +kernel
theorem dX1_sortByLeft_36 : decode cX1_sortByLeft 36 = .ok (.iastore, 1) := by decide +kernel
theorem dX1_sortByLeft_37 : decode cX1_sortByLeft 37 = .ok (.iinc 1 1, 3) := by decide +kernel
theorem dX1_sortByLeft_40 : decode cX1_sortByLeft 40 = .ok (.iinc 3 1, 3) := by decide +kernel
theorem dX1_sortByLeft_43 : decode cX1_sortByLeft 43 = .ok (.goto (-31), 3) := by decide +kernel
theorem dX1_sortByLeft_46 : decode cX1_sortByLeft 46 = .ok (.iinc 2 1, 3) := by decide +kernel
theorem dX1_sortByLeft_49 : decode cX1_sortByLeft 49 = .ok (.goto (-45), 3) := by decide +kernel
theorem dX1_sortByLeft_52 : decode cX1_sortByLeft 52 = .ok (.return_, 1) := by decide +kernel
theorem dX1_belowAnyOf_0 : decode cX1_belowAnyOf 0 = .ok (.lconst 0, 1) := by decide +kernel
theorem dX1_belowAnyOf_1 : decode cX1_belowAnyOf 1 = .ok (.lstore_n 3, 1) := by decide +kernel
theorem dX1_belowAnyOf_2 : decode cX1_belowAnyOf 2 = .ok (.iconst 0, 1) := by decide +kernel
theorem dX1_belowAnyOf_3 : decode cX1_belowAnyOf 3 = .ok (.istore 5, 2) := by decide +kernel
theorem dX1_belowAnyOf_5 : decode cX1_belowAnyOf 5 = .ok (.iload 5, 2) := by decide +kernel
theorem dX1_belowAnyOf_7 : decode cX1_belowAnyOf 7 = .ok (.aload_n 0, 1) := by decide +kernel
theorem dX1_belowAnyOf_8 : decode cX1_belowAnyOf 8 = .ok (.getfield 34, 3) := by decide +kernel
theorem dX1_belowAnyOf_11 : decode cX1_belowAnyOf 11 = .ok (.if_icmp .ge 28, 3) := by decide +kernel
theorem dX1_belowAnyOf_14 : decode cX1_belowAnyOf 14 = .ok (.lload_n 1, 1) := by decide +kernel
theorem dX1_belowAnyOf_15 : decode cX1_belowAnyOf 15 = .ok (.iload 5, 2) := by decide +kernel
theorem dX1_belowAnyOf_17 : decode cX1_belowAnyOf 17 = .ok (.invokestatic 96, 3) := by decide +kernel
theorem dX1_belowAnyOf_20 : decode cX1_belowAnyOf 20 = .ok (.ifCond .eq 13, 3) := by decide +kernel
theorem dX1_belowAnyOf_23 : decode cX1_belowAnyOf 23 = .ok (.lload_n 3, 1) := by decide +kernel
theorem dX1_belowAnyOf_24 : decode cX1_belowAnyOf 24 = .ok (.aload_n 0, 1) := by decide +kernel
theorem dX1_belowAnyOf_25 : decode cX1_belowAnyOf 25 = .ok (.getfield 27, 3) := by decide +kernel
theorem dX1_belowAnyOf_28 : decode cX1_belowAnyOf 28 = .ok (.iload 5, 2) := by decide +kernel
theorem dX1_belowAnyOf_30 : decode cX1_belowAnyOf 30 = .ok (.laload, 1) := by decide +kernel
theorem dX1_belowAnyOf_31 : decode cX1_belowAnyOf 31 = .ok (.lor, 1) := by decide +kernel
theorem dX1_belowAnyOf_32 : decode cX1_belowAnyOf 32 = .ok (.lstore_n 3, 1) := by decide +kernel
theorem dX1_belowAnyOf_33 : decode cX1_belowAnyOf 33 = .ok (.iinc 5 1, 3) := by decide +kernel
theorem dX1_belowAnyOf_36 : decode cX1_belowAnyOf 36 = .ok (.goto (-31), 3) := by decide +kernel
theorem dX1_belowAnyOf_39 : decode cX1_belowAnyOf 39 = .ok (.lload_n 3, 1) := by decide +kernel
theorem dX1_belowAnyOf_40 : decode cX1_belowAnyOf 40 = .ok (.lreturn, 1) := by decide +kernel
theorem dX1_fillTrack_0 : decode cX1_fillTrack 0 = .ok (.lconst 0, 1) := by decide +kernel
theorem dX1_fillTrack_1 : decode cX1_fillTrack 1 = .ok (.lstore_n 3, 1) := by decide +kernel
theorem dX1_fillTrack_2 : decode cX1_fillTrack 2 = .ok (.iconst (-1), 1) := by decide +kernel
theorem dX1_fillTrack_3 : decode cX1_fillTrack 3 = .ok (.istore 5, 2) := by decide +kernel
theorem dX1_fillTrack_5 : decode cX1_fillTrack 5 = .ok (.iconst 0, 1) := by decide +kernel
theorem dX1_fillTrack_6 : decode cX1_fillTrack 6 = .ok (.istore 6, 2) := by decide +kernel
theorem dX1_fillTrack_8 : decode cX1_fillTrack 8 = .ok (.iload 6, 2) := by decide +kernel
theorem dX1_fillTrack_10 : decode cX1_fillTrack 10 = .ok (.aload_n 0, 1) := by decide +kernel
theorem dX1_fillTrack_11 : decode cX1_fillTrack 11 = .ok (.getfield 34, 3) := by decide +kernel
theorem dX1_fillTrack_14 : decode cX1_fillTrack 14 = .ok (.if_icmp .ge 60, 3) := by decide +kernel
theorem dX1_fillTrack_17 : decode cX1_fillTrack 17 = .ok (.aload_n 0, 1) := by decide +kernel
theorem dX1_fillTrack_18 : decode cX1_fillTrack 18 = .ok (.getfield 31, 3) := by decide +kernel
theorem dX1_fillTrack_21 : decode cX1_fillTrack 21 = .ok (.iload 6, 2) := by decide +kernel
theorem dX1_fillTrack_23 : decode cX1_fillTrack 23 = .ok (.iaload, 1) := by decide +kernel
theorem dX1_fillTrack_24 : decode cX1_fillTrack 24 = .ok (.istore 7, 2) := by decide +kernel
theorem dX1_fillTrack_26 : decode cX1_fillTrack 26 = .ok (.lload_n 1, 1) := by decide +kernel
theorem dX1_fillTrack_27 : decode cX1_fillTrack 27 = .ok (.iload 7, 2) := by decide +kernel
theorem dX1_fillTrack_29 : decode cX1_fillTrack 29 = .ok (.invokestatic 96, 3) := by decide +kernel
theorem dX1_fillTrack_32 : decode cX1_fillTrack 32 = .ok (.ifCond .eq 36, 3) := by decide +kernel
theorem dX1_fillTrack_35 : decode cX1_fillTrack 35 = .ok (.aload_n 0, 1) := by decide +kernel
theorem dX1_fillTrack_36 : decode cX1_fillTrack 36 = .ok (.iload 5, 2) := by decide +kernel
theorem dX1_fillTrack_38 : decode cX1_fillTrack 38 = .ok (.iload 7, 2) := by decide +kernel
theorem dX1_fillTrack_40 : decode cX1_fillTrack 40 = .ok (.invokevirtual 122, 3) := by decide +kernel
theorem dX1_fillTrack_43 : decode cX1_fillTrack 43 = .ok (.ifCond .eq 25, 3) := by decide +kernel
theorem dX1_fillTrack_46 : decode cX1_fillTrack 46 = .ok (.aload_n 0, 1) := by decide +kernel
theorem dX1_fillTrack_47 : decode cX1_fillTrack 47 = .ok (.getfield 21, 3) := by decide +kernel
theorem dX1_fillTrack_50 : decode cX1_fillTrack 50 = .ok (.iload 7, 2) := by decide +kernel
theorem dX1_fillTrack_52 : decode cX1_fillTrack 52 = .ok (.aload_n 0, 1) := by decide +kernel
theorem dX1_fillTrack_53 : decode cX1_fillTrack 53 = .ok (.getfield 38, 3) := by decide +kernel
theorem dX1_fillTrack_56 : decode cX1_fillTrack 56 = .ok (.iastore, 1) := by decide +kernel
theorem dX1_fillTrack_57 : decode cX1_fillTrack 57 = .ok (.lload_n 3, 1) := by decide +kernel
theorem dX1_fillTrack_58 : decode cX1_fillTrack 58 = .ok (.lconst 1, 1) := by decide +kernel
theorem dX1_fillTrack_59 : decode cX1_fillTrack 59 = .ok (.iload 7, 2) := by decide +kernel
theorem dX1_fillTrack_61 : decode cX1_fillTrack 61 = .ok (.lshl, 1) := by decide +kernel
theorem dX1_fillTrack_62 : decode cX1_fillTrack 62 = .ok (.lor, 1) := by decide +kernel
theorem dX1_fillTrack_63 : decode cX1_fillTrack 63 = .ok (.lstore_n 3, 1) := by decide +kernel
theorem dX1_fillTrack_64 : decode cX1_fillTrack 64 = .ok (.iload 7, 2) := by decide +kernel
theorem dX1_fillTrack_66 : decode cX1_fillTrack 66 = .ok (.istore 5, 2) := by decide +kernel
theorem dX1_fillTrack_68 : decode cX1_fillTrack 68 = .ok (.iinc 6 1, 3) := by decide +kernel
theorem dX1_fillTrack_71 : decode cX1_fillTrack 71 = .ok (.goto (-63), 3) := by decide +kernel
theorem dX1_fillTrack_74 : decode cX1_fillTrack 74 = .ok (.lload_n 3, 1) := by decide +kernel
theorem dX1_fillTrack_75 : decode cX1_fillTrack 75 = .ok (.lreturn, 1) := by decide +kernel
theorem dX1_fitsBehind_0 : decode cX1_fitsBehind 0 = .ok (.iload_n 1, 1) := by decide +kernel
theorem dX1_fitsBehind_1 : decode cX1_fitsBehind 1 = .ok (.iconst (-1), 1) := by decide +kernel
theorem dX1_fitsBehind_2 : decode cX1_fitsBehind 2 = .ok (.if_icmp .eq 18, 3) := by decide +kernel
theorem dX1_fitsBehind_5 : decode cX1_fitsBehind 5 = .ok (.aload_n 0, 1) := by decide +kernel
theorem dX1_fitsBehind_6 : decode cX1_fitsBehind 6 = .ok (.getfield 15, 3) := by decide +kernel
theorem dX1_fitsBehind_9 : decode cX1_fitsBehind 9 = .ok (.iload_n 2, 1) := by decide +kernel
theorem dX1_fitsBehind_10 : decode cX1_fitsBehind 10 = .ok (.iaload, 1) := by decide +kernel
theorem dX1_fitsBehind_11 : decode cX1_fitsBehind 11 = .ok (.aload_n 0, 1) := by decide +kernel
theorem dX1_fitsBehind_12 : decode cX1_fitsBehind 12 = .ok (.getfield 18, 3) := by decide +kernel
theorem dX1_fitsBehind_15 : decode cX1_fitsBehind 15 = .ok (.iload_n 1, 1) := by decide +kernel
theorem dX1_fitsBehind_16 : decode cX1_fitsBehind 16 = .ok (.iaload, 1) := by decide +kernel
theorem dX1_fitsBehind_17 : decode cX1_fitsBehind 17 = .ok (.if_icmp .le 5, 3) := by decide +kernel
theorem dX1_fitsBehind_20 : decode cX1_fitsBehind 20 = .ok (.iconst 1, 1) := by decide +kernel
theorem dX1_fitsBehind_21 : decode cX1_fitsBehind 21 = .ok (.ireturn, 1) := by decide +kernel
theorem dX1_fitsBehind_22 : decode cX1_fitsBehind 22 = .ok (.aload_n 0, 1) := by decide +kernel
theorem dX1_fitsBehind_23 : decode cX1_fitsBehind 23 = .ok (.getfield 15, 3) := by decide +kernel
theorem dX1_fitsBehind_26 : decode cX1_fitsBehind 26 = .ok (.iload_n 2, 1) := by decide +kernel
theorem dX1_fitsBehind_27 : decode cX1_fitsBehind 27 = .ok (.iaload, 1) := by decide +kernel
theorem dX1_fitsBehind_28 : decode cX1_fitsBehind 28 = .ok (.aload_n 0, 1) := by decide +kernel
theorem dX1_fitsBehind_29 : decode cX1_fitsBehind 29 = .ok (.getfield 18, 3) := by decide +kernel
theorem dX1_fitsBehind_32 : decode cX1_fitsBehind 32 = .ok (.iload_n 1, 1) := by decide +kernel
theorem dX1_fitsBehind_33 : decode cX1_fitsBehind 33 = .ok (.iaload, 1) := by decide +kernel
theorem dX1_fitsBehind_34 : decode cX1_fitsBehind 34 = .ok (.if_icmp .ne 22, 3) := by decide +kernel
theorem dX1_fitsBehind_37 : decode cX1_fitsBehind 37 = .ok (.aload_n 0, 1) := by decide +kernel
theorem dX1_fitsBehind_38 : decode cX1_fitsBehind 38 = .ok (.getfield 9, 3) := by decide +kernel
theorem dX1_fitsBehind_41 : decode cX1_fitsBehind 41 = .ok (.iload_n 2, 1) := by decide +kernel
theorem dX1_fitsBehind_42 : decode cX1_fitsBehind 42 = .ok (.iaload, 1) := by decide +kernel
theorem dX1_fitsBehind_43 : decode cX1_fitsBehind 43 = .ok (.aload_n 0, 1) := by decide +kernel
theorem dX1_fitsBehind_44 : decode cX1_fitsBehind 44 = .ok (.getfield 9, 3) := by decide +kernel
theorem dX1_fitsBehind_47 : decode cX1_fitsBehind 47 = .ok (.iload_n 1, 1) := by decide +kernel
theorem dX1_fitsBehind_48 : decode cX1_fitsBehind 48 = .ok (.iaload, 1) := by decide +kernel
theorem dX1_fitsBehind_49 : decode cX1_fitsBehind 49 = .ok (.if_icmp .ne 7, 3) := by decide +kernel
theorem dX1_fitsBehind_52 : decode cX1_fitsBehind 52 = .ok (.iconst 1, 1) := by decide +kernel
theorem dX1_fitsBehind_53 : decode cX1_fitsBehind 53 = .ok (.goto 4, 3) := by decide +kernel
theorem dX1_fitsBehind_56 : decode cX1_fitsBehind 56 = .ok (.iconst 0, 1) := by decide +kernel
theorem dX1_fitsBehind_57 : decode cX1_fitsBehind 57 = .ok (.ireturn, 1) := by decide +kernel
theorem dX1_netOn_0 : decode cX1_netOn 0 = .ok (.iconst 0, 1) := by decide +kernel
theorem dX1_netOn_1 : decode cX1_netOn 1 = .ok (.istore_n 3, 1) := by decide +kernel
theorem dX1_netOn_2 : decode cX1_netOn 2 = .ok (.iload_n 3, 1) := by decide +kernel
theorem dX1_netOn_3 : decode cX1_netOn 3 = .ok (.aload_n 0, 1) := by decide +kernel
theorem dX1_netOn_4 : decode cX1_netOn 4 = .ok (.getfield 34, 3) := by decide +kernel
theorem dX1_netOn_7 : decode cX1_netOn 7 = .ok (.if_icmp .ge 46, 3) := by decide +kernel
theorem dX1_netOn_10 : decode cX1_netOn 10 = .ok (.aload_n 0, 1) := by decide +kernel
theorem dX1_netOn_11 : decode cX1_netOn 11 = .ok (.getfield 21, 3) := by decide +kernel
theorem dX1_netOn_14 : decode cX1_netOn 14 = .ok (.iload_n 3, 1) := by decide +kernel
theorem dX1_netOn_15 : decode cX1_netOn 15 = .ok (.iaload, 1) := by decide +kernel
theorem dX1_netOn_16 : decode cX1_netOn 16 = .ok (.iload_n 1, 1) := by decide +kernel
theorem dX1_netOn_17 : decode cX1_netOn 17 = .ok (.if_icmp .ne 30, 3) := by decide +kernel
theorem dX1_netOn_20 : decode cX1_netOn 20 = .ok (.aload_n 0, 1) := by decide +kernel
theorem dX1_netOn_21 : decode cX1_netOn 21 = .ok (.getfield 15, 3) := by decide +kernel
theorem dX1_netOn_24 : decode cX1_netOn 24 = .ok (.iload_n 3, 1) := by decide +kernel
theorem dX1_netOn_25 : decode cX1_netOn 25 = .ok (.iaload, 1) := by decide +kernel
theorem dX1_netOn_26 : decode cX1_netOn 26 = .ok (.iload_n 2, 1) := by decide +kernel
theorem dX1_netOn_27 : decode cX1_netOn 27 = .ok (.if_icmp .gt 20, 3) := by decide +kernel
theorem dX1_netOn_30 : decode cX1_netOn 30 = .ok (.iload_n 2, 1) := by decide +kernel
theorem dX1_netOn_31 : decode cX1_netOn 31 = .ok (.aload_n 0, 1) := by decide +kernel
theorem dX1_netOn_32 : decode cX1_netOn 32 = .ok (.getfield 18, 3) := by decide +kernel
theorem dX1_netOn_35 : decode cX1_netOn 35 = .ok (.iload_n 3, 1) := by decide +kernel
theorem dX1_netOn_36 : decode cX1_netOn 36 = .ok (.iaload, 1) := by decide +kernel
theorem dX1_netOn_37 : decode cX1_netOn 37 = .ok (.if_icmp .gt 10, 3) := by decide +kernel
theorem dX1_netOn_40 : decode cX1_netOn 40 = .ok (.aload_n 0, 1) := by decide +kernel
theorem dX1_netOn_41 : decode cX1_netOn 41 = .ok (.getfield 9, 3) := by decide +kernel
theorem dX1_netOn_44 : decode cX1_netOn 44 = .ok (.iload_n 3, 1) := by decide +kernel
theorem dX1_netOn_45 : decode cX1_netOn 45 = .ok (.iaload, 1) := by decide +kernel
theorem dX1_netOn_46 : decode cX1_netOn 46 = .ok (.ireturn, 1) := by decide +kernel
theorem dX1_netOn_47 : decode cX1_netOn 47 = .ok (.iinc 3 1, 3) := by decide +kernel
theorem dX1_netOn_50 : decode cX1_netOn 50 = .ok (.goto (-48), 3) := by decide +kernel
theorem dX1_netOn_53 : decode cX1_netOn 53 = .ok (.iconst 0, 1) := by decide +kernel
theorem dX1_netOn_54 : decode cX1_netOn 54 = .ok (.ireturn, 1) := by decide +kernel
theorem dX1_touchesOn_0 : decode cX1_touchesOn 0 = .ok (.iconst 0, 1) := by decide +kernel
theorem dX1_touchesOn_1 : decode cX1_touchesOn 1 = .ok (.istore 4, 2) := by decide +kernel
theorem dX1_touchesOn_3 : decode cX1_touchesOn 3 = .ok (.iload 4, 2) := by decide +kernel
theorem dX1_touchesOn_5 : decode cX1_touchesOn 5 = .ok (.aload_n 0, 1) := by decide +kernel
theorem dX1_touchesOn_6 : decode cX1_touchesOn 6 = .ok (.getfield 34, 3) := by decide +kernel
theorem dX1_touchesOn_9 : decode cX1_touchesOn 9 = .ok (.if_icmp .ge 33, 3) := by decide +kernel
theorem dX1_touchesOn_12 : decode cX1_touchesOn 12 = .ok (.aload_n 0, 1) := by decide +kernel
theorem dX1_touchesOn_13 : decode cX1_touchesOn 13 = .ok (.getfield 21, 3) := by decide +kernel
theorem dX1_touchesOn_16 : decode cX1_touchesOn 16 = .ok (.iload 4, 2) := by decide +kernel
theorem dX1_touchesOn_18 : decode cX1_touchesOn 18 = .ok (.iaload, 1) := by decide +kernel
theorem dX1_touchesOn_19 : decode cX1_touchesOn 19 = .ok (.iload_n 1, 1) := by decide +kernel
theorem dX1_touchesOn_20 : decode cX1_touchesOn 20 = .ok (.if_icmp .ne 16, 3) := by decide +kernel
theorem dX1_touchesOn_23 : decode cX1_touchesOn 23 = .ok (.aload_n 0, 1) := by decide +kernel
theorem dX1_touchesOn_24 : decode cX1_touchesOn 24 = .ok (.iload 4, 2) := by decide +kernel
theorem dX1_touchesOn_26 : decode cX1_touchesOn 26 = .ok (.iload_n 2, 1) := by decide +kernel
theorem dX1_touchesOn_27 : decode cX1_touchesOn 27 = .ok (.iload_n 3, 1) := by decide +kernel
theorem dX1_touchesOn_28 : decode cX1_touchesOn 28 = .ok (.invokevirtual 100, 3) := by decide +kernel
theorem dX1_touchesOn_31 : decode cX1_touchesOn 31 = .ok (.ifCond .eq 5, 3) := by decide +kernel
theorem dX1_touchesOn_34 : decode cX1_touchesOn 34 = .ok (.iconst 1, 1) := by decide +kernel
theorem dX1_touchesOn_35 : decode cX1_touchesOn 35 = .ok (.ireturn, 1) := by decide +kernel
theorem dX1_touchesOn_36 : decode cX1_touchesOn 36 = .ok (.iinc 4 1, 3) := by decide +kernel
theorem dX1_touchesOn_39 : decode cX1_touchesOn 39 = .ok (.goto (-36), 3) := by decide +kernel
theorem dX1_touchesOn_42 : decode cX1_touchesOn 42 = .ok (.iconst 0, 1) := by decide +kernel
theorem dX1_touchesOn_43 : decode cX1_touchesOn 43 = .ok (.ireturn, 1) := by decide +kernel
theorem dX1_greatestTrack_0 : decode cX1_greatestTrack 0 = .ok (.iconst (-1), 1) := by decide +kernel
theorem dX1_greatestTrack_1 : decode cX1_greatestTrack 1 = .ok (.istore_n 3, 1) := by decide +kernel
theorem dX1_greatestTrack_2 : decode cX1_greatestTrack 2 = .ok (.iconst 0, 1) := by decide +kernel
theorem dX1_greatestTrack_3 : decode cX1_greatestTrack 3 = .ok (.istore 4, 2) := by decide +kernel
theorem dX1_greatestTrack_5 : decode cX1_greatestTrack 5 = .ok (.iload 4, 2) := by decide +kernel
theorem dX1_greatestTrack_7 : decode cX1_greatestTrack 7 = .ok (.aload_n 0, 1) := by decide +kernel
theorem dX1_greatestTrack_8 : decode cX1_greatestTrack 8 = .ok (.getfield 34, 3) := by decide +kernel
theorem dX1_greatestTrack_11 : decode cX1_greatestTrack 11 = .ok (.if_icmp .ge 32, 3) := by decide +kernel
theorem dX1_greatestTrack_14 : decode cX1_greatestTrack 14 = .ok (.aload_n 0, 1) := by decide +kernel
theorem dX1_greatestTrack_15 : decode cX1_greatestTrack 15 = .ok (.iload 4, 2) := by decide +kernel
theorem dX1_greatestTrack_17 : decode cX1_greatestTrack 17 = .ok (.iload_n 2, 1) := by decide +kernel
theorem dX1_greatestTrack_18 : decode cX1_greatestTrack 18 = .ok (.iload_n 1, 1) := by decide +kernel
theorem dX1_greatestTrack_19 : decode cX1_greatestTrack 19 = .ok (.invokevirtual 100, 3) := by decide +kernel
theorem dX1_greatestTrack_22 : decode cX1_greatestTrack 22 = .ok (.ifCond .eq 15, 3) := by decide +kernel
theorem dX1_greatestTrack_25 : decode cX1_greatestTrack 25 = .ok (.iload_n 3, 1) := by decide +kernel
theorem dX1_greatestTrack_26 : decode cX1_greatestTrack 26 = .ok (.aload_n 0, 1) := by decide +kernel
theorem dX1_greatestTrack_27 : decode cX1_greatestTrack 27 = .ok (.getfield 21, 3) := by decide +kernel
theorem dX1_greatestTrack_30 : decode cX1_greatestTrack 30 = .ok (.iload 4, 2) := by decide +kernel
theorem dX1_greatestTrack_32 : decode cX1_greatestTrack 32 = .ok (.iaload, 1) := by decide +kernel
theorem dX1_greatestTrack_33 : decode cX1_greatestTrack 33 = .ok (.invokestatic 125, 3) := by decide +kernel
theorem dX1_greatestTrack_36 : decode cX1_greatestTrack 36 = .ok (.istore_n 3, 1) := by decide +kernel
theorem dX1_greatestTrack_37 : decode cX1_greatestTrack 37 = .ok (.iinc 4 1, 3) := by decide +kernel
theorem dX1_greatestTrack_40 : decode cX1_greatestTrack 40 = .ok (.goto (-35), 3) := by decide +kernel
theorem dX1_greatestTrack_43 : decode cX1_greatestTrack 43 = .ok (.iload_n 3, 1) := by decide +kernel
theorem dX1_greatestTrack_44 : decode cX1_greatestTrack 44 = .ok (.ireturn, 1) := by decide +kernel
theorem dX1_leastTrack_0 : decode cX1_leastTrack 0 = .ok (.aload_n 0, 1) := by decide +kernel
theorem dX1_leastTrack_1 : decode cX1_leastTrack 1 = .ok (.getfield 38, 3) := by decide +kernel
theorem dX1_leastTrack_4 : decode cX1_leastTrack 4 = .ok (.istore_n 3, 1) := by decide +kernel
theorem dX1_leastTrack_5 : decode cX1_leastTrack 5 = .ok (.iconst 0, 1) := by decide +kernel
theorem dX1_leastTrack_6 : decode cX1_leastTrack 6 = .ok (.istore 4, 2) := by decide +kernel
theorem dX1_leastTrack_8 : decode cX1_leastTrack 8 = .ok (.iload 4, 2) := by decide +kernel
theorem dX1_leastTrack_10 : decode cX1_leastTrack 10 = .ok (.aload_n 0, 1) := by decide +kernel
theorem dX1_leastTrack_11 : decode cX1_leastTrack 11 = .ok (.getfield 34, 3) := by decide +kernel
theorem dX1_leastTrack_14 : decode cX1_leastTrack 14 = .ok (.if_icmp .ge 32, 3) := by decide +kernel
theorem dX1_leastTrack_17 : decode cX1_leastTrack 17 = .ok (.aload_n 0, 1) := by decide +kernel
theorem dX1_leastTrack_18 : decode cX1_leastTrack 18 = .ok (.iload 4, 2) := by decide +kernel
theorem dX1_leastTrack_20 : decode cX1_leastTrack 20 = .ok (.iload_n 2, 1) := by decide +kernel
theorem dX1_leastTrack_21 : decode cX1_leastTrack 21 = .ok (.iload_n 1, 1) := by decide +kernel
theorem dX1_leastTrack_22 : decode cX1_leastTrack 22 = .ok (.invokevirtual 100, 3) := by decide +kernel
theorem dX1_leastTrack_25 : decode cX1_leastTrack 25 = .ok (.ifCond .eq 15, 3) := by decide +kernel
theorem dX1_leastTrack_28 : decode cX1_leastTrack 28 = .ok (.iload_n 3, 1) := by decide +kernel
theorem dX1_leastTrack_29 : decode cX1_leastTrack 29 = .ok (.aload_n 0, 1) := by decide +kernel
theorem dX1_leastTrack_30 : decode cX1_leastTrack 30 = .ok (.getfield 21, 3) := by decide +kernel
theorem dX1_leastTrack_33 : decode cX1_leastTrack 33 = .ok (.iload 4, 2) := by decide +kernel
theorem dX1_leastTrack_35 : decode cX1_leastTrack 35 = .ok (.iaload, 1) := by decide +kernel
theorem dX1_leastTrack_36 : decode cX1_leastTrack 36 = .ok (.invokestatic 131, 3) := by decide +kernel
theorem dX1_leastTrack_39 : decode cX1_leastTrack 39 = .ok (.istore_n 3, 1) := by decide +kernel
theorem dX1_leastTrack_40 : decode cX1_leastTrack 40 = .ok (.iinc 4 1, 3) := by decide +kernel
theorem dX1_leastTrack_43 : decode cX1_leastTrack 43 = .ok (.goto (-35), 3) := by decide +kernel
theorem dX1_leastTrack_46 : decode cX1_leastTrack 46 = .ok (.iload_n 3, 1) := by decide +kernel
theorem dX1_leastTrack_47 : decode cX1_leastTrack 47 = .ok (.ireturn, 1) := by decide +kernel
theorem dX1_countPoints_0 : decode cX1_countPoints 0 = .ok (.iconst 0, 1) := by decide +kernel
theorem dX1_countPoints_1 : decode cX1_countPoints 1 = .ok (.istore_n 1, 1) := by decide +kernel
theorem dX1_countPoints_2 : decode cX1_countPoints 2 = .ok (.iconst 0, 1) := by decide +kernel
theorem dX1_countPoints_3 : decode cX1_countPoints 3 = .ok (.istore_n 2, 1) := by decide +kernel
theorem dX1_countPoints_4 : decode cX1_countPoints 4 = .ok (.iload_n 2, 1) := by decide +kernel
theorem dX1_countPoints_5 : decode cX1_countPoints 5 = .ok (.aload_n 0, 1) := by decide +kernel
theorem dX1_countPoints_6 : decode cX1_countPoints 6 = .ok (.getfield 38, 3) := by decide +kernel
theorem dX1_countPoints_9 : decode cX1_countPoints 9 = .ok (.if_icmp .ge 35, 3) := by decide +kernel
theorem dX1_countPoints_12 : decode cX1_countPoints 12 = .ok (.iconst 0, 1) := by decide +kernel
theorem dX1_countPoints_13 : decode cX1_countPoints 13 = .ok (.istore_n 3, 1) := by decide +kernel
theorem dX1_countPoints_14 : decode cX1_countPoints 14 = .ok (.iload_n 3, 1) := by decide +kernel
theorem dX1_countPoints_15 : decode cX1_countPoints 15 = .ok (.bipush 20, 2) := by decide +kernel
theorem dX1_countPoints_17 : decode cX1_countPoints 17 = .ok (.if_icmp .ge 21, 3) := by decide +kernel
theorem dX1_countPoints_20 : decode cX1_countPoints 20 = .ok (.aload_n 0, 1) := by decide +kernel
theorem dX1_countPoints_21 : decode cX1_countPoints 21 = .ok (.iload_n 2, 1) := by decide +kernel
theorem dX1_countPoints_22 : decode cX1_countPoints 22 = .ok (.iload_n 3, 1) := by decide +kernel
theorem dX1_countPoints_23 : decode cX1_countPoints 23 = .ok (.invokevirtual 134, 3) := by decide +kernel
theorem dX1_countPoints_26 : decode cX1_countPoints 26 = .ok (.ifCond .eq 6, 3) := by decide +kernel
theorem dX1_countPoints_29 : decode cX1_countPoints 29 = .ok (.iinc 1 1, 3) := by decide +kernel
theorem dX1_countPoints_32 : decode cX1_countPoints 32 = .ok (.iinc 3 1, 3) := by decide +kernel
theorem dX1_countPoints_35 : decode cX1_countPoints 35 = .ok (.goto (-21), 3) := by decide +kernel
theorem dX1_countPoints_38 : decode cX1_countPoints 38 = .ok (.iinc 2 1, 3) := by decide +kernel
theorem dX1_countPoints_41 : decode cX1_countPoints 41 = .ok (.goto (-37), 3) := by decide +kernel
theorem dX1_countPoints_44 : decode cX1_countPoints 44 = .ok (.iload_n 1, 1) := by decide +kernel
theorem dX1_countPoints_45 : decode cX1_countPoints 45 = .ok (.ireturn, 1) := by decide +kernel
theorem dX1_isIn_0 : decode cX1_isIn 0 = .ok (.lload_n 0, 1) := by decide +kernel
theorem dX1_isIn_1 : decode cX1_isIn 1 = .ok (.iload_n 2, 1) := by decide +kernel
theorem dX1_isIn_2 : decode cX1_isIn 2 = .ok (.lshr, 1) := by decide +kernel
theorem dX1_isIn_3 : decode cX1_isIn 3 = .ok (.lconst 1, 1) := by decide +kernel
theorem dX1_isIn_4 : decode cX1_isIn 4 = .ok (.land, 1) := by decide +kernel
theorem dX1_isIn_5 : decode cX1_isIn 5 = .ok (.lconst 0, 1) := by decide +kernel
theorem dX1_isIn_6 : decode cX1_isIn 6 = .ok (.lcmp, 1) := by decide +kernel
theorem dX1_isIn_7 : decode cX1_isIn 7 = .ok (.ifCond .eq 7, 3) := by decide +kernel
theorem dX1_isIn_10 : decode cX1_isIn 10 = .ok (.iconst 1, 1) := by decide +kernel
theorem dX1_isIn_11 : decode cX1_isIn 11 = .ok (.goto 4, 3) := by decide +kernel
theorem dX1_isIn_14 : decode cX1_isIn 14 = .ok (.iconst 0, 1) := by decide +kernel
theorem dX1_isIn_15 : decode cX1_isIn 15 = .ok (.ireturn, 1) := by decide +kernel
theorem dX2_init_0 : decode cX2_init 0 = .ok (.aload_n 0, 1) := by decide +kernel
theorem dX2_init_1 : decode cX2_init 1 = .ok (.invokespecial 3, 3) := by decide +kernel
theorem dX2_init_4 : decode cX2_init 4 = .ok (.aload_n 0, 1) := by decide +kernel
theorem dX2_init_5 : decode cX2_init 5 = .ok (.bipush 38, 2) := by decide +kernel
theorem dX2_init_7 : decode cX2_init 7 = .ok (.newarray .long, 2) := by decide +kernel
theorem dX2_init_9 : decode cX2_init 9 = .ok (.putfield 9, 3) := by decide +kernel
theorem dX2_init_12 : decode cX2_init 12 = .ok (.aload_n 0, 1) := by decide +kernel
theorem dX2_init_13 : decode cX2_init 13 = .ok (.bipush 38, 2) := by decide +kernel
theorem dX2_init_15 : decode cX2_init 15 = .ok (.newarray .int, 2) := by decide +kernel
theorem dX2_init_17 : decode cX2_init 17 = .ok (.putfield 15, 3) := by decide +kernel
theorem dX2_init_20 : decode cX2_init 20 = .ok (.aload_n 0, 1) := by decide +kernel
theorem dX2_init_21 : decode cX2_init 21 = .ok (.bipush 38, 2) := by decide +kernel
theorem dX2_init_23 : decode cX2_init 23 = .ok (.newarray .int, 2) := by decide +kernel
theorem dX2_init_25 : decode cX2_init 25 = .ok (.putfield 19, 3) := by decide +kernel
theorem dX2_init_28 : decode cX2_init 28 = .ok (.aload_n 0, 1) := by decide +kernel
theorem dX2_init_29 : decode cX2_init 29 = .ok (.iconst 0, 1) := by decide +kernel
theorem dX2_init_30 : decode cX2_init 30 = .ok (.putfield 22, 3) := by decide +kernel
theorem dX2_init_33 : decode cX2_init 33 = .ok (.return_, 1) := by decide +kernel
theorem dX2_toldAt_0 : decode cX2_toldAt 0 = .ok (.iload_n 1, 1) := by decide +kernel
theorem dX2_toldAt_1 : decode cX2_toldAt 1 = .ok (.ifCond .lt 20, 3) := by decide +kernel
theorem dX2_toldAt_4 : decode cX2_toldAt 4 = .ok (.iload_n 1, 1) := by decide +kernel
theorem dX2_toldAt_5 : decode cX2_toldAt 5 = .ok (.aload_n 0, 1) := by decide +kernel
theorem dX2_toldAt_6 : decode cX2_toldAt 6 = .ok (.getfield 22, 3) := by decide +kernel
theorem dX2_toldAt_9 : decode cX2_toldAt 9 = .ok (.if_icmp .ge 12, 3) := by decide +kernel
theorem dX2_toldAt_12 : decode cX2_toldAt 12 = .ok (.aload_n 0, 1) := by decide +kernel
theorem dX2_toldAt_13 : decode cX2_toldAt 13 = .ok (.getfield 19, 3) := by decide +kernel
theorem dX2_toldAt_16 : decode cX2_toldAt 16 = .ok (.iload_n 1, 1) := by decide +kernel
theorem dX2_toldAt_17 : decode cX2_toldAt 17 = .ok (.iaload, 1) := by decide +kernel
theorem dX2_toldAt_18 : decode cX2_toldAt 18 = .ok (.goto 4, 3) := by decide +kernel
theorem dX2_toldAt_21 : decode cX2_toldAt 21 = .ok (.iconst (-1), 1) := by decide +kernel
theorem dX2_toldAt_22 : decode cX2_toldAt 22 = .ok (.ireturn, 1) := by decide +kernel
theorem dX2_lowestInRing_0 : decode cX2_lowestInRing 0 = .ok (.aload_n 0, 1) := by decide +kernel
theorem dX2_lowestInRing_1 : decode cX2_lowestInRing 1 = .ok (.aload_n 1, 1) := by decide +kernel
theorem dX2_lowestInRing_2 : decode cX2_lowestInRing 2 = .ok (.invokevirtual 26, 3) := by decide +kernel
theorem dX2_lowestInRing_5 : decode cX2_lowestInRing 5 = .ok (.iconst 0, 1) := by decide +kernel
theorem dX2_lowestInRing_6 : decode cX2_lowestInRing 6 = .ok (.istore_n 2, 1) := by decide +kernel
theorem dX2_lowestInRing_7 : decode cX2_lowestInRing 7 = .ok (.iload_n 2, 1) := by decide +kernel
theorem dX2_lowestInRing_8 : decode cX2_lowestInRing 8 = .ok (.aload_n 1, 1) := by decide +kernel
theorem dX2_lowestInRing_9 : decode cX2_lowestInRing 9 = .ok (.getfield 30, 3) := by decide +kernel
theorem dX2_lowestInRing_12 : decode cX2_lowestInRing 12 = .ok (.if_icmp .ge 24, 3) := by decide +kernel
theorem dX2_lowestInRing_15 : decode cX2_lowestInRing 15 = .ok (.aload_n 0, 1) := by decide +kernel
theorem dX2_lowestInRing_16 : decode cX2_lowestInRing 16 = .ok (.getfield 9, 3) := by decide +kernel
theorem dX2_lowestInRing_19 : decode cX2_lowestInRing 19 = .ok (.iload_n 2, 1) := by decide +kernel
theorem dX2_lowestInRing_20 : decode cX2_lowestInRing 20 = .ok (.laload, 1) := by decide +kernel
theorem dX2_lowestInRing_21 : decode cX2_lowestInRing 21 = .ok (.iload_n 2, 1) := by decide +kernel
theorem dX2_lowestInRing_22 : decode cX2_lowestInRing 22 = .ok (.invokestatic 35, 3) := by decide +kernel
theorem dX2_lowestInRing_25 : decode cX2_lowestInRing 25 = .ok (.ifCond .eq 5, 3) := by decide +kernel
theorem dX2_lowestInRing_28 : decode cX2_lowestInRing 28 = .ok (.iload_n 2, 1) := by decide +kernel
theorem dX2_lowestInRing_29 : decode cX2_lowestInRing 29 = .ok (.ireturn, 1) := by decide +kernel
theorem dX2_lowestInRing_30 : decode cX2_lowestInRing 30 = .ok (.iinc 2 1, 3) := by decide +kernel
theorem dX2_lowestInRing_33 : decode cX2_lowestInRing 33 = .ok (.goto (-26), 3) := by decide +kernel
theorem dX2_lowestInRing_36 : decode cX2_lowestInRing 36 = .ok (.iconst (-1), 1) := by decide +kernel
theorem dX2_lowestInRing_37 : decode cX2_lowestInRing 37 = .ok (.ireturn, 1) := by decide +kernel
theorem dX2_findReach_0 : decode cX2_findReach 0 = .ok (.aload_n 1, 1) := by decide +kernel
theorem dX2_findReach_1 : decode cX2_findReach 1 = .ok (.getfield 39, 3) := by decide +kernel
theorem dX2_findReach_4 : decode cX2_findReach 4 = .ok (.iconst 0, 1) := by decide +kernel
theorem dX2_findReach_5 : decode cX2_findReach 5 = .ok (.aload_n 0, 1) := by decide +kernel
theorem dX2_findReach_6 : decode cX2_findReach 6 = .ok (.getfield 9, 3) := by decide +kernel
theorem dX2_findReach_9 : decode cX2_findReach 9 = .ok (.iconst 0, 1) := by decide +kernel
theorem dX2_findReach_10 : decode cX2_findReach 10 = .ok (.bipush 38, 2) := by decide +kernel
theorem dX2_findReach_12 : decode cX2_findReach 12 = .ok (.invokestatic 42, 3) := by decide +kernel
theorem dX2_findReach_15 : decode cX2_findReach 15 = .ok (.iconst 0, 1) := by decide +kernel
theorem dX2_findReach_16 : decode cX2_findReach 16 = .ok (.istore_n 2, 1) := by decide +kernel
theorem dX2_findReach_17 : decode cX2_findReach 17 = .ok (.iload_n 2, 1) := by decide +kernel
theorem dX2_findReach_18 : decode cX2_findReach 18 = .ok (.aload_n 1, 1) := by decide +kernel
theorem dX2_findReach_19 : decode cX2_findReach 19 = .ok (.getfield 30, 3) := by decide +kernel
theorem dX2_findReach_22 : decode cX2_findReach 22 = .ok (.if_icmp .ge 53, 3) := by decide +kernel
theorem dX2_findReach_25 : decode cX2_findReach 25 = .ok (.iconst 0, 1) := by decide +kernel
theorem dX2_findReach_26 : decode cX2_findReach 26 = .ok (.istore_n 3, 1) := by decide +kernel
theorem dX2_findReach_27 : decode cX2_findReach 27 = .ok (.iload_n 3, 1) := by decide +kernel
theorem dX2_findReach_28 : decode cX2_findReach 28 = .ok (.aload_n 1, 1) := by decide +kernel
theorem dX2_findReach_29 : decode cX2_findReach 29 = .ok (.getfield 30, 3) := by decide +kernel
theorem dX2_findReach_32 : decode cX2_findReach 32 = .ok (.if_icmp .ge 37, 3) := by decide +kernel
theorem dX2_findReach_35 : decode cX2_findReach 35 = .ok (.aload_n 0, 1) := by decide +kernel
theorem dX2_findReach_36 : decode cX2_findReach 36 = .ok (.getfield 9, 3) := by decide +kernel
theorem dX2_findReach_39 : decode cX2_findReach 39 = .ok (.iload_n 3, 1) := by decide +kernel
theorem dX2_findReach_40 : decode cX2_findReach 40 = .ok (.laload, 1) := by decide +kernel
theorem dX2_findReach_41 : decode cX2_findReach 41 = .ok (.iload_n 2, 1) := by decide +kernel
theorem dX2_findReach_42 : decode cX2_findReach 42 = .ok (.invokestatic 35, 3) := by decide +kernel
theorem dX2_findReach_45 : decode cX2_findReach 45 = .ok (.ifCond .eq 18, 3) := by decide +kernel
theorem dX2_findReach_48 : decode cX2_findReach 48 = .ok (.aload_n 0, 1) := by decide +kernel
theorem dX2_findReach_49 : decode cX2_findReach 49 = .ok (.getfield 9, 3) := by decide +kernel
theorem dX2_findReach_52 : decode cX2_findReach 52 = .ok (.iload_n 3, 1) := by decide +kernel
theorem dX2_findReach_53 : decode cX2_findReach 53 = .ok (.dup2, 1) := by decide +kernel
theorem dX2_findReach_54 : decode cX2_findReach 54 = .ok (.laload, 1) := by decide +kernel
theorem dX2_findReach_55 : decode cX2_findReach 55 = .ok (.aload_n 0, 1) := by decide +kernel
theorem dX2_findReach_56 : decode cX2_findReach 56 = .ok (.getfield 9, 3) := by decide +kernel
theorem dX2_findReach_59 : decode cX2_findReach 59 = .ok (.iload_n 2, 1) := by decide +kernel
theorem dX2_findReach_60 : decode cX2_findReach 60 = .ok (.laload, 1) := by decide +kernel
theorem dX2_findReach_61 : decode cX2_findReach 61 = .ok (.lor, 1) := by decide +kernel
theorem dX2_findReach_62 : decode cX2_findReach 62 = .ok (.lastore, 1) := by decide +kernel
theorem dX2_findReach_63 : decode cX2_findReach 63 = .ok (.iinc 3 1, 3) := by decide +kernel
theorem dX2_findReach_66 : decode cX2_findReach 66 = .ok (.goto (-39), 3) := by decide +kernel
theorem dX2_findReach_69 : decode cX2_findReach 69 = .ok (.iinc 2 1, 3) := by decide +kernel
theorem dX2_findReach_72 : decode cX2_findReach 72 = .ok (.goto (-55), 3) := by decide +kernel
theorem dX2_findReach_75 : decode cX2_findReach 75 = .ok (.return_, 1) := by decide +kernel
theorem dX2_tell_0 : decode cX2_tell 0 = .ok (.aload_n 0, 1) := by decide +kernel
theorem dX2_tell_1 : decode cX2_tell 1 = .ok (.aload_n 1, 1) := by decide +kernel
theorem dX2_tell_2 : decode cX2_tell 2 = .ok (.invokevirtual 48, 3) := by decide +kernel
theorem dX2_tell_5 : decode cX2_tell 5 = .ok (.istore_n 2, 1) := by decide +kernel
theorem dX2_tell_6 : decode cX2_tell 6 = .ok (.aload_n 0, 1) := by decide +kernel
theorem dX2_tell_7 : decode cX2_tell 7 = .ok (.iconst 0, 1) := by decide +kernel
theorem dX2_tell_8 : decode cX2_tell 8 = .ok (.putfield 22, 3) := by decide +kernel
theorem dX2_tell_11 : decode cX2_tell 11 = .ok (.iload_n 2, 1) := by decide +kernel
theorem dX2_tell_12 : decode cX2_tell 12 = .ok (.iconst (-1), 1) := by decide +kernel
theorem dX2_tell_13 : decode cX2_tell 13 = .ok (.if_icmp .ne 4, 3) := by decide +kernel
theorem dX2_tell_16 : decode cX2_tell 16 = .ok (.return_, 1) := by decide +kernel
theorem dX2_tell_17 : decode cX2_tell 17 = .ok (.aload_n 0, 1) := by decide +kernel
theorem dX2_tell_18 : decode cX2_tell 18 = .ok (.aload_n 1, 1) := by decide +kernel
theorem dX2_tell_19 : decode cX2_tell 19 = .ok (.iload_n 2, 1) := by decide +kernel
theorem dX2_tell_20 : decode cX2_tell 20 = .ok (.invokevirtual 52, 3) := by decide +kernel
theorem dX2_tell_23 : decode cX2_tell 23 = .ok (.iload_n 2, 1) := by decide +kernel
theorem dX2_tell_24 : decode cX2_tell 24 = .ok (.istore_n 3, 1) := by decide +kernel
theorem dX2_tell_25 : decode cX2_tell 25 = .ok (.aload_n 0, 1) := by decide +kernel
theorem dX2_tell_26 : decode cX2_tell 26 = .ok (.getfield 19, 3) := by decide +kernel
theorem dX2_tell_29 : decode cX2_tell 29 = .ok (.aload_n 0, 1) := by decide +kernel
theorem dX2_tell_30 : decode cX2_tell 30 = .ok (.getfield 22, 3) := by decide +kernel
theorem dX2_tell_33 : decode cX2_tell 33 = .ok (.iload_n 3, 1) := by decide +kernel
theorem dX2_tell_34 : decode cX2_tell 34 = .ok (.iastore, 1) := by decide +kernel
theorem dX2_tell_35 : decode cX2_tell 35 = .ok (.aload_n 0, 1) := by decide +kernel
theorem dX2_tell_36 : decode cX2_tell 36 = .ok (.dup, 1) := by decide +kernel
theorem dX2_tell_37 : decode cX2_tell 37 = .ok (.getfield 22, 3) := by decide +kernel
theorem dX2_tell_40 : decode cX2_tell 40 = .ok (.iconst 1, 1) := by decide +kernel
theorem dX2_tell_41 : decode cX2_tell 41 = .ok (.iadd, 1) := by decide +kernel
theorem dX2_tell_42 : decode cX2_tell 42 = .ok (.putfield 22, 3) := by decide +kernel
theorem dX2_tell_45 : decode cX2_tell 45 = .ok (.aload_n 0, 1) := by decide +kernel
theorem dX2_tell_46 : decode cX2_tell 46 = .ok (.aload_n 1, 1) := by decide +kernel
theorem dX2_tell_47 : decode cX2_tell 47 = .ok (.iload_n 3, 1) := by decide +kernel
theorem dX2_tell_48 : decode cX2_tell 48 = .ok (.invokevirtual 56, 3) := by decide +kernel
theorem dX2_tell_51 : decode cX2_tell 51 = .ok (.istore_n 3, 1) := by decide +kernel
theorem dX2_tell_52 : decode cX2_tell 52 = .ok (.iload_n 3, 1) := by decide +kernel
theorem dX2_tell_53 : decode cX2_tell 53 = .ok (.iload_n 2, 1) := by decide +kernel
theorem dX2_tell_54 : decode cX2_tell 54 = .ok (.if_icmp .eq 19, 3) := by decide +kernel
theorem dX2_tell_57 : decode cX2_tell 57 = .ok (.iload_n 3, 1) := by decide +kernel
theorem dX2_tell_58 : decode cX2_tell 58 = .ok (.iconst (-1), 1) := by decide +kernel
theorem dX2_tell_59 : decode cX2_tell 59 = .ok (.if_icmp .eq 14, 3) := by decide +kernel
theorem dX2_tell_62 : decode cX2_tell 62 = .ok (.aload_n 0, 1) := by decide +kernel
theorem dX2_tell_63 : decode cX2_tell 63 = .ok (.getfield 22, 3) := by decide +kernel
theorem dX2_tell_66 : decode cX2_tell 66 = .ok (.aload_n 1, 1) := by decide +kernel
theorem dX2_tell_67 : decode cX2_tell 67 = .ok (.getfield 30, 3) := by decide +kernel
theorem dX2_tell_70 : decode cX2_tell 70 = .ok (.if_icmp .lt (-45), 3) := by decide +kernel
theorem dX2_tell_73 : decode cX2_tell 73 = .ok (.return_, 1) := by decide +kernel
theorem dX2_countStepsTo_0 : decode cX2_countStepsTo 0 = .ok (.aload_n 0, 1) := by decide +kernel
theorem dX2_countStepsTo_1 : decode cX2_countStepsTo 1 = .ok (.getfield 15, 3) := by decide +kernel
theorem dX2_countStepsTo_4 : decode cX2_countStepsTo 4 = .ok (.iconst (-1), 1) := by decide +kernel
theorem dX2_countStepsTo_5 : decode cX2_countStepsTo 5 = .ok (.invokestatic 60, 3) := by decide +kernel
theorem dX2_countStepsTo_8 : decode cX2_countStepsTo 8 = .ok (.aload_n 0, 1) := by decide +kernel
theorem dX2_countStepsTo_9 : decode cX2_countStepsTo 9 = .ok (.getfield 15, 3) := by decide +kernel
theorem dX2_countStepsTo_12 : decode cX2_countStepsTo 12 = .ok (.iload_n 2, 1) := by decide +kernel
theorem dX2_countStepsTo_13 : decode cX2_countStepsTo 13 = .ok (.iconst 0, 1) := by decide +kernel
theorem dX2_countStepsTo_14 : decode cX2_countStepsTo 14 = .ok (.iastore, 1) := by decide +kernel
theorem dX2_countStepsTo_15 : decode cX2_countStepsTo 15 = .ok (.lconst 1, 1) := by decide +kernel
theorem dX2_countStepsTo_16 : decode cX2_countStepsTo 16 = .ok (.iload_n 2, 1) := by decide +kernel
theorem dX2_countStepsTo_17 : decode cX2_countStepsTo 17 = .ok (.lshl, 1) := by decide +kernel
theorem dX2_countStepsTo_18 : decode cX2_countStepsTo 18 = .ok (.lstore_n 3, 1) := by decide +kernel
theorem dX2_countStepsTo_19 : decode cX2_countStepsTo 19 = .ok (.iconst 1, 1) := by decide +kernel
theorem dX2_countStepsTo_20 : decode cX2_countStepsTo 20 = .ok (.istore 5, 2) := by decide +kernel
theorem dX2_countStepsTo_22 : decode cX2_countStepsTo 22 = .ok (.iload 5, 2) := by decide +kernel
theorem dX2_countStepsTo_24 : decode cX2_countStepsTo 24 = .ok (.aload_n 1, 1) := by decide +kernel
theorem dX2_countStepsTo_25 : decode cX2_countStepsTo 25 = .ok (.getfield 30, 3) := by decide +kernel
theorem dX2_countStepsTo_28 : decode cX2_countStepsTo 28 = .ok (.if_icmp .ge 72, 3) := by decide +kernel
theorem dX2_countStepsTo_31 : decode cX2_countStepsTo 31 = .ok (.lload_n 3, 1) := by decide +kernel
theorem dX2_countStepsTo_32 : decode cX2_countStepsTo 32 = .ok (.lstore 6, 2) := by decide +kernel
theorem dX2_countStepsTo_34 : decode cX2_countStepsTo 34 = .ok (.iconst 0, 1) := by decide +kernel
theorem dX2_countStepsTo_35 : decode cX2_countStepsTo 35 = .ok (.istore 8, 2) := by decide +kernel
theorem dX2_countStepsTo_37 : decode cX2_countStepsTo 37 = .ok (.iload 8, 2) := by decide +kernel
theorem dX2_countStepsTo_39 : decode cX2_countStepsTo 39 = .ok (.aload_n 1, 1) := by decide +kernel
theorem dX2_countStepsTo_40 : decode cX2_countStepsTo 40 = .ok (.getfield 30, 3) := by decide +kernel
theorem dX2_countStepsTo_43 : decode cX2_countStepsTo 43 = .ok (.if_icmp .ge 51, 3) := by decide +kernel
theorem dX2_countStepsTo_46 : decode cX2_countStepsTo 46 = .ok (.aload_n 0, 1) := by decide +kernel
theorem dX2_countStepsTo_47 : decode cX2_countStepsTo 47 = .ok (.getfield 15, 3) := by decide +kernel
theorem dX2_countStepsTo_50 : decode cX2_countStepsTo 50 = .ok (.iload 8, 2) := by decide +kernel
theorem dX2_countStepsTo_52 : decode cX2_countStepsTo 52 = .ok (.iaload, 1) := by decide +kernel
theorem dX2_countStepsTo_53 : decode cX2_countStepsTo 53 = .ok (.iconst (-1), 1) := by decide +kernel
theorem dX2_countStepsTo_54 : decode cX2_countStepsTo 54 = .ok (.if_icmp .ne 34, 3) := by decide +kernel
theorem dX2_countStepsTo_57 : decode cX2_countStepsTo 57 = .ok (.aload_n 1, 1) := by decide +kernel
theorem dX2_countStepsTo_58 : decode cX2_countStepsTo 58 = .ok (.getfield 39, 3) := by decide +kernel
theorem dX2_countStepsTo_61 : decode cX2_countStepsTo 61 = .ok (.iload 8, 2) := by decide +kernel
theorem dX2_countStepsTo_63 : decode cX2_countStepsTo 63 = .ok (.laload, 1) := by decide +kernel
theorem dX2_countStepsTo_64 : decode cX2_countStepsTo 64 = .ok (.lload 6, 2) := by decide +kernel
theorem dX2_countStepsTo_66 : decode cX2_countStepsTo 66 = .ok (.land, 1) := by decide +kernel
theorem dX2_countStepsTo_67 : decode cX2_countStepsTo 67 = .ok (.lconst 0, 1) := by decide +kernel
theorem dX2_countStepsTo_68 : decode cX2_countStepsTo 68 = .ok (.lcmp, 1) := by decide +kernel
theorem dX2_countStepsTo_69 : decode cX2_countStepsTo 69 = .ok (.ifCond .eq 19, 3) := by decide +kernel
theorem dX2_countStepsTo_72 : decode cX2_countStepsTo 72 = .ok (.aload_n 0, 1) := by decide +kernel
theorem dX2_countStepsTo_73 : decode cX2_countStepsTo 73 = .ok (.getfield 15, 3) := by decide +kernel
theorem dX2_countStepsTo_76 : decode cX2_countStepsTo 76 = .ok (.iload 8, 2) := by decide +kernel
theorem dX2_countStepsTo_78 : decode cX2_countStepsTo 78 = .ok (.iload 5, 2) := by decide +kernel
theorem dX2_countStepsTo_80 : decode cX2_countStepsTo 80 = .ok (.iastore, 1) := by decide +kernel
theorem dX2_countStepsTo_81 : decode cX2_countStepsTo 81 = .ok (.lload_n 3, 1) := by decide +kernel
theorem dX2_countStepsTo_82 : decode cX2_countStepsTo 82 = .ok (.lconst 1, 1) := by decide +kernel
theorem dX2_countStepsTo_83 : decode cX2_countStepsTo 83 = .ok (.iload 8, 2) := by decide +kernel
theorem dX2_countStepsTo_85 : decode cX2_countStepsTo 85 = .ok (.lshl, 1) := by decide +kernel
theorem dX2_countStepsTo_86 : decode cX2_countStepsTo 86 = .ok (.lor, 1) := by decide +kernel
theorem dX2_countStepsTo_87 : decode cX2_countStepsTo 87 = .ok (.lstore_n 3, 1) := by decide +kernel
theorem dX2_countStepsTo_88 : decode cX2_countStepsTo 88 = .ok (.iinc 8 1, 3) := by decide +kernel
theorem dX2_countStepsTo_91 : decode cX2_countStepsTo 91 = .ok (.goto (-54), 3) := by decide +kernel
theorem dX2_countStepsTo_94 : decode cX2_countStepsTo 94 = .ok (.iinc 5 1, 3) := by decide +kernel
theorem dX2_countStepsTo_97 : decode cX2_countStepsTo 97 = .ok (.goto (-75), 3) := by decide +kernel
theorem dX2_countStepsTo_100 : decode cX2_countStepsTo 100 = .ok (.return_, 1) := by decide +kernel
theorem dX2_nearestBelow_0 : decode cX2_nearestBelow 0 = .ok (.iconst (-1), 1) := by decide +kernel
theorem dX2_nearestBelow_1 : decode cX2_nearestBelow 1 = .ok (.istore_n 3, 1) := by decide +kernel
theorem dX2_nearestBelow_2 : decode cX2_nearestBelow 2 = .ok (.iconst 0, 1) := by decide +kernel
theorem dX2_nearestBelow_3 : decode cX2_nearestBelow 3 = .ok (.istore 4, 2) := by decide +kernel
theorem dX2_nearestBelow_5 : decode cX2_nearestBelow 5 = .ok (.iload 4, 2) := by decide +kernel
theorem dX2_nearestBelow_7 : decode cX2_nearestBelow 7 = .ok (.aload_n 1, 1) := by decide +kernel
theorem dX2_nearestBelow_8 : decode cX2_nearestBelow 8 = .ok (.getfield 30, 3) := by decide +kernel
theorem dX2_nearestBelow_11 : decode cX2_nearestBelow 11 = .ok (.if_icmp .ge 58, 3) := by decide +kernel
theorem dX2_nearestBelow_14 : decode cX2_nearestBelow 14 = .ok (.aload_n 1, 1) := by decide +kernel
theorem dX2_nearestBelow_15 : decode cX2_nearestBelow 15 = .ok (.getfield 39, 3) := by decide +kernel
theorem dX2_nearestBelow_18 : decode cX2_nearestBelow 18 = .ok (.iload_n 2, 1) := by decide +kernel
theorem dX2_nearestBelow_19 : decode cX2_nearestBelow 19 = .ok (.laload, 1) := by decide +kernel
theorem dX2_nearestBelow_20 : decode cX2_nearestBelow 20 = .ok (.iload 4, 2) := by decide +kernel
theorem dX2_nearestBelow_22 : decode cX2_nearestBelow 22 = .ok (.invokestatic 35, 3) := by decide +kernel
theorem dX2_nearestBelow_25 : decode cX2_nearestBelow 25 = .ok (.ifCond .eq 38, 3) := by decide +kernel
theorem dX2_nearestBelow_28 : decode cX2_nearestBelow 28 = .ok (.aload_n 0, 1) := by decide +kernel
theorem dX2_nearestBelow_29 : decode cX2_nearestBelow 29 = .ok (.getfield 15, 3) := by decide +kernel
theorem dX2_nearestBelow_32 : decode cX2_nearestBelow 32 = .ok (.iload 4, 2) := by decide +kernel
theorem dX2_nearestBelow_34 : decode cX2_nearestBelow 34 = .ok (.iaload, 1) := by decide +kernel
theorem dX2_nearestBelow_35 : decode cX2_nearestBelow 35 = .ok (.iconst (-1), 1) := by decide +kernel
theorem dX2_nearestBelow_36 : decode cX2_nearestBelow 36 = .ok (.if_icmp .eq 27, 3) := by decide +kernel
theorem dX2_nearestBelow_39 : decode cX2_nearestBelow 39 = .ok (.iload_n 3, 1) := by decide +kernel
theorem dX2_nearestBelow_40 : decode cX2_nearestBelow 40 = .ok (.iconst (-1), 1) := by decide +kernel
theorem dX2_nearestBelow_41 : decode cX2_nearestBelow 41 = .ok (.if_icmp .eq 19, 3) := by decide +kernel
theorem dX2_nearestBelow_44 : decode cX2_nearestBelow 44 = .ok (.aload_n 0, 1) := by decide +kernel
theorem dX2_nearestBelow_45 : decode cX2_nearestBelow 45 = .ok (.getfield 15, 3) := by decide +kernel
theorem dX2_nearestBelow_48 : decode cX2_nearestBelow 48 = .ok (.iload 4, 2) := by decide +kernel
theorem dX2_nearestBelow_50 : decode cX2_nearestBelow 50 = .ok (.iaload, 1) := by decide +kernel
theorem dX2_nearestBelow_51 : decode cX2_nearestBelow 51 = .ok (.aload_n 0, 1) := by decide +kernel
theorem dX2_nearestBelow_52 : decode cX2_nearestBelow 52 = .ok (.getfield 15, 3) := by decide +kernel
theorem dX2_nearestBelow_55 : decode cX2_nearestBelow 55 = .ok (.iload_n 3, 1) := by decide +kernel
theorem dX2_nearestBelow_56 : decode cX2_nearestBelow 56 = .ok (.iaload, 1) := by decide +kernel
theorem dX2_nearestBelow_57 : decode cX2_nearestBelow 57 = .ok (.if_icmp .ge 6, 3) := by decide +kernel
theorem dX2_nearestBelow_60 : decode cX2_nearestBelow 60 = .ok (.iload 4, 2) := by decide +kernel
theorem dX2_nearestBelow_62 : decode cX2_nearestBelow 62 = .ok (.istore_n 3, 1) := by decide +kernel
theorem dX2_nearestBelow_63 : decode cX2_nearestBelow 63 = .ok (.iinc 4 1, 3) := by decide +kernel
theorem dX2_nearestBelow_66 : decode cX2_nearestBelow 66 = .ok (.goto (-61), 3) := by decide +kernel
theorem dX2_nearestBelow_69 : decode cX2_nearestBelow 69 = .ok (.iload_n 3, 1) := by decide +kernel
theorem dX2_nearestBelow_70 : decode cX2_nearestBelow 70 = .ok (.ireturn, 1) := by decide +kernel
theorem dX3_init_0 : decode cX3_init 0 = .ok (.aload_n 0, 1) := by decide +kernel
theorem dX3_init_1 : decode cX3_init 1 = .ok (.invokespecial 3, 3) := by decide +kernel
theorem dX3_init_4 : decode cX3_init 4 = .ok (.aload_n 0, 1) := by decide +kernel
theorem dX3_init_5 : decode cX3_init 5 = .ok (.new 9, 3) := by decide +kernel
theorem dX3_init_8 : decode cX3_init 8 = .ok (.dup, 1) := by decide +kernel
theorem dX3_init_9 : decode cX3_init 9 = .ok (.invokespecial 11, 3) := by decide +kernel
theorem dX3_init_12 : decode cX3_init 12 = .ok (.putfield 12, 3) := by decide +kernel
theorem dX3_init_15 : decode cX3_init 15 = .ok (.aload_n 0, 1) := by decide +kernel
theorem dX3_init_16 : decode cX3_init 16 = .ok (.new 16, 3) := by decide +kernel
theorem dX3_init_19 : decode cX3_init 19 = .ok (.dup, 1) := by decide +kernel
theorem dX3_init_20 : decode cX3_init 20 = .ok (.invokespecial 18, 3) := by decide +kernel
theorem dX3_init_23 : decode cX3_init 23 = .ok (.putfield 19, 3) := by decide +kernel
theorem dX3_init_26 : decode cX3_init 26 = .ok (.aload_n 0, 1) := by decide +kernel
theorem dX3_init_27 : decode cX3_init 27 = .ok (.new 23, 3) := by decide +kernel
theorem dX3_init_30 : decode cX3_init 30 = .ok (.dup, 1) := by decide +kernel
theorem dX3_init_31 : decode cX3_init 31 = .ok (.invokespecial 25, 3) := by decide +kernel
theorem dX3_init_34 : decode cX3_init 34 = .ok (.putfield 26, 3) := by decide +kernel
theorem dX3_init_37 : decode cX3_init 37 = .ok (.aload_n 0, 1) := by decide +kernel
theorem dX3_init_38 : decode cX3_init 38 = .ok (.new 23, 3) := by decide +kernel
theorem dX3_init_41 : decode cX3_init 41 = .ok (.dup, 1) := by decide +kernel
theorem dX3_init_42 : decode cX3_init 42 = .ok (.invokespecial 25, 3) := by decide +kernel
theorem dX3_init_45 : decode cX3_init 45 = .ok (.putfield 30, 3) := by decide +kernel
theorem dX3_init_48 : decode cX3_init 48 = .ok (.aload_n 0, 1) := by decide +kernel
theorem dX3_init_49 : decode cX3_init 49 = .ok (.iconst 0, 1) := by decide +kernel
theorem dX3_init_50 : decode cX3_init 50 = .ok (.putfield 33, 3) := by decide +kernel
theorem dX3_init_53 : decode cX3_init 53 = .ok (.aload_n 0, 1) := by decide +kernel
theorem dX3_init_54 : decode cX3_init 54 = .ok (.iconst 0, 1) := by decide +kernel
theorem dX3_init_55 : decode cX3_init 55 = .ok (.putfield 37, 3) := by decide +kernel
theorem dX3_init_58 : decode cX3_init 58 = .ok (.aload_n 0, 1) := by decide +kernel
theorem dX3_init_59 : decode cX3_init 59 = .ok (.iconst 0, 1) := by decide +kernel
theorem dX3_init_60 : decode cX3_init 60 = .ok (.putfield 41, 3) := by decide +kernel
theorem dX3_init_63 : decode cX3_init 63 = .ok (.return_, 1) := by decide +kernel
theorem dX3_pin_0 : decode cX3_pin 0 = .ok (.iload_n 1, 1) := by decide +kernel
theorem dX3_pin_1 : decode cX3_pin 1 = .ok (.invokestatic 44, 3) := by decide +kernel
theorem dX3_pin_4 : decode cX3_pin 4 = .ok (.ifCond .ne 13, 3) := by decide +kernel
theorem dX3_pin_7 : decode cX3_pin 7 = .ok (.new 48, 3) := by decide +kernel
theorem dX3_pin_10 : decode cX3_pin 10 = .ok (.dup, 1) := by decide +kernel
theorem dX3_pin_11 : decode cX3_pin 11 = .ok (.ldc 50, 2) := by decide +kernel
theorem dX3_pin_13 : decode cX3_pin 13 = .ok (.invokespecial 52, 3) := by decide +kernel
theorem dX3_pin_16 : decode cX3_pin 16 = .ok (.athrow, 1) := by decide +kernel
theorem dX3_pin_17 : decode cX3_pin 17 = .ok (.iload_n 3, 1) := by decide +kernel
theorem dX3_pin_18 : decode cX3_pin 18 = .ok (.ifCond .eq 20, 3) := by decide +kernel
theorem dX3_pin_21 : decode cX3_pin 21 = .ok (.iload_n 3, 1) := by decide +kernel
theorem dX3_pin_22 : decode cX3_pin 22 = .ok (.invokestatic 55, 3) := by decide +kernel
theorem dX3_pin_25 : decode cX3_pin 25 = .ok (.ifCond .ne 13, 3) := by decide +kernel
theorem dX3_pin_28 : decode cX3_pin 28 = .ok (.new 58, 3) := by decide +kernel
theorem dX3_pin_31 : decode cX3_pin 31 = .ok (.dup, 1) := by decide +kernel
theorem dX3_pin_32 : decode cX3_pin 32 = .ok (.ldc 60, 2) := by decide +kernel
theorem dX3_pin_34 : decode cX3_pin 34 = .ok (.invokespecial 62, 3) := by decide +kernel
theorem dX3_pin_37 : decode cX3_pin 37 = .ok (.athrow, 1) := by decide +kernel
theorem dX3_pin_38 : decode cX3_pin 38 = .ok (.aload_n 0, 1) := by decide +kernel
theorem dX3_pin_39 : decode cX3_pin 39 = .ok (.getfield 26, 3) := by decide +kernel
theorem dX3_pin_42 : decode cX3_pin 42 = .ok (.invokevirtual 63, 3) := by decide +kernel
theorem dX3_pin_45 : decode cX3_pin 45 = .ok (.aload_n 0, 1) := by decide +kernel
theorem dX3_pin_46 : decode cX3_pin 46 = .ok (.iconst 0, 1) := by decide +kernel
theorem dX3_pin_47 : decode cX3_pin 47 = .ok (.putfield 33, 3) := by decide +kernel
theorem dX3_pin_50 : decode cX3_pin 50 = .ok (.aload_n 0, 1) := by decide +kernel
theorem dX3_pin_51 : decode cX3_pin 51 = .ok (.getfield 12, 3) := by decide +kernel
theorem dX3_pin_54 : decode cX3_pin 54 = .ok (.iload_n 1, 1) := by decide +kernel
theorem dX3_pin_55 : decode cX3_pin 55 = .ok (.iload_n 2, 1) := by decide +kernel
theorem dX3_pin_56 : decode cX3_pin 56 = .ok (.iload_n 3, 1) := by decide +kernel
theorem dX3_pin_57 : decode cX3_pin 57 = .ok (.invokevirtual 66, 3) := by decide +kernel
theorem dX3_pin_60 : decode cX3_pin 60 = .ok (.ireturn, 1) := by decide +kernel
theorem dX3_lay_0 : decode cX3_lay 0 = .ok (.aload_n 0, 1) := by decide +kernel
theorem dX3_lay_1 : decode cX3_lay 1 = .ok (.getfield 12, 3) := by decide +kernel
theorem dX3_lay_4 : decode cX3_lay 4 = .ok (.invokevirtual 70, 3) := by decide +kernel
theorem dX3_lay_7 : decode cX3_lay 7 = .ok (.ifCond .eq 13, 3) := by decide +kernel
theorem dX3_lay_10 : decode cX3_lay 10 = .ok (.new 58, 3) := by decide +kernel
theorem dX3_lay_13 : decode cX3_lay 13 = .ok (.dup, 1) := by decide +kernel
theorem dX3_lay_14 : decode cX3_lay 14 = .ok (.ldc 74, 2) := by decide +kernel
theorem dX3_lay_16 : decode cX3_lay 16 = .ok (.invokespecial 62, 3) := by decide +kernel
theorem dX3_lay_19 : decode cX3_lay 19 = .ok (.athrow, 1) := by decide +kernel
theorem dX3_lay_20 : decode cX3_lay 20 = .ok (.aload_n 0, 1) := by decide +kernel
theorem dX3_lay_21 : decode cX3_lay 21 = .ok (.iload_n 1, 1) := by decide +kernel
theorem dX3_lay_22 : decode cX3_lay 22 = .ok (.invokevirtual 76, 3) := by decide +kernel
theorem dX3_lay_25 : decode cX3_lay 25 = .ok (.ifCond .eq 17, 3) := by decide +kernel
theorem dX3_lay_28 : decode cX3_lay 28 = .ok (.aload_n 0, 1) := by decide +kernel
theorem dX3_lay_29 : decode cX3_lay 29 = .ok (.invokevirtual 80, 3) := by decide +kernel
theorem dX3_lay_32 : decode cX3_lay 32 = .ok (.new 83, 3) := by decide +kernel
theorem dX3_lay_35 : decode cX3_lay 35 = .ok (.dup, 1) := by decide +kernel
theorem dX3_lay_36 : decode cX3_lay 36 = .ok (.ldc 85, 2) := by decide +kernel
theorem dX3_lay_38 : decode cX3_lay 38 = .ok (.invokespecial 87, 3) := by decide +kernel
theorem dX3_lay_41 : decode cX3_lay 41 = .ok (.athrow, 1) := by decide +kernel
theorem dX3_lay_42 : decode cX3_lay 42 = .ok (.aload_n 0, 1) := by decide +kernel
theorem dX3_lay_43 : decode cX3_lay 43 = .ok (.invokevirtual 88, 3) := by decide +kernel
theorem dX3_lay_46 : decode cX3_lay 46 = .ok (.aload_n 0, 1) := by decide +kernel
theorem dX3_lay_47 : decode cX3_lay 47 = .ok (.getfield 26, 3) := by decide +kernel
theorem dX3_lay_50 : decode cX3_lay 50 = .ok (.getfield 91, 3) := by decide +kernel
theorem dX3_lay_53 : decode cX3_lay 53 = .ok (.ireturn, 1) := by decide +kernel
theorem dX3_layAny_0 : decode cX3_layAny 0 = .ok (.aload_n 0, 1) := by decide +kernel
theorem dX3_layAny_1 : decode cX3_layAny 1 = .ok (.getfield 12, 3) := by decide +kernel
theorem dX3_layAny_4 : decode cX3_layAny 4 = .ok (.invokevirtual 70, 3) := by decide +kernel
theorem dX3_layAny_7 : decode cX3_layAny 7 = .ok (.ifCond .eq 13, 3) := by decide +kernel
theorem dX3_layAny_10 : decode cX3_layAny 10 = .ok (.new 58, 3) := by decide +kernel
theorem dX3_layAny_13 : decode cX3_layAny 13 = .ok (.dup, 1) := by decide +kernel
theorem dX3_layAny_14 : decode cX3_layAny 14 = .ok (.ldc 74, 2) := by decide +kernel
theorem dX3_layAny_16 : decode cX3_layAny 16 = .ok (.invokespecial 62, 3) := by decide +kernel
theorem dX3_layAny_19 : decode cX3_layAny 19 = .ok (.athrow, 1) := by decide +kernel
theorem dX3_layAny_20 : decode cX3_layAny 20 = .ok (.aload_n 0, 1) := by decide +kernel
theorem dX3_layAny_21 : decode cX3_layAny 21 = .ok (.iconst 0, 1) := by decide +kernel
theorem dX3_layAny_22 : decode cX3_layAny 22 = .ok (.invokevirtual 76, 3) := by decide +kernel
theorem dX3_layAny_25 : decode cX3_layAny 25 = .ok (.istore_n 1, 1) := by decide +kernel
theorem dX3_layAny_26 : decode cX3_layAny 26 = .ok (.iload_n 1, 1) := by decide +kernel
theorem dX3_layAny_27 : decode cX3_layAny 27 = .ok (.ifCond .eq 25, 3) := by decide +kernel
theorem dX3_layAny_30 : decode cX3_layAny 30 = .ok (.aload_n 0, 1) := by decide +kernel
theorem dX3_layAny_31 : decode cX3_layAny 31 = .ok (.iconst 1, 1) := by decide +kernel
theorem dX3_layAny_32 : decode cX3_layAny 32 = .ok (.invokevirtual 76, 3) := by decide +kernel
theorem dX3_layAny_35 : decode cX3_layAny 35 = .ok (.ifCond .eq 17, 3) := by decide +kernel
theorem dX3_layAny_38 : decode cX3_layAny 38 = .ok (.aload_n 0, 1) := by decide +kernel
theorem dX3_layAny_39 : decode cX3_layAny 39 = .ok (.invokevirtual 80, 3) := by decide +kernel
theorem dX3_layAny_42 : decode cX3_layAny 42 = .ok (.new 83, 3) := by decide +kernel
theorem dX3_layAny_45 : decode cX3_layAny 45 = .ok (.dup, 1) := by decide +kernel
theorem dX3_layAny_46 : decode cX3_layAny 46 = .ok (.ldc 94, 2) := by decide +kernel
theorem dX3_layAny_48 : decode cX3_layAny 48 = .ok (.invokespecial 87, 3) := by decide +kernel
theorem dX3_layAny_51 : decode cX3_layAny 51 = .ok (.athrow, 1) := by decide +kernel
theorem dX3_layAny_52 : decode cX3_layAny 52 = .ok (.aload_n 0, 1) := by decide +kernel
theorem dX3_layAny_53 : decode cX3_layAny 53 = .ok (.invokevirtual 88, 3) := by decide +kernel
theorem dX3_layAny_56 : decode cX3_layAny 56 = .ok (.iload_n 1, 1) := by decide +kernel
theorem dX3_layAny_57 : decode cX3_layAny 57 = .ok (.ifCond .eq 17, 3) := by decide +kernel
theorem dX3_layAny_60 : decode cX3_layAny 60 = .ok (.sipush 1000, 3) := by decide +kernel
theorem dX3_layAny_63 : decode cX3_layAny 63 = .ok (.aload_n 0, 1) := by decide +kernel
theorem dX3_layAny_64 : decode cX3_layAny 64 = .ok (.getfield 26, 3) := by decide +kernel
theorem dX3_layAny_67 : decode cX3_layAny 67 = .ok (.getfield 91, 3) := by decide +kernel
theorem dX3_layAny_70 : decode cX3_layAny 70 = .ok (.iadd, 1) := by decide +kernel
theorem dX3_layAny_71 : decode cX3_layAny 71 = .ok (.goto 10, 3) := by decide +kernel
theorem dX3_layAny_74 : decode cX3_layAny 74 = .ok (.aload_n 0, 1) := by decide +kernel
theorem dX3_layAny_75 : decode cX3_layAny 75 = .ok (.getfield 26, 3) := by decide +kernel
theorem dX3_layAny_78 : decode cX3_layAny 78 = .ok (.getfield 91, 3) := by decide +kernel
theorem dX3_layAny_81 : decode cX3_layAny 81 = .ok (.ireturn, 1) := by decide +kernel
theorem dX3_ring_0 : decode cX3_ring 0 = .ok (.aload_n 0, 1) := by decide +kernel
theorem dX3_ring_1 : decode cX3_ring 1 = .ok (.getfield 19, 3) := by decide +kernel
theorem dX3_ring_4 : decode cX3_ring 4 = .ok (.iload_n 1, 1) := by decide +kernel
theorem dX3_ring_5 : decode cX3_ring 5 = .ok (.invokevirtual 96, 3) := by decide +kernel
theorem dX3_ring_8 : decode cX3_ring 8 = .ok (.ireturn, 1) := by decide +kernel
theorem dX3_segment_0 : decode cX3_segment 0 = .ok (.iload_n 1, 1) := by decide +kernel
theorem dX3_segment_1 : decode cX3_segment 1 = .ok (.ifCond .lt 14, 3) := by decide +kernel
theorem dX3_segment_4 : decode cX3_segment 4 = .ok (.iload_n 1, 1) := by decide +kernel
theorem dX3_segment_5 : decode cX3_segment 5 = .ok (.aload_n 0, 1) := by decide +kernel
theorem dX3_segment_6 : decode cX3_segment 6 = .ok (.getfield 26, 3) := by decide +kernel
theorem dX3_segment_9 : decode cX3_segment 9 = .ok (.getfield 100, 3) := by decide +kernel
theorem dX3_segment_12 : decode cX3_segment 12 = .ok (.if_icmp .lt 13, 3) := by decide +kernel
theorem dX3_segment_15 : decode cX3_segment 15 = .ok (.new 48, 3) := by decide +kernel
theorem dX3_segment_18 : decode cX3_segment 18 = .ok (.dup, 1) := by decide +kernel
theorem dX3_segment_19 : decode cX3_segment 19 = .ok (.ldc 103, 2) := by decide +kernel
theorem dX3_segment_21 : decode cX3_segment 21 = .ok (.invokespecial 52, 3) := by decide +kernel
theorem dX3_segment_24 : decode cX3_segment 24 = .ok (.athrow, 1) := by decide +kernel
theorem dX3_segment_25 : decode cX3_segment 25 = .ok (.iload_n 2, 1) := by decide +kernel
theorem dX3_segment_26 : decode cX3_segment 26 = .ok (.tableswitch 70 0 3 #[30, 40, 50, 60], 30) := by decide +kernel
theorem dX3_segment_56 : decode cX3_segment 56 = .ok (.aload_n 0, 1) := by decide +kernel
theorem dX3_segment_57 : decode cX3_segment 57 = .ok (.getfield 26, 3) := by decide +kernel
theorem dX3_segment_60 : decode cX3_segment 60 = .ok (.getfield 105, 3) := by decide +kernel
theorem dX3_segment_63 : decode cX3_segment 63 = .ok (.iload_n 1, 1) := by decide +kernel
theorem dX3_segment_64 : decode cX3_segment 64 = .ok (.iaload, 1) := by decide +kernel
theorem dX3_segment_65 : decode cX3_segment 65 = .ok (.ireturn, 1) := by decide +kernel
theorem dX3_segment_66 : decode cX3_segment 66 = .ok (.aload_n 0, 1) := by decide +kernel
theorem dX3_segment_67 : decode cX3_segment 67 = .ok (.getfield 26, 3) := by decide +kernel
theorem dX3_segment_70 : decode cX3_segment 70 = .ok (.getfield 109, 3) := by decide +kernel
theorem dX3_segment_73 : decode cX3_segment 73 = .ok (.iload_n 1, 1) := by decide +kernel
theorem dX3_segment_74 : decode cX3_segment 74 = .ok (.iaload, 1) := by decide +kernel
theorem dX3_segment_75 : decode cX3_segment 75 = .ok (.ireturn, 1) := by decide +kernel
theorem dX3_segment_76 : decode cX3_segment 76 = .ok (.aload_n 0, 1) := by decide +kernel
theorem dX3_segment_77 : decode cX3_segment 77 = .ok (.getfield 26, 3) := by decide +kernel
theorem dX3_segment_80 : decode cX3_segment 80 = .ok (.getfield 112, 3) := by decide +kernel
theorem dX3_segment_83 : decode cX3_segment 83 = .ok (.iload_n 1, 1) := by decide +kernel
theorem dX3_segment_84 : decode cX3_segment 84 = .ok (.iaload, 1) := by decide +kernel
theorem dX3_segment_85 : decode cX3_segment 85 = .ok (.ireturn, 1) := by decide +kernel
theorem dX3_segment_86 : decode cX3_segment 86 = .ok (.aload_n 0, 1) := by decide +kernel
theorem dX3_segment_87 : decode cX3_segment 87 = .ok (.getfield 26, 3) := by decide +kernel
theorem dX3_segment_90 : decode cX3_segment 90 = .ok (.getfield 115, 3) := by decide +kernel
theorem dX3_segment_93 : decode cX3_segment 93 = .ok (.iload_n 1, 1) := by decide +kernel
theorem dX3_segment_94 : decode cX3_segment 94 = .ok (.iaload, 1) := by decide +kernel
theorem dX3_segment_95 : decode cX3_segment 95 = .ok (.ireturn, 1) := by decide +kernel
theorem dX3_segment_96 : decode cX3_segment 96 = .ok (.new 48, 3) := by decide +kernel
theorem dX3_segment_99 : decode cX3_segment 99 = .ok (.dup, 1) := by decide +kernel
theorem dX3_segment_100 : decode cX3_segment 100 = .ok (.ldc 118, 2) := by decide +kernel
theorem dX3_segment_102 : decode cX3_segment 102 = .ok (.invokespecial 52, 3) := by decide +kernel
theorem dX3_segment_105 : decode cX3_segment 105 = .ok (.athrow, 1) := by decide +kernel
theorem dX3_level_0 : decode cX3_level 0 = .ok (.aload_n 0, 1) := by decide +kernel
theorem dX3_level_1 : decode cX3_level 1 = .ok (.iload_n 1, 1) := by decide +kernel
theorem dX3_level_2 : decode cX3_level 2 = .ok (.invokevirtual 120, 3) := by decide +kernel
theorem dX3_level_5 : decode cX3_level 5 = .ok (.ifCond .eq 10, 3) := by decide +kernel
theorem dX3_level_8 : decode cX3_level 8 = .ok (.iload_n 2, 1) := by decide +kernel
theorem dX3_level_9 : decode cX3_level 9 = .ok (.invokestatic 44, 3) := by decide +kernel
theorem dX3_level_12 : decode cX3_level 12 = .ok (.ifCond .ne 13, 3) := by decide +kernel
theorem dX3_level_15 : decode cX3_level 15 = .ok (.new 48, 3) := by decide +kernel
theorem dX3_level_18 : decode cX3_level 18 = .ok (.dup, 1) := by decide +kernel
theorem dX3_level_19 : decode cX3_level 19 = .ok (.ldc 123, 2) := by decide +kernel
theorem dX3_level_21 : decode cX3_level 21 = .ok (.invokespecial 52, 3) := by decide +kernel
theorem dX3_level_24 : decode cX3_level 24 = .ok (.athrow, 1) := by decide +kernel
theorem dX3_level_25 : decode cX3_level 25 = .ok (.aload_n 0, 1) := by decide +kernel
theorem dX3_level_26 : decode cX3_level 26 = .ok (.getfield 26, 3) := by decide +kernel
theorem dX3_level_29 : decode cX3_level 29 = .ok (.iload_n 1, 1) := by decide +kernel
theorem dX3_level_30 : decode cX3_level 30 = .ok (.iload_n 2, 1) := by decide +kernel
theorem dX3_level_31 : decode cX3_level 31 = .ok (.invokevirtual 125, 3) := by decide +kernel
theorem dX3_level_34 : decode cX3_level 34 = .ok (.ireturn, 1) := by decide +kernel
theorem dX3_upright_0 : decode cX3_upright 0 = .ok (.aload_n 0, 1) := by decide +kernel
theorem dX3_upright_1 : decode cX3_upright 1 = .ok (.getfield 33, 3) := by decide +kernel
theorem dX3_upright_4 : decode cX3_upright 4 = .ok (.ifCond .eq 26, 3) := by decide +kernel
theorem dX3_upright_7 : decode cX3_upright 7 = .ok (.iload_n 1, 1) := by decide +kernel
theorem dX3_upright_8 : decode cX3_upright 8 = .ok (.invokestatic 44, 3) := by decide +kernel
theorem dX3_upright_11 : decode cX3_upright 11 = .ok (.ifCond .eq 19, 3) := by decide +kernel
theorem dX3_upright_14 : decode cX3_upright 14 = .ok (.iload_n 2, 1) := by decide +kernel
theorem dX3_upright_15 : decode cX3_upright 15 = .ok (.iconst (-1), 1) := by decide +kernel
theorem dX3_upright_16 : decode cX3_upright 16 = .ok (.if_icmp .lt 14, 3) := by decide +kernel
theorem dX3_upright_19 : decode cX3_upright 19 = .ok (.iload_n 2, 1) := by decide +kernel
theorem dX3_upright_20 : decode cX3_upright 20 = .ok (.aload_n 0, 1) := by decide +kernel
theorem dX3_upright_21 : decode cX3_upright 21 = .ok (.getfield 26, 3) := by decide +kernel
theorem dX3_upright_24 : decode cX3_upright 24 = .ok (.getfield 91, 3) := by decide +kernel
theorem dX3_upright_27 : decode cX3_upright 27 = .ok (.if_icmp .le 13, 3) := by decide +kernel
theorem dX3_upright_30 : decode cX3_upright 30 = .ok (.new 48, 3) := by decide +kernel
theorem dX3_upright_33 : decode cX3_upright 33 = .ok (.dup, 1) := by decide +kernel
theorem dX3_upright_34 : decode cX3_upright 34 = .ok (.ldc 129, 2) := by decide +kernel
theorem dX3_upright_36 : decode cX3_upright 36 = .ok (.invokespecial 52, 3) := by decide +kernel
theorem dX3_upright_39 : decode cX3_upright 39 = .ok (.athrow, 1) := by decide +kernel
theorem dX3_upright_40 : decode cX3_upright 40 = .ok (.aload_n 0, 1) := by decide +kernel
theorem dX3_upright_41 : decode cX3_upright 41 = .ok (.iload_n 1, 1) := by decide +kernel
theorem dX3_upright_42 : decode cX3_upright 42 = .ok (.iload_n 2, 1) := by decide +kernel
theorem dX3_upright_43 : decode cX3_upright 43 = .ok (.invokevirtual 131, 3) := by decide +kernel
theorem dX3_upright_46 : decode cX3_upright 46 = .ok (.ireturn, 1) := by decide +kernel
theorem dX3_via_0 : decode cX3_via 0 = .ok (.aload_n 0, 1) := by decide +kernel
theorem dX3_via_1 : decode cX3_via 1 = .ok (.iload_n 1, 1) := by decide +kernel
theorem dX3_via_2 : decode cX3_via 2 = .ok (.invokevirtual 120, 3) := by decide +kernel
theorem dX3_via_5 : decode cX3_via 5 = .ok (.ifCond .eq 10, 3) := by decide +kernel
theorem dX3_via_8 : decode cX3_via 8 = .ok (.iload_n 2, 1) := by decide +kernel
theorem dX3_via_9 : decode cX3_via 9 = .ok (.invokestatic 44, 3) := by decide +kernel
theorem dX3_via_12 : decode cX3_via 12 = .ok (.ifCond .ne 13, 3) := by decide +kernel
theorem dX3_via_15 : decode cX3_via 15 = .ok (.new 48, 3) := by decide +kernel
theorem dX3_via_18 : decode cX3_via 18 = .ok (.dup, 1) := by decide +kernel
theorem dX3_via_19 : decode cX3_via 19 = .ok (.ldc 123, 2) := by decide +kernel
theorem dX3_via_21 : decode cX3_via 21 = .ok (.invokespecial 52, 3) := by decide +kernel
theorem dX3_via_24 : decode cX3_via 24 = .ok (.athrow, 1) := by decide +kernel
theorem dX3_via_25 : decode cX3_via 25 = .ok (.aload_n 0, 1) := by decide +kernel
theorem dX3_via_26 : decode cX3_via 26 = .ok (.iload_n 1, 1) := by decide +kernel
theorem dX3_via_27 : decode cX3_via 27 = .ok (.iload_n 2, 1) := by decide +kernel
theorem dX3_via_28 : decode cX3_via 28 = .ok (.invokevirtual 134, 3) := by decide +kernel
theorem dX3_via_31 : decode cX3_via 31 = .ok (.ireturn, 1) := by decide +kernel
theorem dX3_density_0 : decode cX3_density 0 = .ok (.iconst 0, 1) := by decide +kernel
theorem dX3_density_1 : decode cX3_density 1 = .ok (.istore_n 1, 1) := by decide +kernel
theorem dX3_density_2 : decode cX3_density 2 = .ok (.iconst 0, 1) := by decide +kernel
theorem dX3_density_3 : decode cX3_density 3 = .ok (.istore_n 2, 1) := by decide +kernel
theorem dX3_density_4 : decode cX3_density 4 = .ok (.iload_n 2, 1) := by decide +kernel
theorem dX3_density_5 : decode cX3_density 5 = .ok (.bipush 20, 2) := by decide +kernel
theorem dX3_density_7 : decode cX3_density 7 = .ok (.if_icmp .ge 22, 3) := by decide +kernel
theorem dX3_density_10 : decode cX3_density 10 = .ok (.iload_n 1, 1) := by decide +kernel
theorem dX3_density_11 : decode cX3_density 11 = .ok (.aload_n 0, 1) := by decide +kernel
theorem dX3_density_12 : decode cX3_density 12 = .ok (.getfield 12, 3) := by decide +kernel
theorem dX3_density_15 : decode cX3_density 15 = .ok (.iload_n 2, 1) := by decide +kernel
theorem dX3_density_16 : decode cX3_density 16 = .ok (.invokevirtual 138, 3) := by decide +kernel
theorem dX3_density_19 : decode cX3_density 19 = .ok (.invokestatic 141, 3) := by decide +kernel
theorem dX3_density_22 : decode cX3_density 22 = .ok (.istore_n 1, 1) := by decide +kernel
theorem dX3_density_23 : decode cX3_density 23 = .ok (.iinc 2 1, 3) := by decide +kernel
theorem dX3_density_26 : decode cX3_density 26 = .ok (.goto (-22), 3) := by decide +kernel
theorem dX3_density_29 : decode cX3_density 29 = .ok (.iload_n 1, 1) := by decide +kernel
theorem dX3_density_30 : decode cX3_density 30 = .ok (.ireturn, 1) := by decide +kernel
theorem dX3_pairs_0 : decode cX3_pairs 0 = .ok (.aload_n 0, 1) := by decide +kernel
theorem dX3_pairs_1 : decode cX3_pairs 1 = .ok (.getfield 30, 3) := by decide +kernel
theorem dX3_pairs_4 : decode cX3_pairs 4 = .ok (.aload_n 0, 1) := by decide +kernel
theorem dX3_pairs_5 : decode cX3_pairs 5 = .ok (.getfield 12, 3) := by decide +kernel
theorem dX3_pairs_8 : decode cX3_pairs 8 = .ok (.iload_n 1, 1) := by decide +kernel
theorem dX3_pairs_9 : decode cX3_pairs 9 = .ok (.invokevirtual 146, 3) := by decide +kernel
theorem dX3_pairs_12 : decode cX3_pairs 12 = .ok (.aload_n 0, 1) := by decide +kernel
theorem dX3_pairs_13 : decode cX3_pairs 13 = .ok (.getfield 30, 3) := by decide +kernel
theorem dX3_pairs_16 : decode cX3_pairs 16 = .ok (.invokevirtual 150, 3) := by decide +kernel
theorem dX3_pairs_19 : decode cX3_pairs 19 = .ok (.ireturn, 1) := by decide +kernel
theorem dX3_net_0 : decode cX3_net 0 = .ok (.iload_n 1, 1) := by decide +kernel
theorem dX3_net_1 : decode cX3_net 1 = .ok (.invokestatic 55, 3) := by decide +kernel
theorem dX3_net_4 : decode cX3_net 4 = .ok (.ifCond .ne 13, 3) := by decide +kernel
theorem dX3_net_7 : decode cX3_net 7 = .ok (.new 48, 3) := by decide +kernel
theorem dX3_net_10 : decode cX3_net 10 = .ok (.dup, 1) := by decide +kernel
theorem dX3_net_11 : decode cX3_net 11 = .ok (.ldc 60, 2) := by decide +kernel
theorem dX3_net_13 : decode cX3_net 13 = .ok (.invokespecial 52, 3) := by decide +kernel
theorem dX3_net_16 : decode cX3_net 16 = .ok (.athrow, 1) := by decide +kernel
theorem dX3_net_17 : decode cX3_net 17 = .ok (.iload_n 2, 1) := by decide +kernel
theorem dX3_net_18 : decode cX3_net 18 = .ok (.tableswitch 96 0 3 #[30, 54, 78, 87], 30) := by decide +kernel
theorem dX3_net_48 : decode cX3_net 48 = .ok (.aload_n 0, 1) := by decide +kernel
theorem dX3_net_49 : decode cX3_net 49 = .ok (.getfield 12, 3) := by decide +kernel
theorem dX3_net_52 : decode cX3_net 52 = .ok (.iload_n 1, 1) := by decide +kernel
theorem dX3_net_53 : decode cX3_net 53 = .ok (.invokevirtual 154, 3) := by decide +kernel
theorem dX3_net_56 : decode cX3_net 56 = .ok (.ifCond .eq 14, 3) := by decide +kernel
theorem dX3_net_59 : decode cX3_net 59 = .ok (.aload_n 0, 1) := by decide +kernel
theorem dX3_net_60 : decode cX3_net 60 = .ok (.getfield 12, 3) := by decide +kernel
theorem dX3_net_63 : decode cX3_net 63 = .ok (.iload_n 1, 1) := by decide +kernel
theorem dX3_net_64 : decode cX3_net 64 = .ok (.invokevirtual 157, 3) := by decide +kernel
theorem dX3_net_67 : decode cX3_net 67 = .ok (.goto 4, 3) := by decide +kernel
theorem dX3_net_70 : decode cX3_net 70 = .ok (.iconst (-1), 1) := by decide +kernel
theorem dX3_net_71 : decode cX3_net 71 = .ok (.ireturn, 1) := by decide +kernel
theorem dX3_net_72 : decode cX3_net 72 = .ok (.aload_n 0, 1) := by decide +kernel
theorem dX3_net_73 : decode cX3_net 73 = .ok (.getfield 12, 3) := by decide +kernel
theorem dX3_net_76 : decode cX3_net 76 = .ok (.iload_n 1, 1) := by decide +kernel
theorem dX3_net_77 : decode cX3_net 77 = .ok (.invokevirtual 154, 3) := by decide +kernel
theorem dX3_net_80 : decode cX3_net 80 = .ok (.ifCond .eq 14, 3) := by decide +kernel
theorem dX3_net_83 : decode cX3_net 83 = .ok (.aload_n 0, 1) := by decide +kernel
theorem dX3_net_84 : decode cX3_net 84 = .ok (.getfield 12, 3) := by decide +kernel
theorem dX3_net_87 : decode cX3_net 87 = .ok (.iload_n 1, 1) := by decide +kernel
theorem dX3_net_88 : decode cX3_net 88 = .ok (.invokevirtual 160, 3) := by decide +kernel
theorem dX3_net_91 : decode cX3_net 91 = .ok (.goto 4, 3) := by decide +kernel
theorem dX3_net_94 : decode cX3_net 94 = .ok (.iconst (-1), 1) := by decide +kernel
theorem dX3_net_95 : decode cX3_net 95 = .ok (.ireturn, 1) := by decide +kernel
theorem dX3_net_96 : decode cX3_net 96 = .ok (.aload_n 0, 1) := by decide +kernel
theorem dX3_net_97 : decode cX3_net 97 = .ok (.getfield 12, 3) := by decide +kernel
theorem dX3_net_100 : decode cX3_net 100 = .ok (.iload_n 1, 1) := by decide +kernel
theorem dX3_net_101 : decode cX3_net 101 = .ok (.invokevirtual 163, 3) := by decide +kernel
theorem dX3_net_104 : decode cX3_net 104 = .ok (.ireturn, 1) := by decide +kernel
theorem dX3_net_105 : decode cX3_net 105 = .ok (.aload_n 0, 1) := by decide +kernel
theorem dX3_net_106 : decode cX3_net 106 = .ok (.getfield 12, 3) := by decide +kernel
theorem dX3_net_109 : decode cX3_net 109 = .ok (.iload_n 1, 1) := by decide +kernel
theorem dX3_net_110 : decode cX3_net 110 = .ok (.invokevirtual 166, 3) := by decide +kernel
theorem dX3_net_113 : decode cX3_net 113 = .ok (.ireturn, 1) := by decide +kernel
theorem dX3_net_114 : decode cX3_net 114 = .ok (.new 48, 3) := by decide +kernel
theorem dX3_net_117 : decode cX3_net 117 = .ok (.dup, 1) := by decide +kernel
theorem dX3_net_118 : decode cX3_net 118 = .ok (.ldc 118, 2) := by decide +kernel
theorem dX3_net_120 : decode cX3_net 120 = .ok (.invokespecial 52, 3) := by decide +kernel
theorem dX3_net_123 : decode cX3_net 123 = .ok (.athrow, 1) := by decide +kernel
theorem dX3_count_0 : decode cX3_count 0 = .ok (.iload_n 1, 1) := by decide +kernel
theorem dX3_count_1 : decode cX3_count 1 = .ok (.tableswitch 83 0 5 #[39, 47, 55, 60, 65, 70], 39) := by decide +kernel
theorem dX3_count_40 : decode cX3_count 40 = .ok (.aload_n 0, 1) := by decide +kernel
theorem dX3_count_41 : decode cX3_count 41 = .ok (.getfield 26, 3) := by decide +kernel
theorem dX3_count_44 : decode cX3_count 44 = .ok (.getfield 91, 3) := by decide +kernel
theorem dX3_count_47 : decode cX3_count 47 = .ok (.ireturn, 1) := by decide +kernel
theorem dX3_count_48 : decode cX3_count 48 = .ok (.aload_n 0, 1) := by decide +kernel
theorem dX3_count_49 : decode cX3_count 49 = .ok (.getfield 26, 3) := by decide +kernel
theorem dX3_count_52 : decode cX3_count 52 = .ok (.getfield 100, 3) := by decide +kernel
theorem dX3_count_55 : decode cX3_count 55 = .ok (.ireturn, 1) := by decide +kernel
theorem dX3_count_56 : decode cX3_count 56 = .ok (.aload_n 0, 1) := by decide +kernel
theorem dX3_count_57 : decode cX3_count 57 = .ok (.invokevirtual 169, 3) := by decide +kernel
theorem dX3_count_60 : decode cX3_count 60 = .ok (.ireturn, 1) := by decide +kernel
theorem dX3_count_61 : decode cX3_count 61 = .ok (.aload_n 0, 1) := by decide +kernel
theorem dX3_count_62 : decode cX3_count 62 = .ok (.getfield 37, 3) := by decide +kernel
theorem dX3_count_65 : decode cX3_count 65 = .ok (.ireturn, 1) := by decide +kernel
theorem dX3_count_66 : decode cX3_count 66 = .ok (.aload_n 0, 1) := by decide +kernel
theorem dX3_count_67 : decode cX3_count 67 = .ok (.getfield 41, 3) := by decide +kernel
theorem dX3_count_70 : decode cX3_count 70 = .ok (.ireturn, 1) := by decide +kernel
theorem dX3_count_71 : decode cX3_count 71 = .ok (.aload_n 0, 1) := by decide +kernel
theorem dX3_count_72 : decode cX3_count 72 = .ok (.getfield 33, 3) := by decide +kernel
theorem dX3_count_75 : decode cX3_count 75 = .ok (.ifCond .eq 7, 3) := by decide +kernel
theorem dX3_count_78 : decode cX3_count 78 = .ok (.iconst 1, 1) := by decide +kernel
theorem dX3_count_79 : decode cX3_count 79 = .ok (.goto 4, 3) := by decide +kernel
theorem dX3_count_82 : decode cX3_count 82 = .ok (.iconst 0, 1) := by decide +kernel
theorem dX3_count_83 : decode cX3_count 83 = .ok (.ireturn, 1) := by decide +kernel
theorem dX3_count_84 : decode cX3_count 84 = .ok (.new 48, 3) := by decide +kernel
theorem dX3_count_87 : decode cX3_count 87 = .ok (.dup, 1) := by decide +kernel
theorem dX3_count_88 : decode cX3_count 88 = .ok (.ldc 118, 2) := by decide +kernel
theorem dX3_count_90 : decode cX3_count 90 = .ok (.invokespecial 52, 3) := by decide +kernel
theorem dX3_count_93 : decode cX3_count 93 = .ok (.athrow, 1) := by decide +kernel
theorem dX3_used_0 : decode cX3_used 0 = .ok (.aload_n 0, 1) := by decide +kernel
theorem dX3_used_1 : decode cX3_used 1 = .ok (.getfield 26, 3) := by decide +kernel
theorem dX3_used_4 : decode cX3_used 4 = .ok (.getfield 91, 3) := by decide +kernel
theorem dX3_used_7 : decode cX3_used 7 = .ok (.ifCond .ne 5, 3) := by decide +kernel
theorem dX3_used_10 : decode cX3_used 10 = .ok (.fconst 0, 1) := by decide +kernel
theorem dX3_used_11 : decode cX3_used 11 = .ok (.freturn, 1) := by decide +kernel
theorem dX3_used_12 : decode cX3_used 12 = .ok (.aload_n 0, 1) := by decide +kernel
theorem dX3_used_13 : decode cX3_used 13 = .ok (.getfield 26, 3) := by decide +kernel
theorem dX3_used_16 : decode cX3_used 16 = .ok (.invokevirtual 172, 3) := by decide +kernel
theorem dX3_used_19 : decode cX3_used 19 = .ok (.i2f, 1) := by decide +kernel
theorem dX3_used_20 : decode cX3_used 20 = .ok (.bipush 20, 2) := by decide +kernel
theorem dX3_used_22 : decode cX3_used 22 = .ok (.aload_n 0, 1) := by decide +kernel
theorem dX3_used_23 : decode cX3_used 23 = .ok (.getfield 26, 3) := by decide +kernel
theorem dX3_used_26 : decode cX3_used 26 = .ok (.getfield 91, 3) := by decide +kernel
theorem dX3_used_29 : decode cX3_used 29 = .ok (.imul, 1) := by decide +kernel
theorem dX3_used_30 : decode cX3_used 30 = .ok (.i2f, 1) := by decide +kernel
theorem dX3_used_31 : decode cX3_used 31 = .ok (.fdiv, 1) := by decide +kernel
theorem dX3_used_32 : decode cX3_used 32 = .ok (.freturn, 1) := by decide +kernel
theorem dX3_isColumn_0 : decode cX3_isColumn 0 = .ok (.iload_n 0, 1) := by decide +kernel
theorem dX3_isColumn_1 : decode cX3_isColumn 1 = .ok (.ifCond .lt 13, 3) := by decide +kernel
theorem dX3_isColumn_4 : decode cX3_isColumn 4 = .ok (.iload_n 0, 1) := by decide +kernel
theorem dX3_isColumn_5 : decode cX3_isColumn 5 = .ok (.bipush 20, 2) := by decide +kernel
theorem dX3_isColumn_7 : decode cX3_isColumn 7 = .ok (.if_icmp .ge 7, 3) := by decide +kernel
theorem dX3_isColumn_10 : decode cX3_isColumn 10 = .ok (.iconst 1, 1) := by decide +kernel
theorem dX3_isColumn_11 : decode cX3_isColumn 11 = .ok (.goto 4, 3) := by decide +kernel
theorem dX3_isColumn_14 : decode cX3_isColumn 14 = .ok (.iconst 0, 1) := by decide +kernel
theorem dX3_isColumn_15 : decode cX3_isColumn 15 = .ok (.ireturn, 1) := by decide +kernel
theorem dX3_isNet_0 : decode cX3_isNet 0 = .ok (.iload_n 0, 1) := by decide +kernel
theorem dX3_isNet_1 : decode cX3_isNet 1 = .ok (.iconst 1, 1) := by decide +kernel
theorem dX3_isNet_2 : decode cX3_isNet 2 = .ok (.if_icmp .lt 13, 3) := by decide +kernel
theorem dX3_isNet_5 : decode cX3_isNet 5 = .ok (.iload_n 0, 1) := by decide +kernel
theorem dX3_isNet_6 : decode cX3_isNet 6 = .ok (.bipush 9, 2) := by decide +kernel
theorem dX3_isNet_8 : decode cX3_isNet 8 = .ok (.if_icmp .gt 7, 3) := by decide +kernel
theorem dX3_isNet_11 : decode cX3_isNet 11 = .ok (.iconst 1, 1) := by decide +kernel
theorem dX3_isNet_12 : decode cX3_isNet 12 = .ok (.goto 4, 3) := by decide +kernel
theorem dX3_isNet_15 : decode cX3_isNet 15 = .ok (.iconst 0, 1) := by decide +kernel
theorem dX3_isNet_16 : decode cX3_isNet 16 = .ok (.ireturn, 1) := by decide +kernel
theorem dX3_isTrack_0 : decode cX3_isTrack 0 = .ok (.iload_n 1, 1) := by decide +kernel
theorem dX3_isTrack_1 : decode cX3_isTrack 1 = .ok (.ifCond .lt 18, 3) := by decide +kernel
theorem dX3_isTrack_4 : decode cX3_isTrack 4 = .ok (.iload_n 1, 1) := by decide +kernel
theorem dX3_isTrack_5 : decode cX3_isTrack 5 = .ok (.aload_n 0, 1) := by decide +kernel
theorem dX3_isTrack_6 : decode cX3_isTrack 6 = .ok (.getfield 26, 3) := by decide +kernel
theorem dX3_isTrack_9 : decode cX3_isTrack 9 = .ok (.getfield 91, 3) := by decide +kernel
theorem dX3_isTrack_12 : decode cX3_isTrack 12 = .ok (.if_icmp .ge 7, 3) := by decide +kernel
theorem dX3_isTrack_15 : decode cX3_isTrack 15 = .ok (.iconst 1, 1) := by decide +kernel
theorem dX3_isTrack_16 : decode cX3_isTrack 16 = .ok (.goto 4, 3) := by decide +kernel
theorem dX3_isTrack_19 : decode cX3_isTrack 19 = .ok (.iconst 0, 1) := by decide +kernel
theorem dX3_isTrack_20 : decode cX3_isTrack 20 = .ok (.ireturn, 1) := by decide +kernel
theorem dX3_draftHasRing_0 : decode cX3_draftHasRing 0 = .ok (.aload_n 0, 1) := by decide +kernel
theorem dX3_draftHasRing_1 : decode cX3_draftHasRing 1 = .ok (.getfield 30, 3) := by decide +kernel
theorem dX3_draftHasRing_4 : decode cX3_draftHasRing 4 = .ok (.aload_n 0, 1) := by decide +kernel
theorem dX3_draftHasRing_5 : decode cX3_draftHasRing 5 = .ok (.getfield 12, 3) := by decide +kernel
theorem dX3_draftHasRing_8 : decode cX3_draftHasRing 8 = .ok (.iload_n 1, 1) := by decide +kernel
theorem dX3_draftHasRing_9 : decode cX3_draftHasRing 9 = .ok (.invokevirtual 146, 3) := by decide +kernel
theorem dX3_draftHasRing_12 : decode cX3_draftHasRing 12 = .ok (.aload_n 0, 1) := by decide +kernel
theorem dX3_draftHasRing_13 : decode cX3_draftHasRing 13 = .ok (.getfield 19, 3) := by decide +kernel
theorem dX3_draftHasRing_16 : decode cX3_draftHasRing 16 = .ok (.aload_n 0, 1) := by decide +kernel
theorem dX3_draftHasRing_17 : decode cX3_draftHasRing 17 = .ok (.getfield 30, 3) := by decide +kernel
theorem dX3_draftHasRing_20 : decode cX3_draftHasRing 20 = .ok (.invokevirtual 175, 3) := by decide +kernel
theorem dX3_draftHasRing_23 : decode cX3_draftHasRing 23 = .ok (.iconst (-1), 1) := by decide +kernel
theorem dX3_draftHasRing_24 : decode cX3_draftHasRing 24 = .ok (.if_icmp .eq 7, 3) := by decide +kernel
theorem dX3_draftHasRing_27 : decode cX3_draftHasRing 27 = .ok (.iconst 1, 1) := by decide +kernel
theorem dX3_draftHasRing_28 : decode cX3_draftHasRing 28 = .ok (.goto 4, 3) := by decide +kernel
theorem dX3_draftHasRing_31 : decode cX3_draftHasRing 31 = .ok (.iconst 0, 1) := by decide +kernel
theorem dX3_draftHasRing_32 : decode cX3_draftHasRing 32 = .ok (.ireturn, 1) := by decide +kernel
theorem dX3_tellRingOfDraft_0 : decode cX3_tellRingOfDraft 0 = .ok (.aload_n 0, 1) := by decide +kernel
theorem dX3_tellRingOfDraft_1 : decode cX3_tellRingOfDraft 1 = .ok (.getfield 19, 3) := by decide +kernel
theorem dX3_tellRingOfDraft_4 : decode cX3_tellRingOfDraft 4 = .ok (.aload_n 0, 1) := by decide +kernel
theorem dX3_tellRingOfDraft_5 : decode cX3_tellRingOfDraft 5 = .ok (.getfield 30, 3) := by decide +kernel
theorem dX3_tellRingOfDraft_8 : decode cX3_tellRingOfDraft 8 = .ok (.invokevirtual 179, 3) := by decide +kernel
theorem dX3_tellRingOfDraft_11 : decode cX3_tellRingOfDraft 11 = .ok (.aload_n 0, 1) := by decide +kernel
theorem dX3_tellRingOfDraft_12 : decode cX3_tellRingOfDraft 12 = .ok (.dup, 1) := by decide +kernel
theorem dX3_tellRingOfDraft_13 : decode cX3_tellRingOfDraft 13 = .ok (.getfield 41, 3) := by decide +kernel
theorem dX3_tellRingOfDraft_16 : decode cX3_tellRingOfDraft 16 = .ok (.iconst 1, 1) := by decide +kernel
theorem dX3_tellRingOfDraft_17 : decode cX3_tellRingOfDraft 17 = .ok (.iadd, 1) := by decide +kernel
theorem dX3_tellRingOfDraft_18 : decode cX3_tellRingOfDraft 18 = .ok (.putfield 41, 3) := by decide +kernel
theorem dX3_tellRingOfDraft_21 : decode cX3_tellRingOfDraft 21 = .ok (.return_, 1) := by decide +kernel
theorem dX3_keepDraft_0 : decode cX3_keepDraft 0 = .ok (.aload_n 0, 1) := by decide +kernel
theorem dX3_keepDraft_1 : decode cX3_keepDraft 1 = .ok (.getfield 30, 3) := by decide +kernel
theorem dX3_keepDraft_4 : decode cX3_keepDraft 4 = .ok (.invokevirtual 183, 3) := by decide +kernel
theorem dX3_keepDraft_7 : decode cX3_keepDraft 7 = .ok (.aload_n 0, 1) := by decide +kernel
theorem dX3_keepDraft_8 : decode cX3_keepDraft 8 = .ok (.getfield 26, 3) := by decide +kernel
theorem dX3_keepDraft_11 : decode cX3_keepDraft 11 = .ok (.astore_n 1, 1) := by decide +kernel
theorem dX3_keepDraft_12 : decode cX3_keepDraft 12 = .ok (.aload_n 0, 1) := by decide +kernel
theorem dX3_keepDraft_13 : decode cX3_keepDraft 13 = .ok (.aload_n 0, 1) := by decide +kernel
theorem dX3_keepDraft_14 : decode cX3_keepDraft 14 = .ok (.getfield 30, 3) := by decide +kernel
theorem dX3_keepDraft_17 : decode cX3_keepDraft 17 = .ok (.putfield 26, 3) := by decide +kernel
theorem dX3_keepDraft_20 : decode cX3_keepDraft 20 = .ok (.aload_n 0, 1) := by decide +kernel
theorem dX3_keepDraft_21 : decode cX3_keepDraft 21 = .ok (.aload_n 1, 1) := by decide +kernel
theorem dX3_keepDraft_22 : decode cX3_keepDraft 22 = .ok (.putfield 30, 3) := by decide +kernel
theorem dX3_keepDraft_25 : decode cX3_keepDraft 25 = .ok (.aload_n 0, 1) := by decide +kernel
theorem dX3_keepDraft_26 : decode cX3_keepDraft 26 = .ok (.iconst 1, 1) := by decide +kernel
theorem dX3_keepDraft_27 : decode cX3_keepDraft 27 = .ok (.putfield 33, 3) := by decide +kernel
theorem dX3_keepDraft_30 : decode cX3_keepDraft 30 = .ok (.aload_n 0, 1) := by decide +kernel
theorem dX3_keepDraft_31 : decode cX3_keepDraft 31 = .ok (.dup, 1) := by decide +kernel
theorem dX3_keepDraft_32 : decode cX3_keepDraft 32 = .ok (.getfield 37, 3) := by decide +kernel
theorem dX3_keepDraft_35 : decode cX3_keepDraft 35 = .ok (.iconst 1, 1) := by decide +kernel
theorem dX3_keepDraft_36 : decode cX3_keepDraft 36 = .ok (.iadd, 1) := by decide +kernel
theorem dX3_keepDraft_37 : decode cX3_keepDraft 37 = .ok (.putfield 37, 3) := by decide +kernel
theorem dX3_keepDraft_40 : decode cX3_keepDraft 40 = .ok (.return_, 1) := by decide +kernel
theorem dX3_uprightNet_0 : decode cX3_uprightNet 0 = .ok (.aload_n 0, 1) := by decide +kernel
theorem dX3_uprightNet_1 : decode cX3_uprightNet 1 = .ok (.getfield 12, 3) := by decide +kernel
theorem dX3_uprightNet_4 : decode cX3_uprightNet 4 = .ok (.getfield 186, 3) := by decide +kernel
theorem dX3_uprightNet_7 : decode cX3_uprightNet 7 = .ok (.iload_n 1, 1) := by decide +kernel
theorem dX3_uprightNet_8 : decode cX3_uprightNet 8 = .ok (.iaload, 1) := by decide +kernel
theorem dX3_uprightNet_9 : decode cX3_uprightNet 9 = .ok (.istore_n 3, 1) := by decide +kernel
theorem dX3_uprightNet_10 : decode cX3_uprightNet 10 = .ok (.aload_n 0, 1) := by decide +kernel
theorem dX3_uprightNet_11 : decode cX3_uprightNet 11 = .ok (.getfield 12, 3) := by decide +kernel
theorem dX3_uprightNet_14 : decode cX3_uprightNet 14 = .ok (.getfield 189, 3) := by decide +kernel
theorem dX3_uprightNet_17 : decode cX3_uprightNet 17 = .ok (.iload_n 1, 1) := by decide +kernel
theorem dX3_uprightNet_18 : decode cX3_uprightNet 18 = .ok (.iaload, 1) := by decide +kernel
theorem dX3_uprightNet_19 : decode cX3_uprightNet 19 = .ok (.istore 4, 2) := by decide +kernel
theorem dX3_uprightNet_21 : decode cX3_uprightNet 21 = .ok (.iload_n 3, 1) := by decide +kernel
theorem dX3_uprightNet_22 : decode cX3_uprightNet 22 = .ok (.iload 4, 2) := by decide +kernel
theorem dX3_uprightNet_24 : decode cX3_uprightNet 24 = .ok (.if_icmp .eq 16, 3) := by decide +kernel
theorem dX3_uprightNet_27 : decode cX3_uprightNet 27 = .ok (.iload_n 2, 1) := by decide +kernel
theorem dX3_uprightNet_28 : decode cX3_uprightNet 28 = .ok (.aload_n 0, 1) := by decide +kernel
theorem dX3_uprightNet_29 : decode cX3_uprightNet 29 = .ok (.getfield 26, 3) := by decide +kernel
theorem dX3_uprightNet_32 : decode cX3_uprightNet 32 = .ok (.iload_n 3, 1) := by decide +kernel
theorem dX3_uprightNet_33 : decode cX3_uprightNet 33 = .ok (.iload_n 1, 1) := by decide +kernel
theorem dX3_uprightNet_34 : decode cX3_uprightNet 34 = .ok (.invokevirtual 192, 3) := by decide +kernel
theorem dX3_uprightNet_37 : decode cX3_uprightNet 37 = .ok (.if_icmp .gt 5, 3) := by decide +kernel
theorem dX3_uprightNet_40 : decode cX3_uprightNet 40 = .ok (.iload_n 3, 1) := by decide +kernel
theorem dX3_uprightNet_41 : decode cX3_uprightNet 41 = .ok (.ireturn, 1) := by decide +kernel
theorem dX3_uprightNet_42 : decode cX3_uprightNet 42 = .ok (.iload_n 2, 1) := by decide +kernel
theorem dX3_uprightNet_43 : decode cX3_uprightNet 43 = .ok (.aload_n 0, 1) := by decide +kernel
theorem dX3_uprightNet_44 : decode cX3_uprightNet 44 = .ok (.getfield 26, 3) := by decide +kernel
theorem dX3_uprightNet_47 : decode cX3_uprightNet 47 = .ok (.iload 4, 2) := by decide +kernel
theorem dX3_uprightNet_49 : decode cX3_uprightNet 49 = .ok (.iload_n 1, 1) := by decide +kernel
theorem dX3_uprightNet_50 : decode cX3_uprightNet 50 = .ok (.invokevirtual 195, 3) := by decide +kernel
theorem dX3_uprightNet_53 : decode cX3_uprightNet 53 = .ok (.if_icmp .lt 6, 3) := by decide +kernel
theorem dX3_uprightNet_56 : decode cX3_uprightNet 56 = .ok (.iload 4, 2) := by decide +kernel
theorem dX3_uprightNet_58 : decode cX3_uprightNet 58 = .ok (.ireturn, 1) := by decide +kernel
theorem dX3_uprightNet_59 : decode cX3_uprightNet 59 = .ok (.iconst 0, 1) := by decide +kernel
theorem dX3_uprightNet_60 : decode cX3_uprightNet 60 = .ok (.ireturn, 1) := by decide +kernel
theorem dX3_isVia_0 : decode cX3_isVia 0 = .ok (.aload_n 0, 1) := by decide +kernel
theorem dX3_isVia_1 : decode cX3_isVia 1 = .ok (.getfield 26, 3) := by decide +kernel
theorem dX3_isVia_4 : decode cX3_isVia 4 = .ok (.iload_n 1, 1) := by decide +kernel
theorem dX3_isVia_5 : decode cX3_isVia 5 = .ok (.iload_n 2, 1) := by decide +kernel
theorem dX3_isVia_6 : decode cX3_isVia 6 = .ok (.invokevirtual 125, 3) := by decide +kernel
theorem dX3_isVia_9 : decode cX3_isVia 9 = .ok (.istore_n 3, 1) := by decide +kernel
theorem dX3_isVia_10 : decode cX3_isVia 10 = .ok (.iload_n 3, 1) := by decide +kernel
theorem dX3_isVia_11 : decode cX3_isVia 11 = .ok (.ifCond .eq 30, 3) := by decide +kernel
theorem dX3_isVia_14 : decode cX3_isVia 14 = .ok (.aload_n 0, 1) := by decide +kernel
theorem dX3_isVia_15 : decode cX3_isVia 15 = .ok (.getfield 26, 3) := by decide +kernel
theorem dX3_isVia_18 : decode cX3_isVia 18 = .ok (.iload_n 1, 1) := by decide +kernel
theorem dX3_isVia_19 : decode cX3_isVia 19 = .ok (.iload_n 2, 1) := by decide +kernel
theorem dX3_isVia_20 : decode cX3_isVia 20 = .ok (.iload_n 3, 1) := by decide +kernel
theorem dX3_isVia_21 : decode cX3_isVia 21 = .ok (.invokevirtual 198, 3) := by decide +kernel
theorem dX3_isVia_24 : decode cX3_isVia 24 = .ok (.ifCond .eq 17, 3) := by decide +kernel
theorem dX3_isVia_27 : decode cX3_isVia 27 = .ok (.iload_n 3, 1) := by decide +kernel
theorem dX3_isVia_28 : decode cX3_isVia 28 = .ok (.aload_n 0, 1) := by decide +kernel
theorem dX3_isVia_29 : decode cX3_isVia 29 = .ok (.iload_n 2, 1) := by decide +kernel
theorem dX3_isVia_30 : decode cX3_isVia 30 = .ok (.iload_n 1, 1) := by decide +kernel
theorem dX3_isVia_31 : decode cX3_isVia 31 = .ok (.invokevirtual 131, 3) := by decide +kernel
theorem dX3_isVia_34 : decode cX3_isVia 34 = .ok (.if_icmp .ne 7, 3) := by decide +kernel
theorem dX3_isVia_37 : decode cX3_isVia 37 = .ok (.iconst 1, 1) := by decide +kernel
theorem dX3_isVia_38 : decode cX3_isVia 38 = .ok (.goto 4, 3) := by decide +kernel
theorem dX3_isVia_41 : decode cX3_isVia 41 = .ok (.iconst 0, 1) := by decide +kernel
theorem dX3_isVia_42 : decode cX3_isVia 42 = .ok (.ireturn, 1) := by decide +kernel
theorem dX3_countVias_0 : decode cX3_countVias 0 = .ok (.iconst 0, 1) := by decide +kernel
theorem dX3_countVias_1 : decode cX3_countVias 1 = .ok (.istore_n 1, 1) := by decide +kernel
theorem dX3_countVias_2 : decode cX3_countVias 2 = .ok (.iconst 0, 1) := by decide +kernel
theorem dX3_countVias_3 : decode cX3_countVias 3 = .ok (.istore_n 2, 1) := by decide +kernel
theorem dX3_countVias_4 : decode cX3_countVias 4 = .ok (.iload_n 2, 1) := by decide +kernel
theorem dX3_countVias_5 : decode cX3_countVias 5 = .ok (.aload_n 0, 1) := by decide +kernel
theorem dX3_countVias_6 : decode cX3_countVias 6 = .ok (.getfield 26, 3) := by decide +kernel
theorem dX3_countVias_9 : decode cX3_countVias 9 = .ok (.getfield 91, 3) := by decide +kernel
theorem dX3_countVias_12 : decode cX3_countVias 12 = .ok (.if_icmp .ge 35, 3) := by decide +kernel
theorem dX3_countVias_15 : decode cX3_countVias 15 = .ok (.iconst 0, 1) := by decide +kernel
theorem dX3_countVias_16 : decode cX3_countVias 16 = .ok (.istore_n 3, 1) := by decide +kernel
theorem dX3_countVias_17 : decode cX3_countVias 17 = .ok (.iload_n 3, 1) := by decide +kernel
theorem dX3_countVias_18 : decode cX3_countVias 18 = .ok (.bipush 20, 2) := by decide +kernel
theorem dX3_countVias_20 : decode cX3_countVias 20 = .ok (.if_icmp .ge 21, 3) := by decide +kernel
theorem dX3_countVias_23 : decode cX3_countVias 23 = .ok (.aload_n 0, 1) := by decide +kernel
theorem dX3_countVias_24 : decode cX3_countVias 24 = .ok (.iload_n 2, 1) := by decide +kernel
theorem dX3_countVias_25 : decode cX3_countVias 25 = .ok (.iload_n 3, 1) := by decide +kernel
theorem dX3_countVias_26 : decode cX3_countVias 26 = .ok (.invokevirtual 134, 3) := by decide +kernel
theorem dX3_countVias_29 : decode cX3_countVias 29 = .ok (.ifCond .eq 6, 3) := by decide +kernel
theorem dX3_countVias_32 : decode cX3_countVias 32 = .ok (.iinc 1 1, 3) := by decide +kernel
theorem dX3_countVias_35 : decode cX3_countVias 35 = .ok (.iinc 3 1, 3) := by decide +kernel
theorem dX3_countVias_38 : decode cX3_countVias 38 = .ok (.goto (-21), 3) := by decide +kernel
theorem dX3_countVias_41 : decode cX3_countVias 41 = .ok (.iinc 2 1, 3) := by decide +kernel
theorem dX3_countVias_44 : decode cX3_countVias 44 = .ok (.goto (-40), 3) := by decide +kernel
theorem dX3_countVias_47 : decode cX3_countVias 47 = .ok (.iload_n 1, 1) := by decide +kernel
theorem dX3_countVias_48 : decode cX3_countVias 48 = .ok (.ireturn, 1) := by decide +kernel
theorem dX4_init_0 : decode cX4_init 0 = .ok (.aload_n 0, 1) := by decide +kernel
theorem dX4_init_1 : decode cX4_init 1 = .ok (.invokespecial 1, 3) := by decide +kernel
theorem dX4_init_4 : decode cX4_init 4 = .ok (.aload_n 0, 1) := by decide +kernel
theorem dX4_init_5 : decode cX4_init 5 = .ok (.bipush 40, 2) := by decide +kernel
theorem dX4_init_7 : decode cX4_init 7 = .ok (.newarray .int, 2) := by decide +kernel
theorem dX4_init_9 : decode cX4_init 9 = .ok (.putfield 7, 3) := by decide +kernel
theorem dX4_init_12 : decode cX4_init 12 = .ok (.aload_n 0, 1) := by decide +kernel
theorem dX4_init_13 : decode cX4_init 13 = .ok (.bipush 40, 2) := by decide +kernel
theorem dX4_init_15 : decode cX4_init 15 = .ok (.newarray .int, 2) := by decide +kernel
theorem dX4_init_17 : decode cX4_init 17 = .ok (.putfield 13, 3) := by decide +kernel
theorem dX4_init_20 : decode cX4_init 20 = .ok (.aload_n 0, 1) := by decide +kernel
theorem dX4_init_21 : decode cX4_init 21 = .ok (.bipush 40, 2) := by decide +kernel
theorem dX4_init_23 : decode cX4_init 23 = .ok (.newarray .int, 2) := by decide +kernel
theorem dX4_init_25 : decode cX4_init 25 = .ok (.putfield 16, 3) := by decide +kernel
theorem dX4_init_28 : decode cX4_init 28 = .ok (.aload_n 0, 1) := by decide +kernel
theorem dX4_init_29 : decode cX4_init 29 = .ok (.bipush 40, 2) := by decide +kernel
theorem dX4_init_31 : decode cX4_init 31 = .ok (.newarray .int, 2) := by decide +kernel
theorem dX4_init_33 : decode cX4_init 33 = .ok (.putfield 19, 3) := by decide +kernel
theorem dX4_init_36 : decode cX4_init 36 = .ok (.aload_n 0, 1) := by decide +kernel
theorem dX4_init_37 : decode cX4_init 37 = .ok (.bipush 40, 2) := by decide +kernel
theorem dX4_init_39 : decode cX4_init 39 = .ok (.newarray .int, 2) := by decide +kernel
theorem dX4_init_41 : decode cX4_init 41 = .ok (.putfield 22, 3) := by decide +kernel
theorem dX4_init_44 : decode cX4_init 44 = .ok (.aload_n 0, 1) := by decide +kernel
theorem dX4_init_45 : decode cX4_init 45 = .ok (.bipush 40, 2) := by decide +kernel
theorem dX4_init_47 : decode cX4_init 47 = .ok (.newarray .long, 2) := by decide +kernel
theorem dX4_init_49 : decode cX4_init 49 = .ok (.putfield 25, 3) := by decide +kernel
theorem dX4_init_52 : decode cX4_init 52 = .ok (.aload_n 0, 1) := by decide +kernel
theorem dX4_init_53 : decode cX4_init 53 = .ok (.bipush 40, 2) := by decide +kernel
theorem dX4_init_55 : decode cX4_init 55 = .ok (.newarray .long, 2) := by decide +kernel
theorem dX4_init_57 : decode cX4_init 57 = .ok (.putfield 29, 3) := by decide +kernel
theorem dX4_init_60 : decode cX4_init 60 = .ok (.aload_n 0, 1) := by decide +kernel
theorem dX4_init_61 : decode cX4_init 61 = .ok (.bipush 40, 2) := by decide +kernel
theorem dX4_init_63 : decode cX4_init 63 = .ok (.newarray .int, 2) := by decide +kernel
theorem dX4_init_65 : decode cX4_init 65 = .ok (.putfield 32, 3) := by decide +kernel
theorem dX4_init_68 : decode cX4_init 68 = .ok (.aload_n 0, 1) := by decide +kernel
theorem dX4_init_69 : decode cX4_init 69 = .ok (.bipush 40, 2) := by decide +kernel
theorem dX4_init_71 : decode cX4_init 71 = .ok (.newarray .int, 2) := by decide +kernel
theorem dX4_init_73 : decode cX4_init 73 = .ok (.putfield 35, 3) := by decide +kernel
theorem dX4_init_76 : decode cX4_init 76 = .ok (.aload_n 0, 1) := by decide +kernel
theorem dX4_init_77 : decode cX4_init 77 = .ok (.bipush 40, 2) := by decide +kernel
theorem dX4_init_79 : decode cX4_init 79 = .ok (.newarray .int, 2) := by decide +kernel
theorem dX4_init_81 : decode cX4_init 81 = .ok (.putfield 38, 3) := by decide +kernel
theorem dX4_init_84 : decode cX4_init 84 = .ok (.aload_n 0, 1) := by decide +kernel
theorem dX4_init_85 : decode cX4_init 85 = .ok (.bipush 40, 2) := by decide +kernel
theorem dX4_init_87 : decode cX4_init 87 = .ok (.newarray .int, 2) := by decide +kernel
theorem dX4_init_89 : decode cX4_init 89 = .ok (.putfield 41, 3) := by decide +kernel
theorem dX4_init_92 : decode cX4_init 92 = .ok (.aload_n 0, 1) := by decide +kernel
theorem dX4_init_93 : decode cX4_init 93 = .ok (.bipush 40, 2) := by decide +kernel
theorem dX4_init_95 : decode cX4_init 95 = .ok (.newarray .int, 2) := by decide +kernel
theorem dX4_init_97 : decode cX4_init 97 = .ok (.putfield 44, 3) := by decide +kernel
theorem dX4_init_100 : decode cX4_init 100 = .ok (.aload_n 0, 1) := by decide +kernel
theorem dX4_init_101 : decode cX4_init 101 = .ok (.bipush 40, 2) := by decide +kernel
theorem dX4_init_103 : decode cX4_init 103 = .ok (.newarray .int, 2) := by decide +kernel
theorem dX4_init_105 : decode cX4_init 105 = .ok (.putfield 47, 3) := by decide +kernel
theorem dX4_init_108 : decode cX4_init 108 = .ok (.aload_n 0, 1) := by decide +kernel
theorem dX4_init_109 : decode cX4_init 109 = .ok (.bipush 40, 2) := by decide +kernel
theorem dX4_init_111 : decode cX4_init 111 = .ok (.newarray .int, 2) := by decide +kernel
theorem dX4_init_113 : decode cX4_init 113 = .ok (.putfield 50, 3) := by decide +kernel
theorem dX4_init_116 : decode cX4_init 116 = .ok (.aload_n 0, 1) := by decide +kernel
theorem dX4_init_117 : decode cX4_init 117 = .ok (.bipush 40, 2) := by decide +kernel
theorem dX4_init_119 : decode cX4_init 119 = .ok (.newarray .int, 2) := by decide +kernel
theorem dX4_init_121 : decode cX4_init 121 = .ok (.putfield 53, 3) := by decide +kernel
theorem dX4_init_124 : decode cX4_init 124 = .ok (.return_, 1) := by decide +kernel
theorem dX4_thrown_0 : decode cX4_thrown 0 = .ok (.aload_n 0, 1) := by decide +kernel
theorem dX4_thrown_1 : decode cX4_thrown 1 = .ok (.getfield 56, 3) := by decide +kernel
theorem dX4_thrown_4 : decode cX4_thrown 4 = .ok (.ireturn, 1) := by decide +kernel
theorem dX4_fail_0 : decode cX4_fail 0 = .ok (.aload_n 0, 1) := by decide +kernel
theorem dX4_fail_1 : decode cX4_fail 1 = .ok (.iload_n 1, 1) := by decide +kernel
theorem dX4_fail_2 : decode cX4_fail 2 = .ok (.putfield 56, 3) := by decide +kernel
theorem dX4_fail_5 : decode cX4_fail 5 = .ok (.iconst 0, 1) := by decide +kernel
theorem dX4_fail_6 : decode cX4_fail 6 = .ok (.ireturn, 1) := by decide +kernel
theorem dX4_in_0 : decode cX4_in 0 = .ok (.iload_n 0, 1) := by decide +kernel
theorem dX4_in_1 : decode cX4_in 1 = .ok (.iload_n 1, 1) := by decide +kernel
theorem dX4_in_2 : decode cX4_in 2 = .ok (.if_icmp .lt 12, 3) := by decide +kernel
theorem dX4_in_5 : decode cX4_in 5 = .ok (.iload_n 0, 1) := by decide +kernel
theorem dX4_in_6 : decode cX4_in 6 = .ok (.iload_n 2, 1) := by decide +kernel
theorem dX4_in_7 : decode cX4_in 7 = .ok (.if_icmp .gt 7, 3) := by decide +kernel
theorem dX4_in_10 : decode cX4_in 10 = .ok (.iconst 1, 1) := by decide +kernel
theorem dX4_in_11 : decode cX4_in 11 = .ok (.goto 4, 3) := by decide +kernel
theorem dX4_in_14 : decode cX4_in 14 = .ok (.iconst 0, 1) := by decide +kernel
theorem dX4_in_15 : decode cX4_in 15 = .ok (.ireturn, 1) := by decide +kernel
theorem dX4_pin_0 : decode cX4_pin 0 = .ok (.aload_n 0, 1) := by decide +kernel
theorem dX4_pin_1 : decode cX4_pin 1 = .ok (.iload_n 1, 1) := by decide +kernel
theorem dX4_pin_2 : decode cX4_pin 2 = .ok (.iconst 0, 1) := by decide +kernel
theorem dX4_pin_3 : decode cX4_pin 3 = .ok (.bipush 19, 2) := by decide +kernel
theorem dX4_pin_5 : decode cX4_pin 5 = .ok (.invokestatic 60, 3) := by decide +kernel
theorem dX4_pin_8 : decode cX4_pin 8 = .ok (.ifCond .ne 7, 3) := by decide +kernel
theorem dX4_pin_11 : decode cX4_pin 11 = .ok (.iconst 1, 1) := by decide +kernel
theorem dX4_pin_12 : decode cX4_pin 12 = .ok (.goto 18, 3) := by decide +kernel
theorem dX4_pin_15 : decode cX4_pin 15 = .ok (.iload_n 3, 1) := by decide +kernel
theorem dX4_pin_16 : decode cX4_pin 16 = .ok (.iconst 0, 1) := by decide +kernel
theorem dX4_pin_17 : decode cX4_pin 17 = .ok (.bipush 9, 2) := by decide +kernel
theorem dX4_pin_19 : decode cX4_pin 19 = .ok (.invokestatic 60, 3) := by decide +kernel
theorem dX4_pin_22 : decode cX4_pin 22 = .ok (.ifCond .ne 7, 3) := by decide +kernel
theorem dX4_pin_25 : decode cX4_pin 25 = .ok (.iconst 2, 1) := by decide +kernel
theorem dX4_pin_26 : decode cX4_pin 26 = .ok (.goto 4, 3) := by decide +kernel
theorem dX4_pin_29 : decode cX4_pin 29 = .ok (.iconst 0, 1) := by decide +kernel
theorem dX4_pin_30 : decode cX4_pin 30 = .ok (.putfield 56, 3) := by decide +kernel
theorem dX4_pin_33 : decode cX4_pin 33 = .ok (.aload_n 0, 1) := by decide +kernel
theorem dX4_pin_34 : decode cX4_pin 34 = .ok (.getfield 56, 3) := by decide +kernel
theorem dX4_pin_37 : decode cX4_pin 37 = .ok (.ifCond .le 5, 3) := by decide +kernel
theorem dX4_pin_40 : decode cX4_pin 40 = .ok (.iconst 0, 1) := by decide +kernel
theorem dX4_pin_41 : decode cX4_pin 41 = .ok (.ireturn, 1) := by decide +kernel
theorem dX4_pin_42 : decode cX4_pin 42 = .ok (.iload_n 2, 1) := by decide +kernel
theorem dX4_pin_43 : decode cX4_pin 43 = .ok (.ifCond .eq 7, 3) := by decide +kernel
theorem dX4_pin_46 : decode cX4_pin 46 = .ok (.iload_n 1, 1) := by decide +kernel
theorem dX4_pin_47 : decode cX4_pin 47 = .ok (.goto 7, 3) := by decide +kernel
theorem dX4_pin_50 : decode cX4_pin 50 = .ok (.bipush 20, 2) := by decide +kernel
theorem dX4_pin_52 : decode cX4_pin 52 = .ok (.iload_n 1, 1) := by decide +kernel
theorem dX4_pin_53 : decode cX4_pin 53 = .ok (.iadd, 1) := by decide +kernel
theorem dX4_pin_54 : decode cX4_pin 54 = .ok (.istore 4, 2) := by decide +kernel
theorem dX4_pin_56 : decode cX4_pin 56 = .ok (.aload_n 0, 1) := by decide +kernel
theorem dX4_pin_57 : decode cX4_pin 57 = .ok (.getfield 7, 3) := by decide +kernel
theorem dX4_pin_60 : decode cX4_pin 60 = .ok (.iload 4, 2) := by decide +kernel
theorem dX4_pin_62 : decode cX4_pin 62 = .ok (.iaload, 1) := by decide +kernel
theorem dX4_pin_63 : decode cX4_pin 63 = .ok (.istore 5, 2) := by decide +kernel
theorem dX4_pin_65 : decode cX4_pin 65 = .ok (.aload_n 0, 1) := by decide +kernel
theorem dX4_pin_66 : decode cX4_pin 66 = .ok (.getfield 7, 3) := by decide +kernel
theorem dX4_pin_69 : decode cX4_pin 69 = .ok (.iload 4, 2) := by decide +kernel
theorem dX4_pin_71 : decode cX4_pin 71 = .ok (.iload_n 3, 1) := by decide +kernel
theorem dX4_pin_72 : decode cX4_pin 72 = .ok (.iastore, 1) := by decide +kernel
theorem dX4_pin_73 : decode cX4_pin 73 = .ok (.aload_n 0, 1) := by decide +kernel
theorem dX4_pin_74 : decode cX4_pin 74 = .ok (.iconst 0, 1) := by decide +kernel
theorem dX4_pin_75 : decode cX4_pin 75 = .ok (.putfield 64, 3) := by decide +kernel
theorem dX4_pin_78 : decode cX4_pin 78 = .ok (.aload_n 0, 1) := by decide +kernel
theorem dX4_pin_79 : decode cX4_pin 79 = .ok (.iconst 0, 1) := by decide +kernel
theorem dX4_pin_80 : decode cX4_pin 80 = .ok (.putfield 68, 3) := by decide +kernel
theorem dX4_pin_83 : decode cX4_pin 83 = .ok (.aload_n 0, 1) := by decide +kernel
theorem dX4_pin_84 : decode cX4_pin 84 = .ok (.iconst 0, 1) := by decide +kernel
theorem dX4_pin_85 : decode cX4_pin 85 = .ok (.putfield 71, 3) := by decide +kernel
theorem dX4_pin_88 : decode cX4_pin 88 = .ok (.iload 5, 2) := by decide +kernel
theorem dX4_pin_90 : decode cX4_pin 90 = .ok (.ireturn, 1) := by decide +kernel
theorem dX4_columns_0 : decode cX4_columns 0 = .ok (.iconst 0, 1) := by decide +kernel
theorem dX4_columns_1 : decode cX4_columns 1 = .ok (.istore_n 2, 1) := by decide +kernel
theorem dX4_columns_2 : decode cX4_columns 2 = .ok (.iconst 0, 1) := by decide +kernel
theorem dX4_columns_3 : decode cX4_columns 3 = .ok (.istore_n 3, 1) := by decide +kernel
theorem dX4_columns_4 : decode cX4_columns 4 = .ok (.iload_n 3, 1) := by decide +kernel
theorem dX4_columns_5 : decode cX4_columns 5 = .ok (.bipush 20, 2) := by decide +kernel
theorem dX4_columns_7 : decode cX4_columns 7 = .ok (.if_icmp .ge 42, 3) := by decide +kernel
theorem dX4_columns_10 : decode cX4_columns 10 = .ok (.aload_n 0, 1) := by decide +kernel
theorem dX4_columns_11 : decode cX4_columns 11 = .ok (.getfield 7, 3) := by decide +kernel
theorem dX4_columns_14 : decode cX4_columns 14 = .ok (.iload_n 3, 1) := by decide +kernel
theorem dX4_columns_15 : decode cX4_columns 15 = .ok (.iaload, 1) := by decide +kernel
theorem dX4_columns_16 : decode cX4_columns 16 = .ok (.iload_n 1, 1) := by decide +kernel
theorem dX4_columns_17 : decode cX4_columns 17 = .ok (.if_icmp .eq 16, 3) := by decide +kernel
theorem dX4_columns_20 : decode cX4_columns 20 = .ok (.aload_n 0, 1) := by decide +kernel
theorem dX4_columns_21 : decode cX4_columns 21 = .ok (.getfield 7, 3) := by decide +kernel
theorem dX4_columns_24 : decode cX4_columns 24 = .ok (.bipush 20, 2) := by decide +kernel
theorem dX4_columns_26 : decode cX4_columns 26 = .ok (.iload_n 3, 1) := by decide +kernel
theorem dX4_columns_27 : decode cX4_columns 27 = .ok (.iadd, 1) := by decide +kernel
theorem dX4_columns_28 : decode cX4_columns 28 = .ok (.iaload, 1) := by decide +kernel
theorem dX4_columns_29 : decode cX4_columns 29 = .ok (.iload_n 1, 1) := by decide +kernel
theorem dX4_columns_30 : decode cX4_columns 30 = .ok (.if_icmp .ne 11, 3) := by decide +kernel
theorem dX4_columns_33 : decode cX4_columns 33 = .ok (.iload_n 2, 1) := by decide +kernel
theorem dX4_columns_34 : decode cX4_columns 34 = .ok (.iconst 1, 1) := by decide +kernel
theorem dX4_columns_35 : decode cX4_columns 35 = .ok (.iload_n 3, 1) := by decide +kernel
theorem dX4_columns_36 : decode cX4_columns 36 = .ok (.ishl, 1) := by decide +kernel
theorem dX4_columns_37 : decode cX4_columns 37 = .ok (.ior, 1) := by decide +kernel
theorem dX4_columns_38 : decode cX4_columns 38 = .ok (.goto 4, 3) := by decide +kernel
theorem dX4_columns_41 : decode cX4_columns 41 = .ok (.iload_n 2, 1) := by decide +kernel
theorem dX4_columns_42 : decode cX4_columns 42 = .ok (.istore_n 2, 1) := by decide +kernel
theorem dX4_columns_43 : decode cX4_columns 43 = .ok (.iinc 3 1, 3) := by decide +kernel
theorem dX4_columns_46 : decode cX4_columns 46 = .ok (.goto (-42), 3) := by decide +kernel
theorem dX4_columns_49 : decode cX4_columns 49 = .ok (.iload_n 2, 1) := by decide +kernel
theorem dX4_columns_50 : decode cX4_columns 50 = .ok (.ireturn, 1) := by decide +kernel
theorem dX4_pinsOf_0 : decode cX4_pinsOf 0 = .ok (.iconst 0, 1) := by decide +kernel
theorem dX4_pinsOf_1 : decode cX4_pinsOf 1 = .ok (.istore_n 2, 1) := by decide +kernel
theorem dX4_pinsOf_2 : decode cX4_pinsOf 2 = .ok (.iconst 0, 1) := by decide +kernel
theorem dX4_pinsOf_3 : decode cX4_pinsOf 3 = .ok (.istore_n 3, 1) := by decide +kernel
theorem dX4_pinsOf_4 : decode cX4_pinsOf 4 = .ok (.iload_n 3, 1) := by decide +kernel
theorem dX4_pinsOf_5 : decode cX4_pinsOf 5 = .ok (.bipush 40, 2) := by decide +kernel
theorem dX4_pinsOf_7 : decode cX4_pinsOf 7 = .ok (.if_icmp .ge 27, 3) := by decide +kernel
theorem dX4_pinsOf_10 : decode cX4_pinsOf 10 = .ok (.aload_n 0, 1) := by decide +kernel
theorem dX4_pinsOf_11 : decode cX4_pinsOf 11 = .ok (.getfield 7, 3) := by decide +kernel
theorem dX4_pinsOf_14 : decode cX4_pinsOf 14 = .ok (.iload_n 3, 1) := by decide +kernel
theorem dX4_pinsOf_15 : decode cX4_pinsOf 15 = .ok (.iaload, 1) := by decide +kernel
theorem dX4_pinsOf_16 : decode cX4_pinsOf 16 = .ok (.iload_n 1, 1) := by decide +kernel
theorem dX4_pinsOf_17 : decode cX4_pinsOf 17 = .ok (.if_icmp .ne 9, 3) := by decide +kernel
theorem dX4_pinsOf_20 : decode cX4_pinsOf 20 = .ok (.iload_n 2, 1) := by decide +kernel
theorem dX4_pinsOf_21 : decode cX4_pinsOf 21 = .ok (.iconst 1, 1) := by decide +kernel
theorem dX4_pinsOf_22 : decode cX4_pinsOf 22 = .ok (.iadd, 1) := by decide +kernel
theorem dX4_pinsOf_23 : decode cX4_pinsOf 23 = .ok (.goto 4, 3) := by decide +kernel
theorem dX4_pinsOf_26 : decode cX4_pinsOf 26 = .ok (.iload_n 2, 1) := by decide +kernel
theorem dX4_pinsOf_27 : decode cX4_pinsOf 27 = .ok (.istore_n 2, 1) := by decide +kernel
theorem dX4_pinsOf_28 : decode cX4_pinsOf 28 = .ok (.iinc 3 1, 3) := by decide +kernel
theorem dX4_pinsOf_31 : decode cX4_pinsOf 31 = .ok (.goto (-27), 3) := by decide +kernel
theorem dX4_pinsOf_34 : decode cX4_pinsOf 34 = .ok (.iload_n 2, 1) := by decide +kernel
theorem dX4_pinsOf_35 : decode cX4_pinsOf 35 = .ok (.ireturn, 1) := by decide +kernel
theorem dX4_lowest_0 : decode cX4_lowest 0 = .ok (.iconst 0, 1) := by decide +kernel
theorem dX4_lowest_1 : decode cX4_lowest 1 = .ok (.istore_n 1, 1) := by decide +kernel
theorem dX4_lowest_2 : decode cX4_lowest 2 = .ok (.iload_n 0, 1) := by decide +kernel
theorem dX4_lowest_3 : decode cX4_lowest 3 = .ok (.iload_n 1, 1) := by decide +kernel
theorem dX4_lowest_4 : decode cX4_lowest 4 = .ok (.ishr, 1) := by decide +kernel
theorem dX4_lowest_5 : decode cX4_lowest 5 = .ok (.iconst 1, 1) := by decide +kernel
theorem dX4_lowest_6 : decode cX4_lowest 6 = .ok (.iand, 1) := by decide +kernel
theorem dX4_lowest_7 : decode cX4_lowest 7 = .ok (.ifCond .ne 9, 3) := by decide +kernel
theorem dX4_lowest_10 : decode cX4_lowest 10 = .ok (.iinc 1 1, 3) := by decide +kernel
theorem dX4_lowest_13 : decode cX4_lowest 13 = .ok (.goto (-11), 3) := by decide +kernel
theorem dX4_lowest_16 : decode cX4_lowest 16 = .ok (.iload_n 1, 1) := by decide +kernel
theorem dX4_lowest_17 : decode cX4_lowest 17 = .ok (.ireturn, 1) := by decide +kernel
theorem dX4_highest_0 : decode cX4_highest 0 = .ok (.bipush 19, 2) := by decide +kernel
theorem dX4_highest_2 : decode cX4_highest 2 = .ok (.istore_n 1, 1) := by decide +kernel
theorem dX4_highest_3 : decode cX4_highest 3 = .ok (.iload_n 0, 1) := by decide +kernel
theorem dX4_highest_4 : decode cX4_highest 4 = .ok (.iload_n 1, 1) := by decide +kernel
theorem dX4_highest_5 : decode cX4_highest 5 = .ok (.ishr, 1) := by decide +kernel
theorem dX4_highest_6 : decode cX4_highest 6 = .ok (.iconst 1, 1) := by decide +kernel
theorem dX4_highest_7 : decode cX4_highest 7 = .ok (.iand, 1) := by decide +kernel
theorem dX4_highest_8 : decode cX4_highest 8 = .ok (.ifCond .ne 9, 3) := by decide +kernel
theorem dX4_highest_11 : decode cX4_highest 11 = .ok (.iinc 1 (-1), 3) := by decide +kernel
theorem dX4_highest_14 : decode cX4_highest 14 = .ok (.goto (-11), 3) := by decide +kernel
theorem dX4_highest_17 : decode cX4_highest 17 = .ok (.iload_n 1, 1) := by decide +kernel
theorem dX4_highest_18 : decode cX4_highest 18 = .ok (.ireturn, 1) := by decide +kernel
theorem dX4_sort_0 : decode cX4_sort 0 = .ok (.aload_n 0, 1) := by decide +kernel
theorem dX4_sort_1 : decode cX4_sort 1 = .ok (.iload_n 1, 1) := by decide +kernel
theorem dX4_sort_2 : decode cX4_sort 2 = .ok (.invokevirtual 74, 3) := by decide +kernel
theorem dX4_sort_5 : decode cX4_sort 5 = .ok (.istore_n 2, 1) := by decide +kernel
theorem dX4_sort_6 : decode cX4_sort 6 = .ok (.aload_n 0, 1) := by decide +kernel
theorem dX4_sort_7 : decode cX4_sort 7 = .ok (.iload_n 1, 1) := by decide +kernel
theorem dX4_sort_8 : decode cX4_sort 8 = .ok (.invokevirtual 78, 3) := by decide +kernel
theorem dX4_sort_11 : decode cX4_sort 11 = .ok (.istore_n 3, 1) := by decide +kernel
theorem dX4_sort_12 : decode cX4_sort 12 = .ok (.iload_n 2, 1) := by decide +kernel
theorem dX4_sort_13 : decode cX4_sort 13 = .ok (.iconst 2, 1) := by decide +kernel
theorem dX4_sort_14 : decode cX4_sort 14 = .ok (.if_icmp .ge 7, 3) := by decide +kernel
theorem dX4_sort_17 : decode cX4_sort 17 = .ok (.iload_n 2, 1) := by decide +kernel
theorem dX4_sort_18 : decode cX4_sort 18 = .ok (.goto 19, 3) := by decide +kernel
theorem dX4_sort_21 : decode cX4_sort 21 = .ok (.iload_n 3, 1) := by decide +kernel
theorem dX4_sort_22 : decode cX4_sort 22 = .ok (.invokestatic 81, 3) := by decide +kernel
theorem dX4_sort_25 : decode cX4_sort 25 = .ok (.iload_n 3, 1) := by decide +kernel
theorem dX4_sort_26 : decode cX4_sort 26 = .ok (.invokestatic 84, 3) := by decide +kernel
theorem dX4_sort_29 : decode cX4_sort 29 = .ok (.if_icmp .ne 7, 3) := by decide +kernel
theorem dX4_sort_32 : decode cX4_sort 32 = .ok (.iconst 2, 1) := by decide +kernel
theorem dX4_sort_33 : decode cX4_sort 33 = .ok (.goto 4, 3) := by decide +kernel
theorem dX4_sort_36 : decode cX4_sort 36 = .ok (.iconst 3, 1) := by decide +kernel
theorem dX4_sort_37 : decode cX4_sort 37 = .ok (.ireturn, 1) := by decide +kernel
theorem dX4_anySingle_0 : decode cX4_anySingle 0 = .ok (.iconst 0, 1) := by decide +kernel
theorem dX4_anySingle_1 : decode cX4_anySingle 1 = .ok (.istore_n 1, 1) := by decide +kernel
theorem dX4_anySingle_2 : decode cX4_anySingle 2 = .ok (.iconst 1, 1) := by decide +kernel
theorem dX4_anySingle_3 : decode cX4_anySingle 3 = .ok (.istore_n 2, 1) := by decide +kernel
theorem dX4_anySingle_4 : decode cX4_anySingle 4 = .ok (.iload_n 2, 1) := by decide +kernel
theorem dX4_anySingle_5 : decode cX4_anySingle 5 = .ok (.bipush 9, 2) := by decide +kernel
theorem dX4_anySingle_7 : decode cX4_anySingle 7 = .ok (.if_icmp .gt 28, 3) := by decide +kernel
theorem dX4_anySingle_10 : decode cX4_anySingle 10 = .ok (.iload_n 1, 1) := by decide +kernel
theorem dX4_anySingle_11 : decode cX4_anySingle 11 = .ok (.ifCond .ne 12, 3) := by decide +kernel
theorem dX4_anySingle_14 : decode cX4_anySingle 14 = .ok (.aload_n 0, 1) := by decide +kernel
theorem dX4_anySingle_15 : decode cX4_anySingle 15 = .ok (.iload_n 2, 1) := by decide +kernel
theorem dX4_anySingle_16 : decode cX4_anySingle 16 = .ok (.invokevirtual 87, 3) := by decide +kernel
theorem dX4_anySingle_19 : decode cX4_anySingle 19 = .ok (.iconst 1, 1) := by decide +kernel
theorem dX4_anySingle_20 : decode cX4_anySingle 20 = .ok (.if_icmp .ne 7, 3) := by decide +kernel
theorem dX4_anySingle_23 : decode cX4_anySingle 23 = .ok (.iconst 1, 1) := by decide +kernel
theorem dX4_anySingle_24 : decode cX4_anySingle 24 = .ok (.goto 4, 3) := by decide +kernel
theorem dX4_anySingle_27 : decode cX4_anySingle 27 = .ok (.iconst 0, 1) := by decide +kernel
theorem dX4_anySingle_28 : decode cX4_anySingle 28 = .ok (.istore_n 1, 1) := by decide +kernel
theorem dX4_anySingle_29 : decode cX4_anySingle 29 = .ok (.iinc 2 1, 3) := by decide +kernel
theorem dX4_anySingle_32 : decode cX4_anySingle 32 = .ok (.goto (-28), 3) := by decide +kernel
theorem dX4_anySingle_35 : decode cX4_anySingle 35 = .ok (.iload_n 1, 1) := by decide +kernel
theorem dX4_anySingle_36 : decode cX4_anySingle 36 = .ok (.ireturn, 1) := by decide +kernel
theorem dX4_segmentOf_0 : decode cX4_segmentOf 0 = .ok (.aload_n 0, 1) := by decide +kernel
theorem dX4_segmentOf_1 : decode cX4_segmentOf 1 = .ok (.getfield 13, 3) := by decide +kernel
theorem dX4_segmentOf_4 : decode cX4_segmentOf 4 = .ok (.aload_n 0, 1) := by decide +kernel
theorem dX4_segmentOf_5 : decode cX4_segmentOf 5 = .ok (.getfield 90, 3) := by decide +kernel
theorem dX4_segmentOf_8 : decode cX4_segmentOf 8 = .ok (.iload_n 1, 1) := by decide +kernel
theorem dX4_segmentOf_9 : decode cX4_segmentOf 9 = .ok (.iastore, 1) := by decide +kernel
theorem dX4_segmentOf_10 : decode cX4_segmentOf 10 = .ok (.aload_n 0, 1) := by decide +kernel
theorem dX4_segmentOf_11 : decode cX4_segmentOf 11 = .ok (.getfield 16, 3) := by decide +kernel
theorem dX4_segmentOf_14 : decode cX4_segmentOf 14 = .ok (.aload_n 0, 1) := by decide +kernel
theorem dX4_segmentOf_15 : decode cX4_segmentOf 15 = .ok (.getfield 90, 3) := by decide +kernel
theorem dX4_segmentOf_18 : decode cX4_segmentOf 18 = .ok (.iload_n 2, 1) := by decide +kernel
theorem dX4_segmentOf_19 : decode cX4_segmentOf 19 = .ok (.iastore, 1) := by decide +kernel
theorem dX4_segmentOf_20 : decode cX4_segmentOf 20 = .ok (.aload_n 0, 1) := by decide +kernel
theorem dX4_segmentOf_21 : decode cX4_segmentOf 21 = .ok (.getfield 19, 3) := by decide +kernel
theorem dX4_segmentOf_24 : decode cX4_segmentOf 24 = .ok (.aload_n 0, 1) := by decide +kernel
theorem dX4_segmentOf_25 : decode cX4_segmentOf 25 = .ok (.getfield 90, 3) := by decide +kernel
theorem dX4_segmentOf_28 : decode cX4_segmentOf 28 = .ok (.iload_n 3, 1) := by decide +kernel
theorem dX4_segmentOf_29 : decode cX4_segmentOf 29 = .ok (.iastore, 1) := by decide +kernel
theorem dX4_segmentOf_30 : decode cX4_segmentOf 30 = .ok (.aload_n 0, 1) := by decide +kernel
theorem dX4_segmentOf_31 : decode cX4_segmentOf 31 = .ok (.getfield 22, 3) := by decide +kernel
theorem dX4_segmentOf_34 : decode cX4_segmentOf 34 = .ok (.aload_n 0, 1) := by decide +kernel
theorem dX4_segmentOf_35 : decode cX4_segmentOf 35 = .ok (.getfield 90, 3) := by decide +kernel
theorem dX4_segmentOf_38 : decode cX4_segmentOf 38 = .ok (.iload 4, 2) := by decide +kernel
theorem dX4_segmentOf_40 : decode cX4_segmentOf 40 = .ok (.iastore, 1) := by decide +kernel
theorem dX4_segmentOf_41 : decode cX4_segmentOf 41 = .ok (.aload_n 0, 1) := by decide +kernel
theorem dX4_segmentOf_42 : decode cX4_segmentOf 42 = .ok (.dup, 1) := by decide +kernel
theorem dX4_segmentOf_43 : decode cX4_segmentOf 43 = .ok (.getfield 90, 3) := by decide +kernel
theorem dX4_segmentOf_46 : decode cX4_segmentOf 46 = .ok (.iconst 1, 1) := by decide +kernel
theorem dX4_segmentOf_47 : decode cX4_segmentOf 47 = .ok (.iadd, 1) := by decide +kernel
theorem dX4_segmentOf_48 : decode cX4_segmentOf 48 = .ok (.putfield 90, 3) := by decide +kernel
theorem dX4_segmentOf_51 : decode cX4_segmentOf 51 = .ok (.return_, 1) := by decide +kernel
theorem dX4_makeSegments_0 : decode cX4_makeSegments 0 = .ok (.aload_n 0, 1) := by decide +kernel
theorem dX4_makeSegments_1 : decode cX4_makeSegments 1 = .ok (.iconst 0, 1) := by decide +kernel
theorem dX4_makeSegments_2 : decode cX4_makeSegments 2 = .ok (.putfield 90, 3) := by decide +kernel
theorem dX4_makeSegments_5 : decode cX4_makeSegments 5 = .ok (.iconst 1, 1) := by decide +kernel
theorem dX4_makeSegments_6 : decode cX4_makeSegments 6 = .ok (.istore_n 2, 1) := by decide +kernel
theorem dX4_makeSegments_7 : decode cX4_makeSegments 7 = .ok (.iload_n 2, 1) := by decide +kernel
theorem dX4_makeSegments_8 : decode cX4_makeSegments 8 = .ok (.bipush 9, 2) := by decide +kernel
theorem dX4_makeSegments_10 : decode cX4_makeSegments 10 = .ok (.if_icmp .gt 111, 3) := by decide +kernel
theorem dX4_makeSegments_13 : decode cX4_makeSegments 13 = .ok (.aload_n 0, 1) := by decide +kernel
theorem dX4_makeSegments_14 : decode cX4_makeSegments 14 = .ok (.iload_n 2, 1) := by decide +kernel
theorem dX4_makeSegments_15 : decode cX4_makeSegments 15 = .ok (.invokevirtual 78, 3) := by decide +kernel
theorem dX4_makeSegments_18 : decode cX4_makeSegments 18 = .ok (.istore_n 3, 1) := by decide +kernel
theorem dX4_makeSegments_19 : decode cX4_makeSegments 19 = .ok (.aload_n 0, 1) := by decide +kernel
theorem dX4_makeSegments_20 : decode cX4_makeSegments 20 = .ok (.iload_n 2, 1) := by decide +kernel
theorem dX4_makeSegments_21 : decode cX4_makeSegments 21 = .ok (.invokevirtual 87, 3) := by decide +kernel
theorem dX4_makeSegments_24 : decode cX4_makeSegments 24 = .ok (.iconst 3, 1) := by decide +kernel
theorem dX4_makeSegments_25 : decode cX4_makeSegments 25 = .ok (.if_icmp .ne 21, 3) := by decide +kernel
theorem dX4_makeSegments_28 : decode cX4_makeSegments 28 = .ok (.iload_n 1, 1) := by decide +kernel
theorem dX4_makeSegments_29 : decode cX4_makeSegments 29 = .ok (.ifCond .ne 17, 3) := by decide +kernel
theorem dX4_makeSegments_32 : decode cX4_makeSegments 32 = .ok (.aload_n 0, 1) := by decide +kernel
theorem dX4_makeSegments_33 : decode cX4_makeSegments 33 = .ok (.iload_n 2, 1) := by decide +kernel
theorem dX4_makeSegments_34 : decode cX4_makeSegments 34 = .ok (.iload_n 3, 1) := by decide +kernel
theorem dX4_makeSegments_35 : decode cX4_makeSegments 35 = .ok (.invokestatic 81, 3) := by decide +kernel
theorem dX4_makeSegments_38 : decode cX4_makeSegments 38 = .ok (.iload_n 3, 1) := by decide +kernel
theorem dX4_makeSegments_39 : decode cX4_makeSegments 39 = .ok (.invokestatic 84, 3) := by decide +kernel
theorem dX4_makeSegments_42 : decode cX4_makeSegments 42 = .ok (.iload_n 3, 1) := by decide +kernel
theorem dX4_makeSegments_43 : decode cX4_makeSegments 43 = .ok (.invokevirtual 93, 3) := by decide +kernel
theorem dX4_makeSegments_46 : decode cX4_makeSegments 46 = .ok (.iconst (-1), 1) := by decide +kernel
theorem dX4_makeSegments_47 : decode cX4_makeSegments 47 = .ok (.istore 4, 2) := by decide +kernel
theorem dX4_makeSegments_49 : decode cX4_makeSegments 49 = .ok (.iconst 0, 1) := by decide +kernel
theorem dX4_makeSegments_50 : decode cX4_makeSegments 50 = .ok (.istore 5, 2) := by decide +kernel
theorem dX4_makeSegments_52 : decode cX4_makeSegments 52 = .ok (.iload 5, 2) := by decide +kernel
theorem dX4_makeSegments_54 : decode cX4_makeSegments 54 = .ok (.bipush 20, 2) := by decide +kernel
theorem dX4_makeSegments_56 : decode cX4_makeSegments 56 = .ok (.if_icmp .ge 59, 3) := by decide +kernel
theorem dX4_makeSegments_59 : decode cX4_makeSegments 59 = .ok (.aload_n 0, 1) := by decide +kernel
theorem dX4_makeSegments_60 : decode cX4_makeSegments 60 = .ok (.iload_n 2, 1) := by decide +kernel
theorem dX4_makeSegments_61 : decode cX4_makeSegments 61 = .ok (.invokevirtual 87, 3) := by decide +kernel
theorem dX4_makeSegments_64 : decode cX4_makeSegments 64 = .ok (.iconst 3, 1) := by decide +kernel
theorem dX4_makeSegments_65 : decode cX4_makeSegments 65 = .ok (.if_icmp .ne 50, 3) := by decide +kernel
theorem dX4_makeSegments_68 : decode cX4_makeSegments 68 = .ok (.iload_n 1, 1) := by decide +kernel
theorem dX4_makeSegments_69 : decode cX4_makeSegments 69 = .ok (.ifCond .eq 46, 3) := by decide +kernel
theorem dX4_makeSegments_72 : decode cX4_makeSegments 72 = .ok (.iload_n 3, 1) := by decide +kernel
theorem dX4_makeSegments_73 : decode cX4_makeSegments 73 = .ok (.iload 5, 2) := by decide +kernel
theorem dX4_makeSegments_75 : decode cX4_makeSegments 75 = .ok (.ishr, 1) := by decide +kernel
theorem dX4_makeSegments_76 : decode cX4_makeSegments 76 = .ok (.iconst 1, 1) := by decide +kernel
theorem dX4_makeSegments_77 : decode cX4_makeSegments 77 = .ok (.iand, 1) := by decide +kernel
theorem dX4_makeSegments_78 : decode cX4_makeSegments 78 = .ok (.iconst 1, 1) := by decide +kernel
theorem dX4_makeSegments_79 : decode cX4_makeSegments 79 = .ok (.if_icmp .ne 30, 3) := by decide +kernel
theorem dX4_makeSegments_82 : decode cX4_makeSegments 82 = .ok (.iload 4, 2) := by decide +kernel
theorem dX4_makeSegments_84 : decode cX4_makeSegments 84 = .ok (.ifCond .lt 21, 3) := by decide +kernel
theorem dX4_makeSegments_87 : decode cX4_makeSegments 87 = .ok (.aload_n 0, 1) := by decide +kernel
theorem dX4_makeSegments_88 : decode cX4_makeSegments 88 = .ok (.iload_n 2, 1) := by decide +kernel
theorem dX4_makeSegments_89 : decode cX4_makeSegments 89 = .ok (.iload 4, 2) := by decide +kernel
theorem dX4_makeSegments_91 : decode cX4_makeSegments 91 = .ok (.iload 5, 2) := by decide +kernel
theorem dX4_makeSegments_93 : decode cX4_makeSegments 93 = .ok (.iconst 1, 1) := by decide +kernel
theorem dX4_makeSegments_94 : decode cX4_makeSegments 94 = .ok (.iload 4, 2) := by decide +kernel
theorem dX4_makeSegments_96 : decode cX4_makeSegments 96 = .ok (.ishl, 1) := by decide +kernel
theorem dX4_makeSegments_97 : decode cX4_makeSegments 97 = .ok (.iconst 1, 1) := by decide +kernel
theorem dX4_makeSegments_98 : decode cX4_makeSegments 98 = .ok (.iload 5, 2) := by decide +kernel
theorem dX4_makeSegments_100 : decode cX4_makeSegments 100 = .ok (.ishl, 1) := by decide +kernel
theorem dX4_makeSegments_101 : decode cX4_makeSegments 101 = .ok (.ior, 1) := by decide +kernel
theorem dX4_makeSegments_102 : decode cX4_makeSegments 102 = .ok (.invokevirtual 93, 3) := by decide +kernel
theorem dX4_makeSegments_105 : decode cX4_makeSegments 105 = .ok (.iload 5, 2) := by decide +kernel
theorem dX4_makeSegments_107 : decode cX4_makeSegments 107 = .ok (.istore 4, 2) := by decide +kernel
theorem dX4_makeSegments_109 : decode cX4_makeSegments 109 = .ok (.iinc 5 1, 3) := by decide +kernel
theorem dX4_makeSegments_112 : decode cX4_makeSegments 112 = .ok (.goto (-60), 3) := by decide +kernel
theorem dX4_makeSegments_115 : decode cX4_makeSegments 115 = .ok (.iinc 2 1, 3) := by decide +kernel
theorem dX4_makeSegments_118 : decode cX4_makeSegments 118 = .ok (.goto (-111), 3) := by decide +kernel
theorem dX4_makeSegments_121 : decode cX4_makeSegments 121 = .ok (.return_, 1) := by decide +kernel
theorem dX4_touching_0 : decode cX4_touching 0 = .ok (.aload_n 0, 1) := by decide +kernel
theorem dX4_touching_1 : decode cX4_touching 1 = .ok (.getfield 13, 3) := by decide +kernel
theorem dX4_touching_4 : decode cX4_touching 4 = .ok (.iload_n 1, 1) := by decide +kernel
theorem dX4_touching_5 : decode cX4_touching 5 = .ok (.iaload, 1) := by decide +kernel
theorem dX4_touching_6 : decode cX4_touching 6 = .ok (.iload_n 3, 1) := by decide +kernel
theorem dX4_touching_7 : decode cX4_touching 7 = .ok (.if_icmp .ne 21, 3) := by decide +kernel
theorem dX4_touching_10 : decode cX4_touching 10 = .ok (.aload_n 0, 1) := by decide +kernel
theorem dX4_touching_11 : decode cX4_touching 11 = .ok (.getfield 22, 3) := by decide +kernel
theorem dX4_touching_14 : decode cX4_touching 14 = .ok (.iload_n 1, 1) := by decide +kernel
theorem dX4_touching_15 : decode cX4_touching 15 = .ok (.iaload, 1) := by decide +kernel
theorem dX4_touching_16 : decode cX4_touching 16 = .ok (.iload_n 2, 1) := by decide +kernel
theorem dX4_touching_17 : decode cX4_touching 17 = .ok (.ishr, 1) := by decide +kernel
theorem dX4_touching_18 : decode cX4_touching 18 = .ok (.iconst 1, 1) := by decide +kernel
theorem dX4_touching_19 : decode cX4_touching 19 = .ok (.iand, 1) := by decide +kernel
theorem dX4_touching_20 : decode cX4_touching 20 = .ok (.iconst 1, 1) := by decide +kernel
theorem dX4_touching_21 : decode cX4_touching 21 = .ok (.if_icmp .ne 7, 3) := by decide +kernel
theorem dX4_touching_24 : decode cX4_touching 24 = .ok (.iconst 1, 1) := by decide +kernel
theorem dX4_touching_25 : decode cX4_touching 25 = .ok (.goto 4, 3) := by decide +kernel
theorem dX4_touching_28 : decode cX4_touching 28 = .ok (.iconst 0, 1) := by decide +kernel
theorem dX4_touching_29 : decode cX4_touching 29 = .ok (.ireturn, 1) := by decide +kernel
theorem dX4_study_0 : decode cX4_study 0 = .ok (.aload_n 0, 1) := by decide +kernel
theorem dX4_study_1 : decode cX4_study 1 = .ok (.iload_n 1, 1) := by decide +kernel
theorem dX4_study_2 : decode cX4_study 2 = .ok (.invokevirtual 97, 3) := by decide +kernel
theorem dX4_study_5 : decode cX4_study 5 = .ok (.iconst 0, 1) := by decide +kernel
theorem dX4_study_6 : decode cX4_study 6 = .ok (.istore_n 2, 1) := by decide +kernel
theorem dX4_study_7 : decode cX4_study 7 = .ok (.iconst 0, 1) := by decide +kernel
theorem dX4_study_8 : decode cX4_study 8 = .ok (.istore_n 3, 1) := by decide +kernel
theorem dX4_study_9 : decode cX4_study 9 = .ok (.iload_n 3, 1) := by decide +kernel
theorem dX4_study_10 : decode cX4_study 10 = .ok (.aload_n 0, 1) := by decide +kernel
theorem dX4_study_11 : decode cX4_study 11 = .ok (.getfield 90, 3) := by decide +kernel
theorem dX4_study_14 : decode cX4_study 14 = .ok (.if_icmp .ge 172, 3) := by decide +kernel
theorem dX4_study_17 : decode cX4_study 17 = .ok (.aload_n 0, 1) := by decide +kernel
theorem dX4_study_18 : decode cX4_study 18 = .ok (.getfield 25, 3) := by decide +kernel
theorem dX4_study_21 : decode cX4_study 21 = .ok (.iload_n 3, 1) := by decide +kernel
theorem dX4_study_22 : decode cX4_study 22 = .ok (.lconst 0, 1) := by decide +kernel
theorem dX4_study_23 : decode cX4_study 23 = .ok (.lastore, 1) := by decide +kernel
theorem dX4_study_24 : decode cX4_study 24 = .ok (.iconst 0, 1) := by decide +kernel
theorem dX4_study_25 : decode cX4_study 25 = .ok (.istore 4, 2) := by decide +kernel
theorem dX4_study_27 : decode cX4_study 27 = .ok (.iload 4, 2) := by decide +kernel
theorem dX4_study_29 : decode cX4_study 29 = .ok (.aload_n 0, 1) := by decide +kernel
theorem dX4_study_30 : decode cX4_study 30 = .ok (.getfield 90, 3) := by decide +kernel
theorem dX4_study_33 : decode cX4_study 33 = .ok (.if_icmp .ge 147, 3) := by decide +kernel
theorem dX4_study_36 : decode cX4_study 36 = .ok (.iconst 0, 1) := by decide +kernel
theorem dX4_study_37 : decode cX4_study 37 = .ok (.istore 5, 2) := by decide +kernel
theorem dX4_study_39 : decode cX4_study 39 = .ok (.iconst 0, 1) := by decide +kernel
theorem dX4_study_40 : decode cX4_study 40 = .ok (.istore 6, 2) := by decide +kernel
theorem dX4_study_42 : decode cX4_study 42 = .ok (.iload 6, 2) := by decide +kernel
theorem dX4_study_44 : decode cX4_study 44 = .ok (.bipush 20, 2) := by decide +kernel
theorem dX4_study_46 : decode cX4_study 46 = .ok (.if_icmp .ge 84, 3) := by decide +kernel
theorem dX4_study_49 : decode cX4_study 49 = .ok (.aload_n 0, 1) := by decide +kernel
theorem dX4_study_50 : decode cX4_study 50 = .ok (.getfield 7, 3) := by decide +kernel
theorem dX4_study_53 : decode cX4_study 53 = .ok (.iload 6, 2) := by decide +kernel
theorem dX4_study_55 : decode cX4_study 55 = .ok (.iaload, 1) := by decide +kernel
theorem dX4_study_56 : decode cX4_study 56 = .ok (.istore 7, 2) := by decide +kernel
theorem dX4_study_58 : decode cX4_study 58 = .ok (.aload_n 0, 1) := by decide +kernel
theorem dX4_study_59 : decode cX4_study 59 = .ok (.getfield 7, 3) := by decide +kernel
theorem dX4_study_62 : decode cX4_study 62 = .ok (.bipush 20, 2) := by decide +kernel
theorem dX4_study_64 : decode cX4_study 64 = .ok (.iload 6, 2) := by decide +kernel
theorem dX4_study_66 : decode cX4_study 66 = .ok (.iadd, 1) := by decide +kernel
theorem dX4_study_67 : decode cX4_study 67 = .ok (.iaload, 1) := by decide +kernel
theorem dX4_study_68 : decode cX4_study 68 = .ok (.istore 8, 2) := by decide +kernel
theorem dX4_study_70 : decode cX4_study 70 = .ok (.iload 5, 2) := by decide +kernel
theorem dX4_study_72 : decode cX4_study 72 = .ok (.ifCond .ne 45, 3) := by decide +kernel
theorem dX4_study_75 : decode cX4_study 75 = .ok (.iload 7, 2) := by decide +kernel
theorem dX4_study_77 : decode cX4_study 77 = .ok (.ifCond .le 44, 3) := by decide +kernel
theorem dX4_study_80 : decode cX4_study 80 = .ok (.iload 8, 2) := by decide +kernel
theorem dX4_study_82 : decode cX4_study 82 = .ok (.ifCond .le 39, 3) := by decide +kernel
theorem dX4_study_85 : decode cX4_study 85 = .ok (.iload 7, 2) := by decide +kernel
theorem dX4_study_87 : decode cX4_study 87 = .ok (.iload 8, 2) := by decide +kernel
theorem dX4_study_89 : decode cX4_study 89 = .ok (.if_icmp .eq 32, 3) := by decide +kernel
theorem dX4_study_92 : decode cX4_study 92 = .ok (.aload_n 0, 1) := by decide +kernel
theorem dX4_study_93 : decode cX4_study 93 = .ok (.iload_n 3, 1) := by decide +kernel
theorem dX4_study_94 : decode cX4_study 94 = .ok (.iload 6, 2) := by decide +kernel
theorem dX4_study_96 : decode cX4_study 96 = .ok (.iload 7, 2) := by decide +kernel
theorem dX4_study_98 : decode cX4_study 98 = .ok (.invokevirtual 101, 3) := by decide +kernel
theorem dX4_study_101 : decode cX4_study 101 = .ok (.ifCond .eq 20, 3) := by decide +kernel
theorem dX4_study_104 : decode cX4_study 104 = .ok (.aload_n 0, 1) := by decide +kernel
theorem dX4_study_105 : decode cX4_study 105 = .ok (.iload 4, 2) := by decide +kernel
theorem dX4_study_107 : decode cX4_study 107 = .ok (.iload 6, 2) := by decide +kernel
theorem dX4_study_109 : decode cX4_study 109 = .ok (.iload 8, 2) := by decide +kernel
theorem dX4_study_111 : decode cX4_study 111 = .ok (.invokevirtual 101, 3) := by decide +kernel
theorem dX4_study_114 : decode cX4_study 114 = .ok (.ifCond .eq 7, 3) := by decide +kernel
theorem dX4_study_117 : decode cX4_study 117 = .ok (.iconst 1, 1) := by decide +kernel
theorem dX4_study_118 : decode cX4_study 118 = .ok (.goto 4, 3) := by decide +kernel
theorem dX4_study_121 : decode cX4_study 121 = .ok (.iconst 0, 1) := by decide +kernel
theorem dX4_study_122 : decode cX4_study 122 = .ok (.istore 5, 2) := by decide +kernel
theorem dX4_study_124 : decode cX4_study 124 = .ok (.iinc 6 1, 3) := by decide +kernel
theorem dX4_study_127 : decode cX4_study 127 = .ok (.goto (-85), 3) := by decide +kernel
theorem dX4_study_130 : decode cX4_study 130 = .ok (.aload_n 0, 1) := by decide +kernel
theorem dX4_study_131 : decode cX4_study 131 = .ok (.getfield 25, 3) := by decide +kernel
theorem dX4_study_134 : decode cX4_study 134 = .ok (.iload_n 3, 1) := by decide +kernel
