theorem dX0_withCat_0 : decode cX0_withCat 0 = .ok (.iconst 0, 1) := by decide +kernel
theorem dX0_withCat_1 : decode cX0_withCat 1 = .ok (.istore 4, 2) := by decide +kernel
theorem dX0_withCat_3 : decode cX0_withCat 3 = .ok (.aload_n 0, 1) := by decide +kernel
theorem dX0_withCat_4 : decode cX0_withCat 4 = .ok (.iload_n 1, 1) := by decide +kernel
theorem dX0_withCat_5 : decode cX0_withCat 5 = .ok (.invokevirtual 9, 3) := by decide +kernel
theorem dX0_withCat_8 : decode cX0_withCat 8 = .ok (.iload_n 2, 1) := by decide +kernel
theorem dX0_withCat_9 : decode cX0_withCat 9 = .ok (.iand, 1) := by decide +kernel
theorem dX0_withCat_10 : decode cX0_withCat 10 = .ok (.ifCond .eq 15, 3) := by decide +kernel
theorem dX0_withCat_13 : decode cX0_withCat 13 = .ok (.iload 4, 2) := by decide +kernel
theorem dX0_withCat_15 : decode cX0_withCat 15 = .ok (.bipush 16, 2) := by decide +kernel
theorem dX0_withCat_17 : decode cX0_withCat 17 = .ok (.iload_n 3, 1) := by decide +kernel
theorem dX0_withCat_18 : decode cX0_withCat 18 = .ok (.isub, 1) := by decide +kernel
theorem dX0_withCat_19 : decode cX0_withCat 19 = .ok (.bipush 8, 2) := by decide +kernel
theorem dX0_withCat_21 : decode cX0_withCat 21 = .ok (.imul, 1) := by decide +kernel
theorem dX0_withCat_22 : decode cX0_withCat 22 = .ok (.iadd, 1) := by decide +kernel
theorem dX0_withCat_23 : decode cX0_withCat 23 = .ok (.istore 4, 2) := by decide +kernel
theorem dX0_withCat_25 : decode cX0_withCat 25 = .ok (.iconst 0, 1) := by decide +kernel
theorem dX0_withCat_26 : decode cX0_withCat 26 = .ok (.istore 5, 2) := by decide +kernel
theorem dX0_withCat_28 : decode cX0_withCat 28 = .ok (.iload 5, 2) := by decide +kernel
theorem dX0_withCat_30 : decode cX0_withCat 30 = .ok (.bipush 8, 2) := by decide +kernel
theorem dX0_withCat_32 : decode cX0_withCat 32 = .ok (.if_icmp .ge 30, 3) := by decide +kernel
theorem dX0_withCat_35 : decode cX0_withCat 35 = .ok (.aload_n 0, 1) := by decide +kernel
theorem dX0_withCat_36 : decode cX0_withCat 36 = .ok (.iload_n 1, 1) := by decide +kernel
theorem dX0_withCat_37 : decode cX0_withCat 37 = .ok (.iconst 1, 1) := by decide +kernel
theorem dX0_withCat_38 : decode cX0_withCat 38 = .ok (.iload 5, 2) := by decide +kernel
theorem dX0_withCat_40 : decode cX0_withCat 40 = .ok (.ishl, 1) := by decide +kernel
theorem dX0_withCat_41 : decode cX0_withCat 41 = .ok (.ixor, 1) := by decide +kernel
theorem dX0_withCat_42 : decode cX0_withCat 42 = .ok (.invokevirtual 9, 3) := by decide +kernel
theorem dX0_withCat_45 : decode cX0_withCat 45 = .ok (.iload_n 2, 1) := by decide +kernel
theorem dX0_withCat_46 : decode cX0_withCat 46 = .ok (.iand, 1) := by decide +kernel
theorem dX0_withCat_47 : decode cX0_withCat 47 = .ok (.ifCond .eq 9, 3) := by decide +kernel
theorem dX0_withCat_50 : decode cX0_withCat 50 = .ok (.iload 4, 2) := by decide +kernel
theorem dX0_withCat_52 : decode cX0_withCat 52 = .ok (.iload_n 3, 1) := by decide +kernel
theorem dX0_withCat_53 : decode cX0_withCat 53 = .ok (.iadd, 1) := by decide +kernel
theorem dX0_withCat_54 : decode cX0_withCat 54 = .ok (.istore 4, 2) := by decide +kernel
theorem dX0_withCat_56 : decode cX0_withCat 56 = .ok (.iinc 5 1, 3) := by decide +kernel
theorem dX0_withCat_59 : decode cX0_withCat 59 = .ok (.goto (-31), 3) := by decide +kernel
theorem dX0_withCat_62 : decode cX0_withCat 62 = .ok (.iload 4, 2) := by decide +kernel
theorem dX0_withCat_64 : decode cX0_withCat 64 = .ok (.ireturn, 1) := by decide +kernel
theorem dX0_lowest_0 : decode cX0_lowest 0 = .ok (.iload_n 2, 1) := by decide +kernel
theorem dX0_lowest_1 : decode cX0_lowest 1 = .ok (.istore_n 3, 1) := by decide +kernel
theorem dX0_lowest_2 : decode cX0_lowest 2 = .ok (.iload_n 1, 1) := by decide +kernel
theorem dX0_lowest_3 : decode cX0_lowest 3 = .ok (.istore 4, 2) := by decide +kernel
theorem dX0_lowest_5 : decode cX0_lowest 5 = .ok (.iconst 0, 1) := by decide +kernel
theorem dX0_lowest_6 : decode cX0_lowest 6 = .ok (.istore 5, 2) := by decide +kernel
theorem dX0_lowest_8 : decode cX0_lowest 8 = .ok (.iload 5, 2) := by decide +kernel
theorem dX0_lowest_10 : decode cX0_lowest 10 = .ok (.sipush 128, 3) := by decide +kernel
theorem dX0_lowest_13 : decode cX0_lowest 13 = .ok (.if_icmp .ge 27, 3) := by decide +kernel
theorem dX0_lowest_16 : decode cX0_lowest 16 = .ok (.iload 4, 2) := by decide +kernel
theorem dX0_lowest_18 : decode cX0_lowest 18 = .ok (.ifCond .eq 22, 3) := by decide +kernel
theorem dX0_lowest_21 : decode cX0_lowest 21 = .ok (.iload_n 3, 1) := by decide +kernel
theorem dX0_lowest_22 : decode cX0_lowest 22 = .ok (.iload 4, 2) := by decide +kernel
theorem dX0_lowest_24 : decode cX0_lowest 24 = .ok (.irem, 1) := by decide +kernel
theorem dX0_lowest_25 : decode cX0_lowest 25 = .ok (.istore 6, 2) := by decide +kernel
theorem dX0_lowest_27 : decode cX0_lowest 27 = .ok (.iload 4, 2) := by decide +kernel
theorem dX0_lowest_29 : decode cX0_lowest 29 = .ok (.istore_n 3, 1) := by decide +kernel
theorem dX0_lowest_30 : decode cX0_lowest 30 = .ok (.iload 6, 2) := by decide +kernel
theorem dX0_lowest_32 : decode cX0_lowest 32 = .ok (.istore 4, 2) := by decide +kernel
theorem dX0_lowest_34 : decode cX0_lowest 34 = .ok (.iinc 5 1, 3) := by decide +kernel
theorem dX0_lowest_37 : decode cX0_lowest 37 = .ok (.goto (-29), 3) := by decide +kernel
theorem dX0_lowest_40 : decode cX0_lowest 40 = .ok (.iload_n 3, 1) := by decide +kernel
theorem dX0_lowest_41 : decode cX0_lowest 41 = .ok (.ifCond .ne 7, 3) := by decide +kernel
theorem dX0_lowest_44 : decode cX0_lowest 44 = .ok (.iload_n 0, 1) := by decide +kernel
theorem dX0_lowest_45 : decode cX0_lowest 45 = .ok (.goto 6, 3) := by decide +kernel
theorem dX0_lowest_48 : decode cX0_lowest 48 = .ok (.iload_n 0, 1) := by decide +kernel
theorem dX0_lowest_49 : decode cX0_lowest 49 = .ok (.iload_n 3, 1) := by decide +kernel
theorem dX0_lowest_50 : decode cX0_lowest 50 = .ok (.idiv, 1) := by decide +kernel
theorem dX0_lowest_51 : decode cX0_lowest 51 = .ok (.ireturn, 1) := by decide +kernel
theorem dX1_init_0 : decode cX1_init 0 = .ok (.aload_n 0, 1) := by decide +kernel
theorem dX1_init_1 : decode cX1_init 1 = .ok (.invokespecial 3, 3) := by decide +kernel
theorem dX1_init_4 : decode cX1_init 4 = .ok (.aload_n 0, 1) := by decide +kernel
theorem dX1_init_5 : decode cX1_init 5 = .ok (.bipush 12, 2) := by decide +kernel
theorem dX1_init_7 : decode cX1_init 7 = .ok (.newarray .int, 2) := by decide +kernel
theorem dX1_init_9 : decode cX1_init 9 = .ok (.putfield 9, 3) := by decide +kernel
theorem dX1_init_12 : decode cX1_init 12 = .ok (.aload_n 0, 1) := by decide +kernel
theorem dX1_init_13 : decode cX1_init 13 = .ok (.bipush 12, 2) := by decide +kernel
theorem dX1_init_15 : decode cX1_init 15 = .ok (.newarray .int, 2) := by decide +kernel
theorem dX1_init_17 : decode cX1_init 17 = .ok (.putfield 15, 3) := by decide +kernel
theorem dX1_init_20 : decode cX1_init 20 = .ok (.return_, 1) := by decide +kernel
theorem dX1_bigOf_0 : decode cX1_bigOf 0 = .ok (.iload_n 1, 1) := by decide +kernel
theorem dX1_bigOf_1 : decode cX1_bigOf 1 = .ok (.ifCond .lt 18, 3) := by decide +kernel
theorem dX1_bigOf_4 : decode cX1_bigOf 4 = .ok (.iload_n 1, 1) := by decide +kernel
theorem dX1_bigOf_5 : decode cX1_bigOf 5 = .ok (.bipush 12, 2) := by decide +kernel
theorem dX1_bigOf_7 : decode cX1_bigOf 7 = .ok (.if_icmp .ge 12, 3) := by decide +kernel
theorem dX1_bigOf_10 : decode cX1_bigOf 10 = .ok (.aload_n 0, 1) := by decide +kernel
theorem dX1_bigOf_11 : decode cX1_bigOf 11 = .ok (.getfield 9, 3) := by decide +kernel
theorem dX1_bigOf_14 : decode cX1_bigOf 14 = .ok (.iload_n 1, 1) := by decide +kernel
theorem dX1_bigOf_15 : decode cX1_bigOf 15 = .ok (.iaload, 1) := by decide +kernel
theorem dX1_bigOf_16 : decode cX1_bigOf 16 = .ok (.goto 4, 3) := by decide +kernel
theorem dX1_bigOf_19 : decode cX1_bigOf 19 = .ok (.iconst 0, 1) := by decide +kernel
theorem dX1_bigOf_20 : decode cX1_bigOf 20 = .ok (.ireturn, 1) := by decide +kernel
theorem dX1_smallOf_0 : decode cX1_smallOf 0 = .ok (.iload_n 1, 1) := by decide +kernel
theorem dX1_smallOf_1 : decode cX1_smallOf 1 = .ok (.ifCond .lt 18, 3) := by decide +kernel
theorem dX1_smallOf_4 : decode cX1_smallOf 4 = .ok (.iload_n 1, 1) := by decide +kernel
theorem dX1_smallOf_5 : decode cX1_smallOf 5 = .ok (.bipush 12, 2) := by decide +kernel
theorem dX1_smallOf_7 : decode cX1_smallOf 7 = .ok (.if_icmp .ge 12, 3) := by decide +kernel
theorem dX1_smallOf_10 : decode cX1_smallOf 10 = .ok (.aload_n 0, 1) := by decide +kernel
theorem dX1_smallOf_11 : decode cX1_smallOf 11 = .ok (.getfield 15, 3) := by decide +kernel
theorem dX1_smallOf_14 : decode cX1_smallOf 14 = .ok (.iload_n 1, 1) := by decide +kernel
theorem dX1_smallOf_15 : decode cX1_smallOf 15 = .ok (.iaload, 1) := by decide +kernel
theorem dX1_smallOf_16 : decode cX1_smallOf 16 = .ok (.goto 4, 3) := by decide +kernel
theorem dX1_smallOf_19 : decode cX1_smallOf 19 = .ok (.iconst 0, 1) := by decide +kernel
theorem dX1_smallOf_20 : decode cX1_smallOf 20 = .ok (.ireturn, 1) := by decide +kernel
theorem dX1_laidBy_0 : decode cX1_laidBy 0 = .ok (.iconst 0, 1) := by decide +kernel
theorem dX1_laidBy_1 : decode cX1_laidBy 1 = .ok (.istore_n 2, 1) := by decide +kernel
theorem dX1_laidBy_2 : decode cX1_laidBy 2 = .ok (.iconst 0, 1) := by decide +kernel
theorem dX1_laidBy_3 : decode cX1_laidBy 3 = .ok (.istore_n 3, 1) := by decide +kernel
theorem dX1_laidBy_4 : decode cX1_laidBy 4 = .ok (.iload_n 3, 1) := by decide +kernel
theorem dX1_laidBy_5 : decode cX1_laidBy 5 = .ok (.aload_n 0, 1) := by decide +kernel
theorem dX1_laidBy_6 : decode cX1_laidBy 6 = .ok (.invokevirtual 18, 3) := by decide +kernel
theorem dX1_laidBy_9 : decode cX1_laidBy 9 = .ok (.if_icmp .ge 32, 3) := by decide +kernel
theorem dX1_laidBy_12 : decode cX1_laidBy 12 = .ok (.iload_n 1, 1) := by decide +kernel
theorem dX1_laidBy_13 : decode cX1_laidBy 13 = .ok (.aload_n 0, 1) := by decide +kernel
theorem dX1_laidBy_14 : decode cX1_laidBy 14 = .ok (.iload_n 3, 1) := by decide +kernel
theorem dX1_laidBy_15 : decode cX1_laidBy 15 = .ok (.invokevirtual 22, 3) := by decide +kernel
theorem dX1_laidBy_18 : decode cX1_laidBy 18 = .ok (.ishr, 1) := by decide +kernel
theorem dX1_laidBy_19 : decode cX1_laidBy 19 = .ok (.iconst 1, 1) := by decide +kernel
theorem dX1_laidBy_20 : decode cX1_laidBy 20 = .ok (.iand, 1) := by decide +kernel
theorem dX1_laidBy_21 : decode cX1_laidBy 21 = .ok (.iconst 1, 1) := by decide +kernel
theorem dX1_laidBy_22 : decode cX1_laidBy 22 = .ok (.if_icmp .ne 13, 3) := by decide +kernel
theorem dX1_laidBy_25 : decode cX1_laidBy 25 = .ok (.iload_n 2, 1) := by decide +kernel
theorem dX1_laidBy_26 : decode cX1_laidBy 26 = .ok (.iconst 1, 1) := by decide +kernel
theorem dX1_laidBy_27 : decode cX1_laidBy 27 = .ok (.aload_n 0, 1) := by decide +kernel
theorem dX1_laidBy_28 : decode cX1_laidBy 28 = .ok (.iload_n 3, 1) := by decide +kernel
theorem dX1_laidBy_29 : decode cX1_laidBy 29 = .ok (.invokevirtual 26, 3) := by decide +kernel
theorem dX1_laidBy_32 : decode cX1_laidBy 32 = .ok (.ishl, 1) := by decide +kernel
theorem dX1_laidBy_33 : decode cX1_laidBy 33 = .ok (.ior, 1) := by decide +kernel
theorem dX1_laidBy_34 : decode cX1_laidBy 34 = .ok (.istore_n 2, 1) := by decide +kernel
theorem dX1_laidBy_35 : decode cX1_laidBy 35 = .ok (.iinc 3 1, 3) := by decide +kernel
theorem dX1_laidBy_38 : decode cX1_laidBy 38 = .ok (.goto (-34), 3) := by decide +kernel
theorem dX1_laidBy_41 : decode cX1_laidBy 41 = .ok (.iload_n 2, 1) := by decide +kernel
theorem dX1_laidBy_42 : decode cX1_laidBy 42 = .ok (.ireturn, 1) := by decide +kernel
theorem dX1_stateBehind_0 : decode cX1_stateBehind 0 = .ok (.iload_n 1, 1) := by decide +kernel
theorem dX1_stateBehind_1 : decode cX1_stateBehind 1 = .ok (.tableswitch 51 0 2 #[27, 39, 33], 27) := by decide +kernel
theorem dX1_stateBehind_28 : decode cX1_stateBehind 28 = .ok (.aload_n 0, 1) := by decide +kernel
theorem dX1_stateBehind_29 : decode cX1_stateBehind 29 = .ok (.iload_n 2, 1) := by decide +kernel
theorem dX1_stateBehind_30 : decode cX1_stateBehind 30 = .ok (.invokevirtual 29, 3) := by decide +kernel
theorem dX1_stateBehind_33 : decode cX1_stateBehind 33 = .ok (.ireturn, 1) := by decide +kernel
theorem dX1_stateBehind_34 : decode cX1_stateBehind 34 = .ok (.aload_n 0, 1) := by decide +kernel
theorem dX1_stateBehind_35 : decode cX1_stateBehind 35 = .ok (.iload_n 2, 1) := by decide +kernel
theorem dX1_stateBehind_36 : decode cX1_stateBehind 36 = .ok (.invokevirtual 32, 3) := by decide +kernel
theorem dX1_stateBehind_39 : decode cX1_stateBehind 39 = .ok (.ireturn, 1) := by decide +kernel
theorem dX1_stateBehind_40 : decode cX1_stateBehind 40 = .ok (.iload_n 2, 1) := by decide +kernel
theorem dX1_stateBehind_41 : decode cX1_stateBehind 41 = .ok (.bipush 59, 2) := by decide +kernel
theorem dX1_stateBehind_43 : decode cX1_stateBehind 43 = .ok (.if_icmp .ne 7, 3) := by decide +kernel
theorem dX1_stateBehind_46 : decode cX1_stateBehind 46 = .ok (.iconst 0, 1) := by decide +kernel
theorem dX1_stateBehind_47 : decode cX1_stateBehind 47 = .ok (.goto 4, 3) := by decide +kernel
theorem dX1_stateBehind_50 : decode cX1_stateBehind 50 = .ok (.iconst (-1), 1) := by decide +kernel
theorem dX1_stateBehind_51 : decode cX1_stateBehind 51 = .ok (.ireturn, 1) := by decide +kernel
theorem dX1_stateBehind_52 : decode cX1_stateBehind 52 = .ok (.iconst (-1), 1) := by decide +kernel
theorem dX1_stateBehind_53 : decode cX1_stateBehind 53 = .ok (.ireturn, 1) := by decide +kernel
theorem dX1_beginDust_0 : decode cX1_beginDust 0 = .ok (.aload_n 0, 1) := by decide +kernel
theorem dX1_beginDust_1 : decode cX1_beginDust 1 = .ok (.invokevirtual 18, 3) := by decide +kernel
theorem dX1_beginDust_4 : decode cX1_beginDust 4 = .ok (.bipush 12, 2) := by decide +kernel
theorem dX1_beginDust_6 : decode cX1_beginDust 6 = .ok (.if_icmp .ge 10, 3) := by decide +kernel
theorem dX1_beginDust_9 : decode cX1_beginDust 9 = .ok (.iload_n 1, 1) := by decide +kernel
theorem dX1_beginDust_10 : decode cX1_beginDust 10 = .ok (.invokestatic 35, 3) := by decide +kernel
theorem dX1_beginDust_13 : decode cX1_beginDust 13 = .ok (.ifCond .ne 5, 3) := by decide +kernel
theorem dX1_beginDust_16 : decode cX1_beginDust 16 = .ok (.iconst (-1), 1) := by decide +kernel
theorem dX1_beginDust_17 : decode cX1_beginDust 17 = .ok (.ireturn, 1) := by decide +kernel
theorem dX1_beginDust_18 : decode cX1_beginDust 18 = .ok (.aload_n 0, 1) := by decide +kernel
theorem dX1_beginDust_19 : decode cX1_beginDust 19 = .ok (.iload_n 1, 1) := by decide +kernel
theorem dX1_beginDust_20 : decode cX1_beginDust 20 = .ok (.bipush 65, 2) := by decide +kernel
theorem dX1_beginDust_22 : decode cX1_beginDust 22 = .ok (.isub, 1) := by decide +kernel
theorem dX1_beginDust_23 : decode cX1_beginDust 23 = .ok (.putfield 39, 3) := by decide +kernel
theorem dX1_beginDust_26 : decode cX1_beginDust 26 = .ok (.iconst 2, 1) := by decide +kernel
theorem dX1_beginDust_27 : decode cX1_beginDust 27 = .ok (.ireturn, 1) := by decide +kernel
theorem dX1_endDust_0 : decode cX1_endDust 0 = .ok (.aload_n 0, 1) := by decide +kernel
theorem dX1_endDust_1 : decode cX1_endDust 1 = .ok (.invokevirtual 18, 3) := by decide +kernel
theorem dX1_endDust_4 : decode cX1_endDust 4 = .ok (.istore_n 2, 1) := by decide +kernel
theorem dX1_endDust_5 : decode cX1_endDust 5 = .ok (.iload_n 1, 1) := by decide +kernel
theorem dX1_endDust_6 : decode cX1_endDust 6 = .ok (.invokestatic 43, 3) := by decide +kernel
theorem dX1_endDust_9 : decode cX1_endDust 9 = .ok (.ifCond .eq 13, 3) := by decide +kernel
theorem dX1_endDust_12 : decode cX1_endDust 12 = .ok (.iload_n 2, 1) := by decide +kernel
theorem dX1_endDust_13 : decode cX1_endDust 13 = .ok (.ifCond .lt 9, 3) := by decide +kernel
theorem dX1_endDust_16 : decode cX1_endDust 16 = .ok (.iload_n 2, 1) := by decide +kernel
theorem dX1_endDust_17 : decode cX1_endDust 17 = .ok (.bipush 12, 2) := by decide +kernel
theorem dX1_endDust_19 : decode cX1_endDust 19 = .ok (.if_icmp .lt 5, 3) := by decide +kernel
theorem dX1_endDust_22 : decode cX1_endDust 22 = .ok (.iconst (-1), 1) := by decide +kernel
theorem dX1_endDust_23 : decode cX1_endDust 23 = .ok (.ireturn, 1) := by decide +kernel
theorem dX1_endDust_24 : decode cX1_endDust 24 = .ok (.aload_n 0, 1) := by decide +kernel
theorem dX1_endDust_25 : decode cX1_endDust 25 = .ok (.getfield 9, 3) := by decide +kernel
theorem dX1_endDust_28 : decode cX1_endDust 28 = .ok (.iload_n 2, 1) := by decide +kernel
theorem dX1_endDust_29 : decode cX1_endDust 29 = .ok (.aload_n 0, 1) := by decide +kernel
theorem dX1_endDust_30 : decode cX1_endDust 30 = .ok (.getfield 39, 3) := by decide +kernel
theorem dX1_endDust_33 : decode cX1_endDust 33 = .ok (.iastore, 1) := by decide +kernel
theorem dX1_endDust_34 : decode cX1_endDust 34 = .ok (.aload_n 0, 1) := by decide +kernel
theorem dX1_endDust_35 : decode cX1_endDust 35 = .ok (.getfield 15, 3) := by decide +kernel
theorem dX1_endDust_38 : decode cX1_endDust 38 = .ok (.iload_n 2, 1) := by decide +kernel
theorem dX1_endDust_39 : decode cX1_endDust 39 = .ok (.iload_n 1, 1) := by decide +kernel
theorem dX1_endDust_40 : decode cX1_endDust 40 = .ok (.bipush 97, 2) := by decide +kernel
theorem dX1_endDust_42 : decode cX1_endDust 42 = .ok (.isub, 1) := by decide +kernel
theorem dX1_endDust_43 : decode cX1_endDust 43 = .ok (.iastore, 1) := by decide +kernel
theorem dX1_endDust_44 : decode cX1_endDust 44 = .ok (.aload_n 0, 1) := by decide +kernel
theorem dX1_endDust_45 : decode cX1_endDust 45 = .ok (.invokevirtual 46, 3) := by decide +kernel
theorem dX1_endDust_48 : decode cX1_endDust 48 = .ok (.iconst 1, 1) := by decide +kernel
theorem dX1_endDust_49 : decode cX1_endDust 49 = .ok (.ireturn, 1) := by decide +kernel
theorem dX2_init_0 : decode cX2_init 0 = .ok (.aload_n 0, 1) := by decide +kernel
theorem dX2_init_1 : decode cX2_init 1 = .ok (.invokespecial 3, 3) := by decide +kernel
theorem dX2_init_4 : decode cX2_init 4 = .ok (.aload_n 0, 1) := by decide +kernel
theorem dX2_init_5 : decode cX2_init 5 = .ok (.sipush 256, 3) := by decide +kernel
theorem dX2_init_8 : decode cX2_init 8 = .ok (.newarray .int, 2) := by decide +kernel
theorem dX2_init_10 : decode cX2_init 10 = .ok (.putfield 9, 3) := by decide +kernel
theorem dX2_init_13 : decode cX2_init 13 = .ok (.aload_n 0, 1) := by decide +kernel
theorem dX2_init_14 : decode cX2_init 14 = .ok (.sipush 256, 3) := by decide +kernel
theorem dX2_init_17 : decode cX2_init 17 = .ok (.newarray .int, 2) := by decide +kernel
theorem dX2_init_19 : decode cX2_init 19 = .ok (.putfield 15, 3) := by decide +kernel
theorem dX2_init_22 : decode cX2_init 22 = .ok (.aload_n 0, 1) := by decide +kernel
theorem dX2_init_23 : decode cX2_init 23 = .ok (.sipush 256, 3) := by decide +kernel
theorem dX2_init_26 : decode cX2_init 26 = .ok (.newarray .int, 2) := by decide +kernel
theorem dX2_init_28 : decode cX2_init 28 = .ok (.putfield 18, 3) := by decide +kernel
theorem dX2_init_31 : decode cX2_init 31 = .ok (.return_, 1) := by decide +kernel
theorem dX2_fill_0 : decode cX2_fill 0 = .ok (.iconst 0, 1) := by decide +kernel
theorem dX2_fill_1 : decode cX2_fill 1 = .ok (.istore_n 3, 1) := by decide +kernel
theorem dX2_fill_2 : decode cX2_fill 2 = .ok (.iload_n 3, 1) := by decide +kernel
theorem dX2_fill_3 : decode cX2_fill 3 = .ok (.sipush 256, 3) := by decide +kernel
theorem dX2_fill_6 : decode cX2_fill 6 = .ok (.if_icmp .ge 58, 3) := by decide +kernel
theorem dX2_fill_9 : decode cX2_fill 9 = .ok (.aload_n 0, 1) := by decide +kernel
theorem dX2_fill_10 : decode cX2_fill 10 = .ok (.getfield 9, 3) := by decide +kernel
theorem dX2_fill_13 : decode cX2_fill 13 = .ok (.iload_n 3, 1) := by decide +kernel
theorem dX2_fill_14 : decode cX2_fill 14 = .ok (.aload_n 1, 1) := by decide +kernel
theorem dX2_fill_15 : decode cX2_fill 15 = .ok (.iload_n 3, 1) := by decide +kernel
theorem dX2_fill_16 : decode cX2_fill 16 = .ok (.iconst 1, 1) := by decide +kernel
theorem dX2_fill_17 : decode cX2_fill 17 = .ok (.invokevirtual 21, 3) := by decide +kernel
theorem dX2_fill_20 : decode cX2_fill 20 = .ok (.iastore, 1) := by decide +kernel
theorem dX2_fill_21 : decode cX2_fill 21 = .ok (.aload_n 0, 1) := by decide +kernel
theorem dX2_fill_22 : decode cX2_fill 22 = .ok (.getfield 15, 3) := by decide +kernel
theorem dX2_fill_25 : decode cX2_fill 25 = .ok (.iload_n 3, 1) := by decide +kernel
theorem dX2_fill_26 : decode cX2_fill 26 = .ok (.aload_n 1, 1) := by decide +kernel
theorem dX2_fill_27 : decode cX2_fill 27 = .ok (.iload_n 3, 1) := by decide +kernel
theorem dX2_fill_28 : decode cX2_fill 28 = .ok (.iconst 0, 1) := by decide +kernel
theorem dX2_fill_29 : decode cX2_fill 29 = .ok (.invokevirtual 21, 3) := by decide +kernel
theorem dX2_fill_32 : decode cX2_fill 32 = .ok (.iastore, 1) := by decide +kernel
theorem dX2_fill_33 : decode cX2_fill 33 = .ok (.aload_n 0, 1) := by decide +kernel
theorem dX2_fill_34 : decode cX2_fill 34 = .ok (.getfield 18, 3) := by decide +kernel
theorem dX2_fill_37 : decode cX2_fill 37 = .ok (.iload_n 3, 1) := by decide +kernel
theorem dX2_fill_38 : decode cX2_fill 38 = .ok (.aload_n 2, 1) := by decide +kernel
theorem dX2_fill_39 : decode cX2_fill 39 = .ok (.aload_n 0, 1) := by decide +kernel
theorem dX2_fill_40 : decode cX2_fill 40 = .ok (.getfield 9, 3) := by decide +kernel
theorem dX2_fill_43 : decode cX2_fill 43 = .ok (.iload_n 3, 1) := by decide +kernel
theorem dX2_fill_44 : decode cX2_fill 44 = .ok (.iaload, 1) := by decide +kernel
theorem dX2_fill_45 : decode cX2_fill 45 = .ok (.aload_n 0, 1) := by decide +kernel
theorem dX2_fill_46 : decode cX2_fill 46 = .ok (.getfield 15, 3) := by decide +kernel
theorem dX2_fill_49 : decode cX2_fill 49 = .ok (.iload_n 3, 1) := by decide +kernel
theorem dX2_fill_50 : decode cX2_fill 50 = .ok (.iaload, 1) := by decide +kernel
theorem dX2_fill_51 : decode cX2_fill 51 = .ok (.iconst (-1), 1) := by decide +kernel
theorem dX2_fill_52 : decode cX2_fill 52 = .ok (.ixor, 1) := by decide +kernel
theorem dX2_fill_53 : decode cX2_fill 53 = .ok (.iand, 1) := by decide +kernel
theorem dX2_fill_54 : decode cX2_fill 54 = .ok (.invokevirtual 27, 3) := by decide +kernel
theorem dX2_fill_57 : decode cX2_fill 57 = .ok (.iastore, 1) := by decide +kernel
theorem dX2_fill_58 : decode cX2_fill 58 = .ok (.iinc 3 1, 3) := by decide +kernel
theorem dX2_fill_61 : decode cX2_fill 61 = .ok (.goto (-59), 3) := by decide +kernel
theorem dX2_fill_64 : decode cX2_fill 64 = .ok (.return_, 1) := by decide +kernel
theorem dX2_comesBy_0 : decode cX2_comesBy 0 = .ok (.aload_n 0, 1) := by decide +kernel
theorem dX2_comesBy_1 : decode cX2_comesBy 1 = .ok (.getfield 9, 3) := by decide +kernel
theorem dX2_comesBy_4 : decode cX2_comesBy 4 = .ok (.iload_n 1, 1) := by decide +kernel
theorem dX2_comesBy_5 : decode cX2_comesBy 5 = .ok (.sipush 255, 3) := by decide +kernel
theorem dX2_comesBy_8 : decode cX2_comesBy 8 = .ok (.iand, 1) := by decide +kernel
theorem dX2_comesBy_9 : decode cX2_comesBy 9 = .ok (.iaload, 1) := by decide +kernel
theorem dX2_comesBy_10 : decode cX2_comesBy 10 = .ok (.aload_n 0, 1) := by decide +kernel
theorem dX2_comesBy_11 : decode cX2_comesBy 11 = .ok (.getfield 15, 3) := by decide +kernel
theorem dX2_comesBy_14 : decode cX2_comesBy 14 = .ok (.iload_n 1, 1) := by decide +kernel
theorem dX2_comesBy_15 : decode cX2_comesBy 15 = .ok (.sipush 255, 3) := by decide +kernel
theorem dX2_comesBy_18 : decode cX2_comesBy 18 = .ok (.iand, 1) := by decide +kernel
theorem dX2_comesBy_19 : decode cX2_comesBy 19 = .ok (.iaload, 1) := by decide +kernel
theorem dX2_comesBy_20 : decode cX2_comesBy 20 = .ok (.iconst (-1), 1) := by decide +kernel
theorem dX2_comesBy_21 : decode cX2_comesBy 21 = .ok (.ixor, 1) := by decide +kernel
theorem dX2_comesBy_22 : decode cX2_comesBy 22 = .ok (.iand, 1) := by decide +kernel
theorem dX2_comesBy_23 : decode cX2_comesBy 23 = .ok (.ireturn, 1) := by decide +kernel
theorem dX2_disagreeBy_0 : decode cX2_disagreeBy 0 = .ok (.aload_n 0, 1) := by decide +kernel
theorem dX2_disagreeBy_1 : decode cX2_disagreeBy 1 = .ok (.getfield 9, 3) := by decide +kernel
theorem dX2_disagreeBy_4 : decode cX2_disagreeBy 4 = .ok (.iload_n 1, 1) := by decide +kernel
theorem dX2_disagreeBy_5 : decode cX2_disagreeBy 5 = .ok (.sipush 255, 3) := by decide +kernel
theorem dX2_disagreeBy_8 : decode cX2_disagreeBy 8 = .ok (.iand, 1) := by decide +kernel
theorem dX2_disagreeBy_9 : decode cX2_disagreeBy 9 = .ok (.iaload, 1) := by decide +kernel
theorem dX2_disagreeBy_10 : decode cX2_disagreeBy 10 = .ok (.aload_n 0, 1) := by decide +kernel
theorem dX2_disagreeBy_11 : decode cX2_disagreeBy 11 = .ok (.getfield 15, 3) := by decide +kernel
theorem dX2_disagreeBy_14 : decode cX2_disagreeBy 14 = .ok (.iload_n 1, 1) := by decide +kernel
theorem dX2_disagreeBy_15 : decode cX2_disagreeBy 15 = .ok (.sipush 255, 3) := by decide +kernel
theorem dX2_disagreeBy_18 : decode cX2_disagreeBy 18 = .ok (.iand, 1) := by decide +kernel
theorem dX2_disagreeBy_19 : decode cX2_disagreeBy 19 = .ok (.iaload, 1) := by decide +kernel
theorem dX2_disagreeBy_20 : decode cX2_disagreeBy 20 = .ok (.iand, 1) := by decide +kernel
theorem dX2_disagreeBy_21 : decode cX2_disagreeBy 21 = .ok (.ireturn, 1) := by decide +kernel
theorem dX2_weekBehind_0 : decode cX2_weekBehind 0 = .ok (.aload_n 0, 1) := by decide +kernel
theorem dX2_weekBehind_1 : decode cX2_weekBehind 1 = .ok (.getfield 18, 3) := by decide +kernel
theorem dX2_weekBehind_4 : decode cX2_weekBehind 4 = .ok (.iload_n 1, 1) := by decide +kernel
theorem dX2_weekBehind_5 : decode cX2_weekBehind 5 = .ok (.sipush 255, 3) := by decide +kernel
theorem dX2_weekBehind_8 : decode cX2_weekBehind 8 = .ok (.iand, 1) := by decide +kernel
theorem dX2_weekBehind_9 : decode cX2_weekBehind 9 = .ok (.iaload, 1) := by decide +kernel
theorem dX2_weekBehind_10 : decode cX2_weekBehind 10 = .ok (.ireturn, 1) := by decide +kernel
theorem dX3_init_0 : decode cX3_init 0 = .ok (.aload_n 0, 1) := by decide +kernel
theorem dX3_init_1 : decode cX3_init 1 = .ok (.invokespecial 3, 3) := by decide +kernel
theorem dX3_init_4 : decode cX3_init 4 = .ok (.aload_n 0, 1) := by decide +kernel
theorem dX3_init_5 : decode cX3_init 5 = .ok (.bipush 16, 2) := by decide +kernel
theorem dX3_init_7 : decode cX3_init 7 = .ok (.newarray .int, 2) := by decide +kernel
theorem dX3_init_9 : decode cX3_init 9 = .ok (.putfield 9, 3) := by decide +kernel
theorem dX3_init_12 : decode cX3_init 12 = .ok (.aload_n 0, 1) := by decide +kernel
theorem dX3_init_13 : decode cX3_init 13 = .ok (.bipush 16, 2) := by decide +kernel
theorem dX3_init_15 : decode cX3_init 15 = .ok (.newarray .boolean, 2) := by decide +kernel
theorem dX3_init_17 : decode cX3_init 17 = .ok (.putfield 15, 3) := by decide +kernel
theorem dX3_init_20 : decode cX3_init 20 = .ok (.aload_n 0, 1) := by decide +kernel
theorem dX3_init_21 : decode cX3_init 21 = .ok (.bipush 16, 2) := by decide +kernel
theorem dX3_init_23 : decode cX3_init 23 = .ok (.newarray .int, 2) := by decide +kernel
theorem dX3_init_25 : decode cX3_init 25 = .ok (.putfield 19, 3) := by decide +kernel
theorem dX3_init_28 : decode cX3_init 28 = .ok (.return_, 1) := by decide +kernel
theorem dX3_smallOf_0 : decode cX3_smallOf 0 = .ok (.iload_n 1, 1) := by decide +kernel
theorem dX3_smallOf_1 : decode cX3_smallOf 1 = .ok (.ifCond .lt 18, 3) := by decide +kernel
theorem dX3_smallOf_4 : decode cX3_smallOf 4 = .ok (.iload_n 1, 1) := by decide +kernel
theorem dX3_smallOf_5 : decode cX3_smallOf 5 = .ok (.bipush 16, 2) := by decide +kernel
theorem dX3_smallOf_7 : decode cX3_smallOf 7 = .ok (.if_icmp .ge 12, 3) := by decide +kernel
theorem dX3_smallOf_10 : decode cX3_smallOf 10 = .ok (.aload_n 0, 1) := by decide +kernel
theorem dX3_smallOf_11 : decode cX3_smallOf 11 = .ok (.getfield 9, 3) := by decide +kernel
theorem dX3_smallOf_14 : decode cX3_smallOf 14 = .ok (.iload_n 1, 1) := by decide +kernel
theorem dX3_smallOf_15 : decode cX3_smallOf 15 = .ok (.iaload, 1) := by decide +kernel
theorem dX3_smallOf_16 : decode cX3_smallOf 16 = .ok (.goto 4, 3) := by decide +kernel
theorem dX3_smallOf_19 : decode cX3_smallOf 19 = .ok (.iconst 0, 1) := by decide +kernel
theorem dX3_smallOf_20 : decode cX3_smallOf 20 = .ok (.ireturn, 1) := by decide +kernel
theorem dX3_isPlus_0 : decode cX3_isPlus 0 = .ok (.iload_n 1, 1) := by decide +kernel
theorem dX3_isPlus_1 : decode cX3_isPlus 1 = .ok (.ifCond .lt 22, 3) := by decide +kernel
theorem dX3_isPlus_4 : decode cX3_isPlus 4 = .ok (.iload_n 1, 1) := by decide +kernel
theorem dX3_isPlus_5 : decode cX3_isPlus 5 = .ok (.bipush 16, 2) := by decide +kernel
theorem dX3_isPlus_7 : decode cX3_isPlus 7 = .ok (.if_icmp .ge 16, 3) := by decide +kernel
theorem dX3_isPlus_10 : decode cX3_isPlus 10 = .ok (.aload_n 0, 1) := by decide +kernel
theorem dX3_isPlus_11 : decode cX3_isPlus 11 = .ok (.getfield 15, 3) := by decide +kernel
theorem dX3_isPlus_14 : decode cX3_isPlus 14 = .ok (.iload_n 1, 1) := by decide +kernel
theorem dX3_isPlus_15 : decode cX3_isPlus 15 = .ok (.baload, 1) := by decide +kernel
theorem dX3_isPlus_16 : decode cX3_isPlus 16 = .ok (.ifCond .eq 7, 3) := by decide +kernel
theorem dX3_isPlus_19 : decode cX3_isPlus 19 = .ok (.iconst 1, 1) := by decide +kernel
theorem dX3_isPlus_20 : decode cX3_isPlus 20 = .ok (.goto 4, 3) := by decide +kernel
theorem dX3_isPlus_23 : decode cX3_isPlus 23 = .ok (.iconst 0, 1) := by decide +kernel
theorem dX3_isPlus_24 : decode cX3_isPlus 24 = .ok (.ireturn, 1) := by decide +kernel
theorem dX3_bigOf_0 : decode cX3_bigOf 0 = .ok (.iload_n 1, 1) := by decide +kernel
theorem dX3_bigOf_1 : decode cX3_bigOf 1 = .ok (.ifCond .lt 18, 3) := by decide +kernel
theorem dX3_bigOf_4 : decode cX3_bigOf 4 = .ok (.iload_n 1, 1) := by decide +kernel
theorem dX3_bigOf_5 : decode cX3_bigOf 5 = .ok (.bipush 16, 2) := by decide +kernel
theorem dX3_bigOf_7 : decode cX3_bigOf 7 = .ok (.if_icmp .ge 12, 3) := by decide +kernel
theorem dX3_bigOf_10 : decode cX3_bigOf 10 = .ok (.aload_n 0, 1) := by decide +kernel
theorem dX3_bigOf_11 : decode cX3_bigOf 11 = .ok (.getfield 19, 3) := by decide +kernel
theorem dX3_bigOf_14 : decode cX3_bigOf 14 = .ok (.iload_n 1, 1) := by decide +kernel
theorem dX3_bigOf_15 : decode cX3_bigOf 15 = .ok (.iaload, 1) := by decide +kernel
theorem dX3_bigOf_16 : decode cX3_bigOf 16 = .ok (.goto 4, 3) := by decide +kernel
theorem dX3_bigOf_19 : decode cX3_bigOf 19 = .ok (.iconst 0, 1) := by decide +kernel
theorem dX3_bigOf_20 : decode cX3_bigOf 20 = .ok (.ireturn, 1) := by decide +kernel
theorem dX3_plusCount_0 : decode cX3_plusCount 0 = .ok (.iconst 0, 1) := by decide +kernel
theorem dX3_plusCount_1 : decode cX3_plusCount 1 = .ok (.istore_n 1, 1) := by decide +kernel
theorem dX3_plusCount_2 : decode cX3_plusCount 2 = .ok (.iconst 0, 1) := by decide +kernel
theorem dX3_plusCount_3 : decode cX3_plusCount 3 = .ok (.istore_n 2, 1) := by decide +kernel
theorem dX3_plusCount_4 : decode cX3_plusCount 4 = .ok (.iload_n 2, 1) := by decide +kernel
theorem dX3_plusCount_5 : decode cX3_plusCount 5 = .ok (.aload_n 0, 1) := by decide +kernel
theorem dX3_plusCount_6 : decode cX3_plusCount 6 = .ok (.invokevirtual 22, 3) := by decide +kernel
theorem dX3_plusCount_9 : decode cX3_plusCount 9 = .ok (.if_icmp .ge 20, 3) := by decide +kernel
theorem dX3_plusCount_12 : decode cX3_plusCount 12 = .ok (.aload_n 0, 1) := by decide +kernel
theorem dX3_plusCount_13 : decode cX3_plusCount 13 = .ok (.iload_n 2, 1) := by decide +kernel
theorem dX3_plusCount_14 : decode cX3_plusCount 14 = .ok (.invokevirtual 26, 3) := by decide +kernel
theorem dX3_plusCount_17 : decode cX3_plusCount 17 = .ok (.ifCond .eq 6, 3) := by decide +kernel
theorem dX3_plusCount_20 : decode cX3_plusCount 20 = .ok (.iinc 1 1, 3) := by decide +kernel
theorem dX3_plusCount_23 : decode cX3_plusCount 23 = .ok (.iinc 2 1, 3) := by decide +kernel
theorem dX3_plusCount_26 : decode cX3_plusCount 26 = .ok (.goto (-22), 3) := by decide +kernel
theorem dX3_plusCount_29 : decode cX3_plusCount 29 = .ok (.iload_n 1, 1) := by decide +kernel
theorem dX3_plusCount_30 : decode cX3_plusCount 30 = .ok (.ireturn, 1) := by decide +kernel
theorem dX3_standsFor_0 : decode cX3_standsFor 0 = .ok (.iconst 0, 1) := by decide +kernel
theorem dX3_standsFor_1 : decode cX3_standsFor 1 = .ok (.istore_n 2, 1) := by decide +kernel
theorem dX3_standsFor_2 : decode cX3_standsFor 2 = .ok (.iconst 0, 1) := by decide +kernel
theorem dX3_standsFor_3 : decode cX3_standsFor 3 = .ok (.istore_n 3, 1) := by decide +kernel
theorem dX3_standsFor_4 : decode cX3_standsFor 4 = .ok (.iload_n 3, 1) := by decide +kernel
theorem dX3_standsFor_5 : decode cX3_standsFor 5 = .ok (.aload_n 0, 1) := by decide +kernel
theorem dX3_standsFor_6 : decode cX3_standsFor 6 = .ok (.invokevirtual 22, 3) := by decide +kernel
theorem dX3_standsFor_9 : decode cX3_standsFor 9 = .ok (.if_icmp .ge 40, 3) := by decide +kernel
theorem dX3_standsFor_12 : decode cX3_standsFor 12 = .ok (.aload_n 0, 1) := by decide +kernel
theorem dX3_standsFor_13 : decode cX3_standsFor 13 = .ok (.iload_n 3, 1) := by decide +kernel
theorem dX3_standsFor_14 : decode cX3_standsFor 14 = .ok (.invokevirtual 26, 3) := by decide +kernel
theorem dX3_standsFor_17 : decode cX3_standsFor 17 = .ok (.ifCond .eq 26, 3) := by decide +kernel
theorem dX3_standsFor_20 : decode cX3_standsFor 20 = .ok (.aload_n 0, 1) := by decide +kernel
theorem dX3_standsFor_21 : decode cX3_standsFor 21 = .ok (.iload_n 3, 1) := by decide +kernel
theorem dX3_standsFor_22 : decode cX3_standsFor 22 = .ok (.invokevirtual 30, 3) := by decide +kernel
theorem dX3_standsFor_25 : decode cX3_standsFor 25 = .ok (.iload_n 1, 1) := by decide +kernel
theorem dX3_standsFor_26 : decode cX3_standsFor 26 = .ok (.ishr, 1) := by decide +kernel
theorem dX3_standsFor_27 : decode cX3_standsFor 27 = .ok (.iconst 1, 1) := by decide +kernel
theorem dX3_standsFor_28 : decode cX3_standsFor 28 = .ok (.iand, 1) := by decide +kernel
theorem dX3_standsFor_29 : decode cX3_standsFor 29 = .ok (.iconst 1, 1) := by decide +kernel
theorem dX3_standsFor_30 : decode cX3_standsFor 30 = .ok (.if_icmp .ne 13, 3) := by decide +kernel
theorem dX3_standsFor_33 : decode cX3_standsFor 33 = .ok (.iload_n 2, 1) := by decide +kernel
theorem dX3_standsFor_34 : decode cX3_standsFor 34 = .ok (.iconst 1, 1) := by decide +kernel
theorem dX3_standsFor_35 : decode cX3_standsFor 35 = .ok (.aload_n 0, 1) := by decide +kernel
theorem dX3_standsFor_36 : decode cX3_standsFor 36 = .ok (.iload_n 3, 1) := by decide +kernel
theorem dX3_standsFor_37 : decode cX3_standsFor 37 = .ok (.invokevirtual 34, 3) := by decide +kernel
theorem dX3_standsFor_40 : decode cX3_standsFor 40 = .ok (.ishl, 1) := by decide +kernel
theorem dX3_standsFor_41 : decode cX3_standsFor 41 = .ok (.ior, 1) := by decide +kernel
theorem dX3_standsFor_42 : decode cX3_standsFor 42 = .ok (.istore_n 2, 1) := by decide +kernel
theorem dX3_standsFor_43 : decode cX3_standsFor 43 = .ok (.iinc 3 1, 3) := by decide +kernel
theorem dX3_standsFor_46 : decode cX3_standsFor 46 = .ok (.goto (-42), 3) := by decide +kernel
theorem dX3_standsFor_49 : decode cX3_standsFor 49 = .ok (.iload_n 2, 1) := by decide +kernel
theorem dX3_standsFor_50 : decode cX3_standsFor 50 = .ok (.ireturn, 1) := by decide +kernel
theorem dX3_heldBy_0 : decode cX3_heldBy 0 = .ok (.iconst 0, 1) := by decide +kernel
theorem dX3_heldBy_1 : decode cX3_heldBy 1 = .ok (.istore_n 3, 1) := by decide +kernel
theorem dX3_heldBy_2 : decode cX3_heldBy 2 = .ok (.iconst 0, 1) := by decide +kernel
theorem dX3_heldBy_3 : decode cX3_heldBy 3 = .ok (.istore 4, 2) := by decide +kernel
theorem dX3_heldBy_5 : decode cX3_heldBy 5 = .ok (.iload 4, 2) := by decide +kernel
theorem dX3_heldBy_7 : decode cX3_heldBy 7 = .ok (.aload_n 0, 1) := by decide +kernel
theorem dX3_heldBy_8 : decode cX3_heldBy 8 = .ok (.invokevirtual 22, 3) := by decide +kernel
theorem dX3_heldBy_11 : decode cX3_heldBy 11 = .ok (.if_icmp .ge 43, 3) := by decide +kernel
theorem dX3_heldBy_14 : decode cX3_heldBy 14 = .ok (.aload_n 0, 1) := by decide +kernel
theorem dX3_heldBy_15 : decode cX3_heldBy 15 = .ok (.iload 4, 2) := by decide +kernel
theorem dX3_heldBy_17 : decode cX3_heldBy 17 = .ok (.invokevirtual 26, 3) := by decide +kernel
theorem dX3_heldBy_20 : decode cX3_heldBy 20 = .ok (.iload_n 2, 1) := by decide +kernel
theorem dX3_heldBy_21 : decode cX3_heldBy 21 = .ok (.if_icmp .ne 27, 3) := by decide +kernel
theorem dX3_heldBy_24 : decode cX3_heldBy 24 = .ok (.aload_n 0, 1) := by decide +kernel
theorem dX3_heldBy_25 : decode cX3_heldBy 25 = .ok (.iload 4, 2) := by decide +kernel
theorem dX3_heldBy_27 : decode cX3_heldBy 27 = .ok (.invokevirtual 30, 3) := by decide +kernel
theorem dX3_heldBy_30 : decode cX3_heldBy 30 = .ok (.iload_n 1, 1) := by decide +kernel
theorem dX3_heldBy_31 : decode cX3_heldBy 31 = .ok (.iconst (-1), 1) := by decide +kernel
theorem dX3_heldBy_32 : decode cX3_heldBy 32 = .ok (.ixor, 1) := by decide +kernel
theorem dX3_heldBy_33 : decode cX3_heldBy 33 = .ok (.iand, 1) := by decide +kernel
theorem dX3_heldBy_34 : decode cX3_heldBy 34 = .ok (.ifCond .ne 14, 3) := by decide +kernel
theorem dX3_heldBy_37 : decode cX3_heldBy 37 = .ok (.iload_n 3, 1) := by decide +kernel
theorem dX3_heldBy_38 : decode cX3_heldBy 38 = .ok (.iconst 1, 1) := by decide +kernel
theorem dX3_heldBy_39 : decode cX3_heldBy 39 = .ok (.aload_n 0, 1) := by decide +kernel
theorem dX3_heldBy_40 : decode cX3_heldBy 40 = .ok (.iload 4, 2) := by decide +kernel
theorem dX3_heldBy_42 : decode cX3_heldBy 42 = .ok (.invokevirtual 34, 3) := by decide +kernel
theorem dX3_heldBy_45 : decode cX3_heldBy 45 = .ok (.ishl, 1) := by decide +kernel
theorem dX3_heldBy_46 : decode cX3_heldBy 46 = .ok (.ior, 1) := by decide +kernel
theorem dX3_heldBy_47 : decode cX3_heldBy 47 = .ok (.istore_n 3, 1) := by decide +kernel
theorem dX3_heldBy_48 : decode cX3_heldBy 48 = .ok (.iinc 4 1, 3) := by decide +kernel
theorem dX3_heldBy_51 : decode cX3_heldBy 51 = .ok (.goto (-46), 3) := by decide +kernel
theorem dX3_heldBy_54 : decode cX3_heldBy 54 = .ok (.iload_n 3, 1) := by decide +kernel
theorem dX3_heldBy_55 : decode cX3_heldBy 55 = .ok (.ireturn, 1) := by decide +kernel
theorem dX3_stateBehind_0 : decode cX3_stateBehind 0 = .ok (.iload_n 1, 1) := by decide +kernel
theorem dX3_stateBehind_1 : decode cX3_stateBehind 1 = .ok (.tableswitch 86 0 4 #[35, 74, 41, 62, 68], 35) := by decide +kernel
theorem dX3_stateBehind_36 : decode cX3_stateBehind 36 = .ok (.aload_n 0, 1) := by decide +kernel
theorem dX3_stateBehind_37 : decode cX3_stateBehind 37 = .ok (.iload_n 2, 1) := by decide +kernel
theorem dX3_stateBehind_38 : decode cX3_stateBehind 38 = .ok (.invokevirtual 37, 3) := by decide +kernel
theorem dX3_stateBehind_41 : decode cX3_stateBehind 41 = .ok (.ireturn, 1) := by decide +kernel
theorem dX3_stateBehind_42 : decode cX3_stateBehind 42 = .ok (.iload_n 2, 1) := by decide +kernel
theorem dX3_stateBehind_43 : decode cX3_stateBehind 43 = .ok (.invokestatic 40, 3) := by decide +kernel
theorem dX3_stateBehind_46 : decode cX3_stateBehind 46 = .ok (.ifCond .eq 11, 3) := by decide +kernel
theorem dX3_stateBehind_49 : decode cX3_stateBehind 49 = .ok (.aload_n 0, 1) := by decide +kernel
theorem dX3_stateBehind_50 : decode cX3_stateBehind 50 = .ok (.iload_n 2, 1) := by decide +kernel
theorem dX3_stateBehind_51 : decode cX3_stateBehind 51 = .ok (.invokevirtual 43, 3) := by decide +kernel
theorem dX3_stateBehind_54 : decode cX3_stateBehind 54 = .ok (.goto 8, 3) := by decide +kernel
theorem dX3_stateBehind_57 : decode cX3_stateBehind 57 = .ok (.aload_n 0, 1) := by decide +kernel
theorem dX3_stateBehind_58 : decode cX3_stateBehind 58 = .ok (.iload_n 2, 1) := by decide +kernel
theorem dX3_stateBehind_59 : decode cX3_stateBehind 59 = .ok (.invokevirtual 46, 3) := by decide +kernel
theorem dX3_stateBehind_62 : decode cX3_stateBehind 62 = .ok (.ireturn, 1) := by decide +kernel
theorem dX3_stateBehind_63 : decode cX3_stateBehind 63 = .ok (.aload_n 0, 1) := by decide +kernel
theorem dX3_stateBehind_64 : decode cX3_stateBehind 64 = .ok (.iload_n 2, 1) := by decide +kernel
theorem dX3_stateBehind_65 : decode cX3_stateBehind 65 = .ok (.invokevirtual 46, 3) := by decide +kernel
theorem dX3_stateBehind_68 : decode cX3_stateBehind 68 = .ok (.ireturn, 1) := by decide +kernel
theorem dX3_stateBehind_69 : decode cX3_stateBehind 69 = .ok (.aload_n 0, 1) := by decide +kernel
theorem dX3_stateBehind_70 : decode cX3_stateBehind 70 = .ok (.iload_n 2, 1) := by decide +kernel
theorem dX3_stateBehind_71 : decode cX3_stateBehind 71 = .ok (.invokevirtual 49, 3) := by decide +kernel
theorem dX3_stateBehind_74 : decode cX3_stateBehind 74 = .ok (.ireturn, 1) := by decide +kernel
theorem dX3_stateBehind_75 : decode cX3_stateBehind 75 = .ok (.iload_n 2, 1) := by decide +kernel
theorem dX3_stateBehind_76 : decode cX3_stateBehind 76 = .ok (.bipush 59, 2) := by decide +kernel
theorem dX3_stateBehind_78 : decode cX3_stateBehind 78 = .ok (.if_icmp .ne 7, 3) := by decide +kernel
theorem dX3_stateBehind_81 : decode cX3_stateBehind 81 = .ok (.iconst 0, 1) := by decide +kernel
theorem dX3_stateBehind_82 : decode cX3_stateBehind 82 = .ok (.goto 4, 3) := by decide +kernel
theorem dX3_stateBehind_85 : decode cX3_stateBehind 85 = .ok (.iconst (-1), 1) := by decide +kernel
theorem dX3_stateBehind_86 : decode cX3_stateBehind 86 = .ok (.ireturn, 1) := by decide +kernel
theorem dX3_stateBehind_87 : decode cX3_stateBehind 87 = .ok (.iconst (-1), 1) := by decide +kernel
theorem dX3_stateBehind_88 : decode cX3_stateBehind 88 = .ok (.ireturn, 1) := by decide +kernel
theorem dX3_beginLaw_0 : decode cX3_beginLaw 0 = .ok (.aload_n 0, 1) := by decide +kernel
theorem dX3_beginLaw_1 : decode cX3_beginLaw 1 = .ok (.invokevirtual 22, 3) := by decide +kernel
theorem dX3_beginLaw_4 : decode cX3_beginLaw 4 = .ok (.bipush 16, 2) := by decide +kernel
theorem dX3_beginLaw_6 : decode cX3_beginLaw 6 = .ok (.if_icmp .ge 10, 3) := by decide +kernel
theorem dX3_beginLaw_9 : decode cX3_beginLaw 9 = .ok (.iload_n 1, 1) := by decide +kernel
theorem dX3_beginLaw_10 : decode cX3_beginLaw 10 = .ok (.invokestatic 40, 3) := by decide +kernel
theorem dX3_beginLaw_13 : decode cX3_beginLaw 13 = .ok (.ifCond .ne 5, 3) := by decide +kernel
theorem dX3_beginLaw_16 : decode cX3_beginLaw 16 = .ok (.iconst (-1), 1) := by decide +kernel
theorem dX3_beginLaw_17 : decode cX3_beginLaw 17 = .ok (.ireturn, 1) := by decide +kernel
theorem dX3_beginLaw_18 : decode cX3_beginLaw 18 = .ok (.aload_n 0, 1) := by decide +kernel
theorem dX3_beginLaw_19 : decode cX3_beginLaw 19 = .ok (.iconst 1, 1) := by decide +kernel
theorem dX3_beginLaw_20 : decode cX3_beginLaw 20 = .ok (.iload_n 1, 1) := by decide +kernel
theorem dX3_beginLaw_21 : decode cX3_beginLaw 21 = .ok (.bipush 97, 2) := by decide +kernel
theorem dX3_beginLaw_23 : decode cX3_beginLaw 23 = .ok (.isub, 1) := by decide +kernel
theorem dX3_beginLaw_24 : decode cX3_beginLaw 24 = .ok (.ishl, 1) := by decide +kernel
theorem dX3_beginLaw_25 : decode cX3_beginLaw 25 = .ok (.putfield 52, 3) := by decide +kernel
theorem dX3_beginLaw_28 : decode cX3_beginLaw 28 = .ok (.iconst 2, 1) := by decide +kernel
theorem dX3_beginLaw_29 : decode cX3_beginLaw 29 = .ok (.ireturn, 1) := by decide +kernel
theorem dX3_pairWith_0 : decode cX3_pairWith 0 = .ok (.iconst 1, 1) := by decide +kernel
theorem dX3_pairWith_1 : decode cX3_pairWith 1 = .ok (.iload_n 1, 1) := by decide +kernel
theorem dX3_pairWith_2 : decode cX3_pairWith 2 = .ok (.bipush 97, 2) := by decide +kernel
theorem dX3_pairWith_4 : decode cX3_pairWith 4 = .ok (.isub, 1) := by decide +kernel
theorem dX3_pairWith_5 : decode cX3_pairWith 5 = .ok (.ishl, 1) := by decide +kernel
theorem dX3_pairWith_6 : decode cX3_pairWith 6 = .ok (.istore_n 2, 1) := by decide +kernel
theorem dX3_pairWith_7 : decode cX3_pairWith 7 = .ok (.iload_n 2, 1) := by decide +kernel
theorem dX3_pairWith_8 : decode cX3_pairWith 8 = .ok (.aload_n 0, 1) := by decide +kernel
theorem dX3_pairWith_9 : decode cX3_pairWith 9 = .ok (.getfield 52, 3) := by decide +kernel
theorem dX3_pairWith_12 : decode cX3_pairWith 12 = .ok (.if_icmp .gt 5, 3) := by decide +kernel
theorem dX3_pairWith_15 : decode cX3_pairWith 15 = .ok (.iconst (-1), 1) := by decide +kernel
theorem dX3_pairWith_16 : decode cX3_pairWith 16 = .ok (.ireturn, 1) := by decide +kernel
theorem dX3_pairWith_17 : decode cX3_pairWith 17 = .ok (.aload_n 0, 1) := by decide +kernel
theorem dX3_pairWith_18 : decode cX3_pairWith 18 = .ok (.dup, 1) := by decide +kernel
theorem dX3_pairWith_19 : decode cX3_pairWith 19 = .ok (.getfield 52, 3) := by decide +kernel
theorem dX3_pairWith_22 : decode cX3_pairWith 22 = .ok (.iload_n 2, 1) := by decide +kernel
theorem dX3_pairWith_23 : decode cX3_pairWith 23 = .ok (.ior, 1) := by decide +kernel
theorem dX3_pairWith_24 : decode cX3_pairWith 24 = .ok (.putfield 52, 3) := by decide +kernel
theorem dX3_pairWith_27 : decode cX3_pairWith 27 = .ok (.iconst 3, 1) := by decide +kernel
theorem dX3_pairWith_28 : decode cX3_pairWith 28 = .ok (.ireturn, 1) := by decide +kernel
theorem dX3_takeSign_0 : decode cX3_takeSign 0 = .ok (.aload_n 0, 1) := by decide +kernel
theorem dX3_takeSign_1 : decode cX3_takeSign 1 = .ok (.iload_n 1, 1) := by decide +kernel
theorem dX3_takeSign_2 : decode cX3_takeSign 2 = .ok (.bipush 43, 2) := by decide +kernel
theorem dX3_takeSign_4 : decode cX3_takeSign 4 = .ok (.if_icmp .ne 7, 3) := by decide +kernel
theorem dX3_takeSign_7 : decode cX3_takeSign 7 = .ok (.iconst 1, 1) := by decide +kernel
theorem dX3_takeSign_8 : decode cX3_takeSign 8 = .ok (.goto 4, 3) := by decide +kernel
theorem dX3_takeSign_11 : decode cX3_takeSign 11 = .ok (.iconst 0, 1) := by decide +kernel
theorem dX3_takeSign_12 : decode cX3_takeSign 12 = .ok (.putfield 56, 3) := by decide +kernel
theorem dX3_takeSign_15 : decode cX3_takeSign 15 = .ok (.aload_n 0, 1) := by decide +kernel
theorem dX3_takeSign_16 : decode cX3_takeSign 16 = .ok (.getfield 56, 3) := by decide +kernel
theorem dX3_takeSign_19 : decode cX3_takeSign 19 = .ok (.ifCond .ne 9, 3) := by decide +kernel
theorem dX3_takeSign_22 : decode cX3_takeSign 22 = .ok (.iload_n 1, 1) := by decide +kernel
theorem dX3_takeSign_23 : decode cX3_takeSign 23 = .ok (.bipush 45, 2) := by decide +kernel
theorem dX3_takeSign_25 : decode cX3_takeSign 25 = .ok (.if_icmp .ne 7, 3) := by decide +kernel
theorem dX3_takeSign_28 : decode cX3_takeSign 28 = .ok (.iconst 4, 1) := by decide +kernel
theorem dX3_takeSign_29 : decode cX3_takeSign 29 = .ok (.goto 4, 3) := by decide +kernel
theorem dX3_takeSign_32 : decode cX3_takeSign 32 = .ok (.iconst (-1), 1) := by decide +kernel
theorem dX3_takeSign_33 : decode cX3_takeSign 33 = .ok (.ireturn, 1) := by decide +kernel
theorem dX3_endLaw_0 : decode cX3_endLaw 0 = .ok (.aload_n 0, 1) := by decide +kernel
theorem dX3_endLaw_1 : decode cX3_endLaw 1 = .ok (.invokevirtual 22, 3) := by decide +kernel
theorem dX3_endLaw_4 : decode cX3_endLaw 4 = .ok (.istore_n 2, 1) := by decide +kernel
theorem dX3_endLaw_5 : decode cX3_endLaw 5 = .ok (.iload_n 1, 1) := by decide +kernel
theorem dX3_endLaw_6 : decode cX3_endLaw 6 = .ok (.invokestatic 60, 3) := by decide +kernel
theorem dX3_endLaw_9 : decode cX3_endLaw 9 = .ok (.ifCond .eq 13, 3) := by decide +kernel
theorem dX3_endLaw_12 : decode cX3_endLaw 12 = .ok (.iload_n 2, 1) := by decide +kernel
theorem dX3_endLaw_13 : decode cX3_endLaw 13 = .ok (.ifCond .lt 9, 3) := by decide +kernel
theorem dX3_endLaw_16 : decode cX3_endLaw 16 = .ok (.iload_n 2, 1) := by decide +kernel
theorem dX3_endLaw_17 : decode cX3_endLaw 17 = .ok (.bipush 16, 2) := by decide +kernel
theorem dX3_endLaw_19 : decode cX3_endLaw 19 = .ok (.if_icmp .lt 5, 3) := by decide +kernel
theorem dX3_endLaw_22 : decode cX3_endLaw 22 = .ok (.iconst (-1), 1) := by decide +kernel
theorem dX3_endLaw_23 : decode cX3_endLaw 23 = .ok (.ireturn, 1) := by decide +kernel
theorem dX3_endLaw_24 : decode cX3_endLaw 24 = .ok (.aload_n 0, 1) := by decide +kernel
theorem dX3_endLaw_25 : decode cX3_endLaw 25 = .ok (.getfield 9, 3) := by decide +kernel
theorem dX3_endLaw_28 : decode cX3_endLaw 28 = .ok (.iload_n 2, 1) := by decide +kernel
theorem dX3_endLaw_29 : decode cX3_endLaw 29 = .ok (.aload_n 0, 1) := by decide +kernel
theorem dX3_endLaw_30 : decode cX3_endLaw 30 = .ok (.getfield 52, 3) := by decide +kernel
theorem dX3_endLaw_33 : decode cX3_endLaw 33 = .ok (.iastore, 1) := by decide +kernel
theorem dX3_endLaw_34 : decode cX3_endLaw 34 = .ok (.aload_n 0, 1) := by decide +kernel
theorem dX3_endLaw_35 : decode cX3_endLaw 35 = .ok (.getfield 15, 3) := by decide +kernel
theorem dX3_endLaw_38 : decode cX3_endLaw 38 = .ok (.iload_n 2, 1) := by decide +kernel
theorem dX3_endLaw_39 : decode cX3_endLaw 39 = .ok (.aload_n 0, 1) := by decide +kernel
theorem dX3_endLaw_40 : decode cX3_endLaw 40 = .ok (.getfield 56, 3) := by decide +kernel
theorem dX3_endLaw_43 : decode cX3_endLaw 43 = .ok (.bastore, 1) := by decide +kernel
theorem dX3_endLaw_44 : decode cX3_endLaw 44 = .ok (.aload_n 0, 1) := by decide +kernel
theorem dX3_endLaw_45 : decode cX3_endLaw 45 = .ok (.getfield 19, 3) := by decide +kernel
theorem dX3_endLaw_48 : decode cX3_endLaw 48 = .ok (.iload_n 2, 1) := by decide +kernel
theorem dX3_endLaw_49 : decode cX3_endLaw 49 = .ok (.iload_n 1, 1) := by decide +kernel
theorem dX3_endLaw_50 : decode cX3_endLaw 50 = .ok (.bipush 65, 2) := by decide +kernel
theorem dX3_endLaw_52 : decode cX3_endLaw 52 = .ok (.isub, 1) := by decide +kernel
theorem dX3_endLaw_53 : decode cX3_endLaw 53 = .ok (.iastore, 1) := by decide +kernel
theorem dX3_endLaw_54 : decode cX3_endLaw 54 = .ok (.aload_n 0, 1) := by decide +kernel
theorem dX3_endLaw_55 : decode cX3_endLaw 55 = .ok (.invokevirtual 63, 3) := by decide +kernel
theorem dX3_endLaw_58 : decode cX3_endLaw 58 = .ok (.iconst 1, 1) := by decide +kernel
theorem dX3_endLaw_59 : decode cX3_endLaw 59 = .ok (.ireturn, 1) := by decide +kernel
theorem dX4_fewestTouched_0 : decode cX4_fewestTouched 0 = .ok (.iconst (-1), 1) := by decide +kernel
theorem dX4_fewestTouched_1 : decode cX4_fewestTouched 1 = .ok (.istore 5, 2) := by decide +kernel
theorem dX4_fewestTouched_3 : decode cX4_fewestTouched 3 = .ok (.iconst 0, 1) := by decide +kernel
theorem dX4_fewestTouched_4 : decode cX4_fewestTouched 4 = .ok (.istore 6, 2) := by decide +kernel
theorem dX4_fewestTouched_6 : decode cX4_fewestTouched 6 = .ok (.iload 6, 2) := by decide +kernel
theorem dX4_fewestTouched_8 : decode cX4_fewestTouched 8 = .ok (.sipush 256, 3) := by decide +kernel
theorem dX4_fewestTouched_11 : decode cX4_fewestTouched 11 = .ok (.if_icmp .ge 50, 3) := by decide +kernel
theorem dX4_fewestTouched_14 : decode cX4_fewestTouched 14 = .ok (.iload 6, 2) := by decide +kernel
theorem dX4_fewestTouched_16 : decode cX4_fewestTouched 16 = .ok (.iload 5, 2) := by decide +kernel
theorem dX4_fewestTouched_18 : decode cX4_fewestTouched 18 = .ok (.invokestatic 9, 3) := by decide +kernel
theorem dX4_fewestTouched_21 : decode cX4_fewestTouched 21 = .ok (.ifCond .eq 34, 3) := by decide +kernel
theorem dX4_fewestTouched_24 : decode cX4_fewestTouched 24 = .ok (.aload_n 0, 1) := by decide +kernel
theorem dX4_fewestTouched_25 : decode cX4_fewestTouched 25 = .ok (.iload_n 1, 1) := by decide +kernel
theorem dX4_fewestTouched_26 : decode cX4_fewestTouched 26 = .ok (.iload 6, 2) := by decide +kernel
theorem dX4_fewestTouched_28 : decode cX4_fewestTouched 28 = .ok (.ixor, 1) := by decide +kernel
theorem dX4_fewestTouched_29 : decode cX4_fewestTouched 29 = .ok (.iload_n 2, 1) := by decide +kernel
theorem dX4_fewestTouched_30 : decode cX4_fewestTouched 30 = .ok (.invokestatic 15, 3) := by decide +kernel
theorem dX4_fewestTouched_33 : decode cX4_fewestTouched 33 = .ok (.istore 7, 2) := by decide +kernel
theorem dX4_fewestTouched_35 : decode cX4_fewestTouched 35 = .ok (.iload 7, 2) := by decide +kernel
theorem dX4_fewestTouched_37 : decode cX4_fewestTouched 37 = .ok (.iload_n 3, 1) := by decide +kernel
theorem dX4_fewestTouched_38 : decode cX4_fewestTouched 38 = .ok (.iand, 1) := by decide +kernel
theorem dX4_fewestTouched_39 : decode cX4_fewestTouched 39 = .ok (.iload_n 3, 1) := by decide +kernel
theorem dX4_fewestTouched_40 : decode cX4_fewestTouched 40 = .ok (.if_icmp .ne 15, 3) := by decide +kernel
theorem dX4_fewestTouched_43 : decode cX4_fewestTouched 43 = .ok (.iload 7, 2) := by decide +kernel
theorem dX4_fewestTouched_45 : decode cX4_fewestTouched 45 = .ok (.iload 4, 2) := by decide +kernel
theorem dX4_fewestTouched_47 : decode cX4_fewestTouched 47 = .ok (.iand, 1) := by decide +kernel
theorem dX4_fewestTouched_48 : decode cX4_fewestTouched 48 = .ok (.ifCond .ne 7, 3) := by decide +kernel
theorem dX4_fewestTouched_51 : decode cX4_fewestTouched 51 = .ok (.iload 6, 2) := by decide +kernel
theorem dX4_fewestTouched_53 : decode cX4_fewestTouched 53 = .ok (.istore 5, 2) := by decide +kernel
theorem dX4_fewestTouched_55 : decode cX4_fewestTouched 55 = .ok (.iinc 6 1, 3) := by decide +kernel
theorem dX4_fewestTouched_58 : decode cX4_fewestTouched 58 = .ok (.goto (-52), 3) := by decide +kernel
theorem dX4_fewestTouched_61 : decode cX4_fewestTouched 61 = .ok (.iload 5, 2) := by decide +kernel
theorem dX4_fewestTouched_63 : decode cX4_fewestTouched 63 = .ok (.ireturn, 1) := by decide +kernel
theorem dX4_fewestSwept_0 : decode cX4_fewestSwept 0 = .ok (.iconst (-1), 1) := by decide +kernel
theorem dX4_fewestSwept_1 : decode cX4_fewestSwept 1 = .ok (.istore 4, 2) := by decide +kernel
theorem dX4_fewestSwept_3 : decode cX4_fewestSwept 3 = .ok (.iconst 0, 1) := by decide +kernel
theorem dX4_fewestSwept_4 : decode cX4_fewestSwept 4 = .ok (.istore 5, 2) := by decide +kernel
theorem dX4_fewestSwept_6 : decode cX4_fewestSwept 6 = .ok (.iload 5, 2) := by decide +kernel
theorem dX4_fewestSwept_8 : decode cX4_fewestSwept 8 = .ok (.sipush 256, 3) := by decide +kernel
theorem dX4_fewestSwept_11 : decode cX4_fewestSwept 11 = .ok (.if_icmp .ge 59, 3) := by decide +kernel
theorem dX4_fewestSwept_14 : decode cX4_fewestSwept 14 = .ok (.iload 5, 2) := by decide +kernel
theorem dX4_fewestSwept_16 : decode cX4_fewestSwept 16 = .ok (.iload_n 1, 1) := by decide +kernel
theorem dX4_fewestSwept_17 : decode cX4_fewestSwept 17 = .ok (.iconst (-1), 1) := by decide +kernel
theorem dX4_fewestSwept_18 : decode cX4_fewestSwept 18 = .ok (.ixor, 1) := by decide +kernel
theorem dX4_fewestSwept_19 : decode cX4_fewestSwept 19 = .ok (.iand, 1) := by decide +kernel
theorem dX4_fewestSwept_20 : decode cX4_fewestSwept 20 = .ok (.ifCond .ne 7, 3) := by decide +kernel
theorem dX4_fewestSwept_23 : decode cX4_fewestSwept 23 = .ok (.iconst 1, 1) := by decide +kernel
theorem dX4_fewestSwept_24 : decode cX4_fewestSwept 24 = .ok (.goto 4, 3) := by decide +kernel
theorem dX4_fewestSwept_27 : decode cX4_fewestSwept 27 = .ok (.iconst 0, 1) := by decide +kernel
theorem dX4_fewestSwept_28 : decode cX4_fewestSwept 28 = .ok (.istore 6, 2) := by decide +kernel
theorem dX4_fewestSwept_30 : decode cX4_fewestSwept 30 = .ok (.iload 6, 2) := by decide +kernel
theorem dX4_fewestSwept_32 : decode cX4_fewestSwept 32 = .ok (.ifCond .eq 32, 3) := by decide +kernel
theorem dX4_fewestSwept_35 : decode cX4_fewestSwept 35 = .ok (.iload 5, 2) := by decide +kernel
theorem dX4_fewestSwept_37 : decode cX4_fewestSwept 37 = .ok (.iload 4, 2) := by decide +kernel
theorem dX4_fewestSwept_39 : decode cX4_fewestSwept 39 = .ok (.invokestatic 9, 3) := by decide +kernel
theorem dX4_fewestSwept_42 : decode cX4_fewestSwept 42 = .ok (.ifCond .eq 22, 3) := by decide +kernel
theorem dX4_fewestSwept_45 : decode cX4_fewestSwept 45 = .ok (.aload_n 0, 1) := by decide +kernel
theorem dX4_fewestSwept_46 : decode cX4_fewestSwept 46 = .ok (.iload_n 1, 1) := by decide +kernel
theorem dX4_fewestSwept_47 : decode cX4_fewestSwept 47 = .ok (.iload 5, 2) := by decide +kernel
theorem dX4_fewestSwept_49 : decode cX4_fewestSwept 49 = .ok (.iconst (-1), 1) := by decide +kernel
theorem dX4_fewestSwept_50 : decode cX4_fewestSwept 50 = .ok (.ixor, 1) := by decide +kernel
theorem dX4_fewestSwept_51 : decode cX4_fewestSwept 51 = .ok (.iand, 1) := by decide +kernel
theorem dX4_fewestSwept_52 : decode cX4_fewestSwept 52 = .ok (.iload_n 2, 1) := by decide +kernel
theorem dX4_fewestSwept_53 : decode cX4_fewestSwept 53 = .ok (.iload_n 3, 1) := by decide +kernel
theorem dX4_fewestSwept_54 : decode cX4_fewestSwept 54 = .ok (.invokestatic 19, 3) := by decide +kernel
theorem dX4_fewestSwept_57 : decode cX4_fewestSwept 57 = .ok (.ifCond .eq 7, 3) := by decide +kernel
theorem dX4_fewestSwept_60 : decode cX4_fewestSwept 60 = .ok (.iload 5, 2) := by decide +kernel
theorem dX4_fewestSwept_62 : decode cX4_fewestSwept 62 = .ok (.istore 4, 2) := by decide +kernel
theorem dX4_fewestSwept_64 : decode cX4_fewestSwept 64 = .ok (.iinc 5 1, 3) := by decide +kernel
theorem dX4_fewestSwept_67 : decode cX4_fewestSwept 67 = .ok (.goto (-61), 3) := by decide +kernel
theorem dX4_fewestSwept_70 : decode cX4_fewestSwept 70 = .ok (.iload 4, 2) := by decide +kernel
theorem dX4_fewestSwept_72 : decode cX4_fewestSwept 72 = .ok (.ireturn, 1) := by decide +kernel
theorem dX4_weeksToRepeat_0 : decode cX4_weeksToRepeat 0 = .ok (.iload_n 1, 1) := by decide +kernel
theorem dX4_weeksToRepeat_1 : decode cX4_weeksToRepeat 1 = .ok (.istore_n 2, 1) := by decide +kernel
theorem dX4_weeksToRepeat_2 : decode cX4_weeksToRepeat 2 = .ok (.iconst 1, 1) := by decide +kernel
theorem dX4_weeksToRepeat_3 : decode cX4_weeksToRepeat 3 = .ok (.istore_n 3, 1) := by decide +kernel
theorem dX4_weeksToRepeat_4 : decode cX4_weeksToRepeat 4 = .ok (.iload_n 3, 1) := by decide +kernel
theorem dX4_weeksToRepeat_5 : decode cX4_weeksToRepeat 5 = .ok (.sipush 256, 3) := by decide +kernel
theorem dX4_weeksToRepeat_8 : decode cX4_weeksToRepeat 8 = .ok (.if_icmp .gt 28, 3) := by decide +kernel
theorem dX4_weeksToRepeat_11 : decode cX4_weeksToRepeat 11 = .ok (.aload_n 0, 1) := by decide +kernel
theorem dX4_weeksToRepeat_12 : decode cX4_weeksToRepeat 12 = .ok (.iload_n 2, 1) := by decide +kernel
theorem dX4_weeksToRepeat_13 : decode cX4_weeksToRepeat 13 = .ok (.invokevirtual 23, 3) := by decide +kernel
theorem dX4_weeksToRepeat_16 : decode cX4_weeksToRepeat 16 = .ok (.istore_n 2, 1) := by decide +kernel
theorem dX4_weeksToRepeat_17 : decode cX4_weeksToRepeat 17 = .ok (.aload_n 0, 1) := by decide +kernel
theorem dX4_weeksToRepeat_18 : decode cX4_weeksToRepeat 18 = .ok (.iload_n 1, 1) := by decide +kernel
theorem dX4_weeksToRepeat_19 : decode cX4_weeksToRepeat 19 = .ok (.iload_n 2, 1) := by decide +kernel
theorem dX4_weeksToRepeat_20 : decode cX4_weeksToRepeat 20 = .ok (.iload_n 3, 1) := by decide +kernel
theorem dX4_weeksToRepeat_21 : decode cX4_weeksToRepeat 21 = .ok (.invokestatic 29, 3) := by decide +kernel
theorem dX4_weeksToRepeat_24 : decode cX4_weeksToRepeat 24 = .ok (.iconst (-1), 1) := by decide +kernel
theorem dX4_weeksToRepeat_25 : decode cX4_weeksToRepeat 25 = .ok (.if_icmp .eq 5, 3) := by decide +kernel
theorem dX4_weeksToRepeat_28 : decode cX4_weeksToRepeat 28 = .ok (.iload_n 3, 1) := by decide +kernel
theorem dX4_weeksToRepeat_29 : decode cX4_weeksToRepeat 29 = .ok (.ireturn, 1) := by decide +kernel
theorem dX4_weeksToRepeat_30 : decode cX4_weeksToRepeat 30 = .ok (.iinc 3 1, 3) := by decide +kernel
theorem dX4_weeksToRepeat_33 : decode cX4_weeksToRepeat 33 = .ok (.goto (-29), 3) := by decide +kernel
theorem dX4_weeksToRepeat_36 : decode cX4_weeksToRepeat 36 = .ok (.iconst (-1), 1) := by decide +kernel
theorem dX4_weeksToRepeat_37 : decode cX4_weeksToRepeat 37 = .ok (.ireturn, 1) := by decide +kernel
theorem dX4_roundLength_0 : decode cX4_roundLength 0 = .ok (.aload_n 0, 1) := by decide +kernel
theorem dX4_roundLength_1 : decode cX4_roundLength 1 = .ok (.iload_n 1, 1) := by decide +kernel
theorem dX4_roundLength_2 : decode cX4_roundLength 2 = .ok (.invokestatic 33, 3) := by decide +kernel
theorem dX4_roundLength_5 : decode cX4_roundLength 5 = .ok (.istore_n 2, 1) := by decide +kernel
theorem dX4_roundLength_6 : decode cX4_roundLength 6 = .ok (.iload_n 1, 1) := by decide +kernel
theorem dX4_roundLength_7 : decode cX4_roundLength 7 = .ok (.istore_n 3, 1) := by decide +kernel
theorem dX4_roundLength_8 : decode cX4_roundLength 8 = .ok (.iconst 0, 1) := by decide +kernel
theorem dX4_roundLength_9 : decode cX4_roundLength 9 = .ok (.istore 4, 2) := by decide +kernel
theorem dX4_roundLength_11 : decode cX4_roundLength 11 = .ok (.iload 4, 2) := by decide +kernel
theorem dX4_roundLength_13 : decode cX4_roundLength 13 = .ok (.iload_n 2, 1) := by decide +kernel
theorem dX4_roundLength_14 : decode cX4_roundLength 14 = .ok (.if_icmp .ge 15, 3) := by decide +kernel
theorem dX4_roundLength_17 : decode cX4_roundLength 17 = .ok (.aload_n 0, 1) := by decide +kernel
theorem dX4_roundLength_18 : decode cX4_roundLength 18 = .ok (.iload_n 3, 1) := by decide +kernel
theorem dX4_roundLength_19 : decode cX4_roundLength 19 = .ok (.invokevirtual 23, 3) := by decide +kernel
theorem dX4_roundLength_22 : decode cX4_roundLength 22 = .ok (.istore_n 3, 1) := by decide +kernel
theorem dX4_roundLength_23 : decode cX4_roundLength 23 = .ok (.iinc 4 1, 3) := by decide +kernel
theorem dX4_roundLength_26 : decode cX4_roundLength 26 = .ok (.goto (-15), 3) := by decide +kernel
theorem dX4_roundLength_29 : decode cX4_roundLength 29 = .ok (.iload_n 2, 1) := by decide +kernel
theorem dX4_roundLength_30 : decode cX4_roundLength 30 = .ok (.aload_n 0, 1) := by decide +kernel
theorem dX4_roundLength_31 : decode cX4_roundLength 31 = .ok (.iload_n 1, 1) := by decide +kernel
theorem dX4_roundLength_32 : decode cX4_roundLength 32 = .ok (.iload_n 3, 1) := by decide +kernel
theorem dX4_roundLength_33 : decode cX4_roundLength 33 = .ok (.iload_n 2, 1) := by decide +kernel
theorem dX4_roundLength_34 : decode cX4_roundLength 34 = .ok (.invokestatic 29, 3) := by decide +kernel
theorem dX4_roundLength_37 : decode cX4_roundLength 37 = .ok (.isub, 1) := by decide +kernel
theorem dX4_roundLength_38 : decode cX4_roundLength 38 = .ok (.ireturn, 1) := by decide +kernel
theorem dX4_endsInComing_0 : decode cX4_endsInComing 0 = .ok (.aload_n 0, 1) := by decide +kernel
theorem dX4_endsInComing_1 : decode cX4_endsInComing 1 = .ok (.iload_n 1, 1) := by decide +kernel
theorem dX4_endsInComing_2 : decode cX4_endsInComing 2 = .ok (.iload_n 2, 1) := by decide +kernel
theorem dX4_endsInComing_3 : decode cX4_endsInComing 3 = .ok (.iload_n 3, 1) := by decide +kernel
theorem dX4_endsInComing_4 : decode cX4_endsInComing 4 = .ok (.iconst 1, 1) := by decide +kernel
theorem dX4_endsInComing_5 : decode cX4_endsInComing 5 = .ok (.invokestatic 37, 3) := by decide +kernel
theorem dX4_endsInComing_8 : decode cX4_endsInComing 8 = .ok (.ireturn, 1) := by decide +kernel
theorem dX4_itComes_0 : decode cX4_itComes 0 = .ok (.iload_n 3, 1) := by decide +kernel
theorem dX4_itComes_1 : decode cX4_itComes 1 = .ok (.ifCond .le 8, 3) := by decide +kernel
theorem dX4_itComes_4 : decode cX4_itComes 4 = .ok (.iload_n 3, 1) := by decide +kernel
theorem dX4_itComes_5 : decode cX4_itComes 5 = .ok (.iconst 4, 1) := by decide +kernel
theorem dX4_itComes_6 : decode cX4_itComes 6 = .ok (.if_icmp .le 19, 3) := by decide +kernel
theorem dX4_itComes_9 : decode cX4_itComes 9 = .ok (.aload_n 0, 1) := by decide +kernel
theorem dX4_itComes_10 : decode cX4_itComes 10 = .ok (.iload_n 1, 1) := by decide +kernel
theorem dX4_itComes_11 : decode cX4_itComes 11 = .ok (.invokevirtual 41, 3) := by decide +kernel
theorem dX4_itComes_14 : decode cX4_itComes 14 = .ok (.iload_n 2, 1) := by decide +kernel
theorem dX4_itComes_15 : decode cX4_itComes 15 = .ok (.iand, 1) := by decide +kernel
theorem dX4_itComes_16 : decode cX4_itComes 16 = .ok (.ifCond .eq 7, 3) := by decide +kernel
theorem dX4_itComes_19 : decode cX4_itComes 19 = .ok (.iconst 1, 1) := by decide +kernel
theorem dX4_itComes_20 : decode cX4_itComes 20 = .ok (.goto 4, 3) := by decide +kernel
theorem dX4_itComes_23 : decode cX4_itComes 23 = .ok (.iconst 0, 1) := by decide +kernel
theorem dX4_itComes_24 : decode cX4_itComes 24 = .ok (.ireturn, 1) := by decide +kernel
theorem dX4_itComes_25 : decode cX4_itComes 25 = .ok (.aload_n 0, 1) := by decide +kernel
theorem dX4_itComes_26 : decode cX4_itComes 26 = .ok (.iload_n 1, 1) := by decide +kernel
theorem dX4_itComes_27 : decode cX4_itComes 27 = .ok (.iload_n 2, 1) := by decide +kernel
theorem dX4_itComes_28 : decode cX4_itComes 28 = .ok (.iload_n 3, 1) := by decide +kernel
theorem dX4_itComes_29 : decode cX4_itComes 29 = .ok (.iconst 1, 1) := by decide +kernel
theorem dX4_itComes_30 : decode cX4_itComes 30 = .ok (.isub, 1) := by decide +kernel
theorem dX4_itComes_31 : decode cX4_itComes 31 = .ok (.iload 4, 2) := by decide +kernel
theorem dX4_itComes_33 : decode cX4_itComes 33 = .ok (.ifCond .ne 7, 3) := by decide +kernel
theorem dX4_itComes_36 : decode cX4_itComes 36 = .ok (.iconst 1, 1) := by decide +kernel
theorem dX4_itComes_37 : decode cX4_itComes 37 = .ok (.goto 4, 3) := by decide +kernel
theorem dX4_itComes_40 : decode cX4_itComes 40 = .ok (.iconst 0, 1) := by decide +kernel
theorem dX4_itComes_41 : decode cX4_itComes 41 = .ok (.invokestatic 37, 3) := by decide +kernel
theorem dX4_itComes_44 : decode cX4_itComes 44 = .ok (.iload 4, 2) := by decide +kernel
theorem dX4_itComes_46 : decode cX4_itComes 46 = .ok (.if_icmp .ne 6, 3) := by decide +kernel
theorem dX4_itComes_49 : decode cX4_itComes 49 = .ok (.iload 4, 2) := by decide +kernel
theorem dX4_itComes_51 : decode cX4_itComes 51 = .ok (.ireturn, 1) := by decide +kernel
theorem dX4_itComes_52 : decode cX4_itComes 52 = .ok (.iconst 0, 1) := by decide +kernel
theorem dX4_itComes_53 : decode cX4_itComes 53 = .ok (.istore 5, 2) := by decide +kernel
theorem dX4_itComes_55 : decode cX4_itComes 55 = .ok (.iload 5, 2) := by decide +kernel
theorem dX4_itComes_57 : decode cX4_itComes 57 = .ok (.bipush 8, 2) := by decide +kernel
theorem dX4_itComes_59 : decode cX4_itComes 59 = .ok (.if_icmp .ge 41, 3) := by decide +kernel
theorem dX4_itComes_62 : decode cX4_itComes 62 = .ok (.aload_n 0, 1) := by decide +kernel
theorem dX4_itComes_63 : decode cX4_itComes 63 = .ok (.iload_n 1, 1) := by decide +kernel
theorem dX4_itComes_64 : decode cX4_itComes 64 = .ok (.iconst 1, 1) := by decide +kernel
theorem dX4_itComes_65 : decode cX4_itComes 65 = .ok (.iload 5, 2) := by decide +kernel
theorem dX4_itComes_67 : decode cX4_itComes 67 = .ok (.ishl, 1) := by decide +kernel
theorem dX4_itComes_68 : decode cX4_itComes 68 = .ok (.ixor, 1) := by decide +kernel
theorem dX4_itComes_69 : decode cX4_itComes 69 = .ok (.iload_n 2, 1) := by decide +kernel
theorem dX4_itComes_70 : decode cX4_itComes 70 = .ok (.iload_n 3, 1) := by decide +kernel
theorem dX4_itComes_71 : decode cX4_itComes 71 = .ok (.iconst 1, 1) := by decide +kernel
theorem dX4_itComes_72 : decode cX4_itComes 72 = .ok (.isub, 1) := by decide +kernel
theorem dX4_itComes_73 : decode cX4_itComes 73 = .ok (.iload 4, 2) := by decide +kernel
theorem dX4_itComes_75 : decode cX4_itComes 75 = .ok (.ifCond .ne 7, 3) := by decide +kernel
theorem dX4_itComes_78 : decode cX4_itComes 78 = .ok (.iconst 1, 1) := by decide +kernel
theorem dX4_itComes_79 : decode cX4_itComes 79 = .ok (.goto 4, 3) := by decide +kernel
theorem dX4_itComes_82 : decode cX4_itComes 82 = .ok (.iconst 0, 1) := by decide +kernel
theorem dX4_itComes_83 : decode cX4_itComes 83 = .ok (.invokestatic 37, 3) := by decide +kernel
theorem dX4_itComes_86 : decode cX4_itComes 86 = .ok (.iload 4, 2) := by decide +kernel
theorem dX4_itComes_88 : decode cX4_itComes 88 = .ok (.if_icmp .ne 6, 3) := by decide +kernel
theorem dX4_itComes_91 : decode cX4_itComes 91 = .ok (.iload 4, 2) := by decide +kernel
theorem dX4_itComes_93 : decode cX4_itComes 93 = .ok (.ireturn, 1) := by decide +kernel
theorem dX4_itComes_94 : decode cX4_itComes 94 = .ok (.iinc 5 1, 3) := by decide +kernel
theorem dX4_itComes_97 : decode cX4_itComes 97 = .ok (.goto (-42), 3) := by decide +kernel
theorem dX4_itComes_100 : decode cX4_itComes 100 = .ok (.iload 4, 2) := by decide +kernel
theorem dX4_itComes_102 : decode cX4_itComes 102 = .ok (.ifCond .ne 7, 3) := by decide +kernel
theorem dX4_itComes_105 : decode cX4_itComes 105 = .ok (.iconst 1, 1) := by decide +kernel
theorem dX4_itComes_106 : decode cX4_itComes 106 = .ok (.goto 4, 3) := by decide +kernel
theorem dX4_itComes_109 : decode cX4_itComes 109 = .ok (.iconst 0, 1) := by decide +kernel
theorem dX4_itComes_110 : decode cX4_itComes 110 = .ok (.ireturn, 1) := by decide +kernel
theorem dX4_firstTouch_0 : decode cX4_firstTouch 0 = .ok (.iload_n 3, 1) := by decide +kernel
theorem dX4_firstTouch_1 : decode cX4_firstTouch 1 = .ok (.ifCond .le 16, 3) := by decide +kernel
theorem dX4_firstTouch_4 : decode cX4_firstTouch 4 = .ok (.aload_n 0, 1) := by decide +kernel
theorem dX4_firstTouch_5 : decode cX4_firstTouch 5 = .ok (.iload_n 1, 1) := by decide +kernel
theorem dX4_firstTouch_6 : decode cX4_firstTouch 6 = .ok (.iload_n 2, 1) := by decide +kernel
theorem dX4_firstTouch_7 : decode cX4_firstTouch 7 = .ok (.iload_n 3, 1) := by decide +kernel
theorem dX4_firstTouch_8 : decode cX4_firstTouch 8 = .ok (.iconst 1, 1) := by decide +kernel
theorem dX4_firstTouch_9 : decode cX4_firstTouch 9 = .ok (.isub, 1) := by decide +kernel
theorem dX4_firstTouch_10 : decode cX4_firstTouch 10 = .ok (.iconst 0, 1) := by decide +kernel
theorem dX4_firstTouch_11 : decode cX4_firstTouch 11 = .ok (.invokestatic 37, 3) := by decide +kernel
theorem dX4_firstTouch_14 : decode cX4_firstTouch 14 = .ok (.ifCond .eq 5, 3) := by decide +kernel
theorem dX4_firstTouch_17 : decode cX4_firstTouch 17 = .ok (.iconst (-1), 1) := by decide +kernel
theorem dX4_firstTouch_18 : decode cX4_firstTouch 18 = .ok (.ireturn, 1) := by decide +kernel
theorem dX4_firstTouch_19 : decode cX4_firstTouch 19 = .ok (.iconst 0, 1) := by decide +kernel
theorem dX4_firstTouch_20 : decode cX4_firstTouch 20 = .ok (.istore 4, 2) := by decide +kernel
theorem dX4_firstTouch_22 : decode cX4_firstTouch 22 = .ok (.iload 4, 2) := by decide +kernel
theorem dX4_firstTouch_24 : decode cX4_firstTouch 24 = .ok (.bipush 8, 2) := by decide +kernel
theorem dX4_firstTouch_26 : decode cX4_firstTouch 26 = .ok (.if_icmp .ge 30, 3) := by decide +kernel
theorem dX4_firstTouch_29 : decode cX4_firstTouch 29 = .ok (.aload_n 0, 1) := by decide +kernel
theorem dX4_firstTouch_30 : decode cX4_firstTouch 30 = .ok (.iload_n 1, 1) := by decide +kernel
theorem dX4_firstTouch_31 : decode cX4_firstTouch 31 = .ok (.iconst 1, 1) := by decide +kernel
theorem dX4_firstTouch_32 : decode cX4_firstTouch 32 = .ok (.iload 4, 2) := by decide +kernel
theorem dX4_firstTouch_34 : decode cX4_firstTouch 34 = .ok (.ishl, 1) := by decide +kernel
theorem dX4_firstTouch_35 : decode cX4_firstTouch 35 = .ok (.ixor, 1) := by decide +kernel
theorem dX4_firstTouch_36 : decode cX4_firstTouch 36 = .ok (.iload_n 2, 1) := by decide +kernel
theorem dX4_firstTouch_37 : decode cX4_firstTouch 37 = .ok (.iload_n 3, 1) := by decide +kernel
theorem dX4_firstTouch_38 : decode cX4_firstTouch 38 = .ok (.iconst 1, 1) := by decide +kernel
theorem dX4_firstTouch_39 : decode cX4_firstTouch 39 = .ok (.isub, 1) := by decide +kernel
theorem dX4_firstTouch_40 : decode cX4_firstTouch 40 = .ok (.iconst 0, 1) := by decide +kernel
theorem dX4_firstTouch_41 : decode cX4_firstTouch 41 = .ok (.invokestatic 37, 3) := by decide +kernel
theorem dX4_firstTouch_44 : decode cX4_firstTouch 44 = .ok (.ifCond .eq 6, 3) := by decide +kernel
theorem dX4_firstTouch_47 : decode cX4_firstTouch 47 = .ok (.iload 4, 2) := by decide +kernel
theorem dX4_firstTouch_49 : decode cX4_firstTouch 49 = .ok (.ireturn, 1) := by decide +kernel
theorem dX4_firstTouch_50 : decode cX4_firstTouch 50 = .ok (.iinc 4 1, 3) := by decide +kernel
theorem dX4_firstTouch_53 : decode cX4_firstTouch 53 = .ok (.goto (-31), 3) := by decide +kernel
theorem dX4_firstTouch_56 : decode cX4_firstTouch 56 = .ok (.iconst (-1), 1) := by decide +kernel
theorem dX4_firstTouch_57 : decode cX4_firstTouch 57 = .ok (.ireturn, 1) := by decide +kernel
theorem dX4_isFewer_0 : decode cX4_isFewer 0 = .ok (.iload_n 1, 1) := by decide +kernel
theorem dX4_isFewer_1 : decode cX4_isFewer 1 = .ok (.iconst (-1), 1) := by decide +kernel
theorem dX4_isFewer_2 : decode cX4_isFewer 2 = .ok (.if_icmp .eq 14, 3) := by decide +kernel
theorem dX4_isFewer_5 : decode cX4_isFewer 5 = .ok (.iload_n 0, 1) := by decide +kernel
theorem dX4_isFewer_6 : decode cX4_isFewer 6 = .ok (.invokestatic 44, 3) := by decide +kernel
theorem dX4_isFewer_9 : decode cX4_isFewer 9 = .ok (.iload_n 1, 1) := by decide +kernel
theorem dX4_isFewer_10 : decode cX4_isFewer 10 = .ok (.invokestatic 44, 3) := by decide +kernel
theorem dX4_isFewer_13 : decode cX4_isFewer 13 = .ok (.if_icmp .ge 7, 3) := by decide +kernel
theorem dX4_isFewer_16 : decode cX4_isFewer 16 = .ok (.iconst 1, 1) := by decide +kernel
theorem dX4_isFewer_17 : decode cX4_isFewer 17 = .ok (.goto 4, 3) := by decide +kernel
theorem dX4_isFewer_20 : decode cX4_isFewer 20 = .ok (.iconst 0, 1) := by decide +kernel
theorem dX4_isFewer_21 : decode cX4_isFewer 21 = .ok (.ireturn, 1) := by decide +kernel
theorem dX4_bigsIn_0 : decode cX4_bigsIn 0 = .ok (.iload_n 1, 1) := by decide +kernel
theorem dX4_bigsIn_1 : decode cX4_bigsIn 1 = .ok (.istore_n 3, 1) := by decide +kernel
theorem dX4_bigsIn_2 : decode cX4_bigsIn 2 = .ok (.iconst 1, 1) := by decide +kernel
theorem dX4_bigsIn_3 : decode cX4_bigsIn 3 = .ok (.istore 4, 2) := by decide +kernel
theorem dX4_bigsIn_5 : decode cX4_bigsIn 5 = .ok (.iload 4, 2) := by decide +kernel
theorem dX4_bigsIn_7 : decode cX4_bigsIn 7 = .ok (.iload_n 2, 1) := by decide +kernel
theorem dX4_bigsIn_8 : decode cX4_bigsIn 8 = .ok (.if_icmp .ge 15, 3) := by decide +kernel
theorem dX4_bigsIn_11 : decode cX4_bigsIn 11 = .ok (.aload_n 0, 1) := by decide +kernel
theorem dX4_bigsIn_12 : decode cX4_bigsIn 12 = .ok (.iload_n 3, 1) := by decide +kernel
theorem dX4_bigsIn_13 : decode cX4_bigsIn 13 = .ok (.invokevirtual 23, 3) := by decide +kernel
theorem dX4_bigsIn_16 : decode cX4_bigsIn 16 = .ok (.istore_n 3, 1) := by decide +kernel
theorem dX4_bigsIn_17 : decode cX4_bigsIn 17 = .ok (.iinc 4 1, 3) := by decide +kernel
theorem dX4_bigsIn_20 : decode cX4_bigsIn 20 = .ok (.goto (-15), 3) := by decide +kernel
theorem dX4_bigsIn_23 : decode cX4_bigsIn 23 = .ok (.aload_n 0, 1) := by decide +kernel
theorem dX4_bigsIn_24 : decode cX4_bigsIn 24 = .ok (.iload_n 3, 1) := by decide +kernel
theorem dX4_bigsIn_25 : decode cX4_bigsIn 25 = .ok (.invokevirtual 41, 3) := by decide +kernel
theorem dX4_bigsIn_28 : decode cX4_bigsIn 28 = .ok (.ireturn, 1) := by decide +kernel
theorem dX4_staysOff_0 : decode cX4_staysOff 0 = .ok (.iload_n 1, 1) := by decide +kernel
theorem dX4_staysOff_1 : decode cX4_staysOff 1 = .ok (.istore 4, 2) := by decide +kernel
theorem dX4_staysOff_3 : decode cX4_staysOff 3 = .ok (.iconst 1, 1) := by decide +kernel
theorem dX4_staysOff_4 : decode cX4_staysOff 4 = .ok (.istore 5, 2) := by decide +kernel
theorem dX4_staysOff_6 : decode cX4_staysOff 6 = .ok (.iload 5, 2) := by decide +kernel
theorem dX4_staysOff_8 : decode cX4_staysOff 8 = .ok (.iload_n 2, 1) := by decide +kernel
theorem dX4_staysOff_9 : decode cX4_staysOff 9 = .ok (.if_icmp .gt 30, 3) := by decide +kernel
theorem dX4_staysOff_12 : decode cX4_staysOff 12 = .ok (.aload_n 0, 1) := by decide +kernel
theorem dX4_staysOff_13 : decode cX4_staysOff 13 = .ok (.iload 4, 2) := by decide +kernel
theorem dX4_staysOff_15 : decode cX4_staysOff 15 = .ok (.invokevirtual 41, 3) := by decide +kernel
theorem dX4_staysOff_18 : decode cX4_staysOff 18 = .ok (.iload_n 3, 1) := by decide +kernel
theorem dX4_staysOff_19 : decode cX4_staysOff 19 = .ok (.iand, 1) := by decide +kernel
theorem dX4_staysOff_20 : decode cX4_staysOff 20 = .ok (.ifCond .eq 5, 3) := by decide +kernel
theorem dX4_staysOff_23 : decode cX4_staysOff 23 = .ok (.iconst 0, 1) := by decide +kernel
theorem dX4_staysOff_24 : decode cX4_staysOff 24 = .ok (.ireturn, 1) := by decide +kernel
theorem dX4_staysOff_25 : decode cX4_staysOff 25 = .ok (.aload_n 0, 1) := by decide +kernel
theorem dX4_staysOff_26 : decode cX4_staysOff 26 = .ok (.iload 4, 2) := by decide +kernel
theorem dX4_staysOff_28 : decode cX4_staysOff 28 = .ok (.invokevirtual 23, 3) := by decide +kernel
theorem dX4_staysOff_31 : decode cX4_staysOff 31 = .ok (.istore 4, 2) := by decide +kernel
theorem dX4_staysOff_33 : decode cX4_staysOff 33 = .ok (.iinc 5 1, 3) := by decide +kernel
theorem dX4_staysOff_36 : decode cX4_staysOff 36 = .ok (.goto (-30), 3) := by decide +kernel
theorem dX4_staysOff_39 : decode cX4_staysOff 39 = .ok (.iconst 1, 1) := by decide +kernel
theorem dX4_staysOff_40 : decode cX4_staysOff 40 = .ok (.ireturn, 1) := by decide +kernel
theorem dX4_weekOf_0 : decode cX4_weekOf 0 = .ok (.iload_n 1, 1) := by decide +kernel
theorem dX4_weekOf_1 : decode cX4_weekOf 1 = .ok (.istore 4, 2) := by decide +kernel
theorem dX4_weekOf_3 : decode cX4_weekOf 3 = .ok (.iconst 0, 1) := by decide +kernel
theorem dX4_weekOf_4 : decode cX4_weekOf 4 = .ok (.istore 5, 2) := by decide +kernel
theorem dX4_weekOf_6 : decode cX4_weekOf 6 = .ok (.iload 5, 2) := by decide +kernel
theorem dX4_weekOf_8 : decode cX4_weekOf 8 = .ok (.iload_n 3, 1) := by decide +kernel
theorem dX4_weekOf_9 : decode cX4_weekOf 9 = .ok (.if_icmp .ge 26, 3) := by decide +kernel
theorem dX4_weekOf_12 : decode cX4_weekOf 12 = .ok (.iload 4, 2) := by decide +kernel
theorem dX4_weekOf_14 : decode cX4_weekOf 14 = .ok (.iload_n 2, 1) := by decide +kernel
theorem dX4_weekOf_15 : decode cX4_weekOf 15 = .ok (.if_icmp .ne 6, 3) := by decide +kernel
theorem dX4_weekOf_18 : decode cX4_weekOf 18 = .ok (.iload 5, 2) := by decide +kernel
theorem dX4_weekOf_20 : decode cX4_weekOf 20 = .ok (.ireturn, 1) := by decide +kernel
theorem dX4_weekOf_21 : decode cX4_weekOf 21 = .ok (.aload_n 0, 1) := by decide +kernel
theorem dX4_weekOf_22 : decode cX4_weekOf 22 = .ok (.iload 4, 2) := by decide +kernel
theorem dX4_weekOf_24 : decode cX4_weekOf 24 = .ok (.invokevirtual 23, 3) := by decide +kernel
theorem dX4_weekOf_27 : decode cX4_weekOf 27 = .ok (.istore 4, 2) := by decide +kernel
theorem dX4_weekOf_29 : decode cX4_weekOf 29 = .ok (.iinc 5 1, 3) := by decide +kernel
theorem dX4_weekOf_32 : decode cX4_weekOf 32 = .ok (.goto (-26), 3) := by decide +kernel
theorem dX4_weekOf_35 : decode cX4_weekOf 35 = .ok (.iconst (-1), 1) := by decide +kernel
theorem dX4_weekOf_36 : decode cX4_weekOf 36 = .ok (.ireturn, 1) := by decide +kernel
theorem dX5_init_0 : decode cX5_init 0 = .ok (.aload_n 0, 1) := by decide +kernel
theorem dX5_init_1 : decode cX5_init 1 = .ok (.invokespecial 3, 3) := by decide +kernel
theorem dX5_init_4 : decode cX5_init 4 = .ok (.aload_n 0, 1) := by decide +kernel
theorem dX5_init_5 : decode cX5_init 5 = .ok (.iconst 0, 1) := by decide +kernel
theorem dX5_init_6 : decode cX5_init 6 = .ok (.putfield 9, 3) := by decide +kernel
theorem dX5_init_9 : decode cX5_init 9 = .ok (.aload_n 0, 1) := by decide +kernel
theorem dX5_init_10 : decode cX5_init 10 = .ok (.iconst (-1), 1) := by decide +kernel
theorem dX5_init_11 : decode cX5_init 11 = .ok (.putfield 15, 3) := by decide +kernel
theorem dX5_init_14 : decode cX5_init 14 = .ok (.return_, 1) := by decide +kernel
theorem dX5_size_0 : decode cX5_size 0 = .ok (.aload_n 0, 1) := by decide +kernel
theorem dX5_size_1 : decode cX5_size 1 = .ok (.getfield 9, 3) := by decide +kernel
theorem dX5_size_4 : decode cX5_size 4 = .ok (.ireturn, 1) := by decide +kernel
theorem dX5_faultPlace_0 : decode cX5_faultPlace 0 = .ok (.aload_n 0, 1) := by decide +kernel
theorem dX5_faultPlace_1 : decode cX5_faultPlace 1 = .ok (.getfield 15, 3) := by decide +kernel
theorem dX5_faultPlace_4 : decode cX5_faultPlace 4 = .ok (.ireturn, 1) := by decide +kernel
theorem dX5_addOne_0 : decode cX5_addOne 0 = .ok (.aload_n 0, 1) := by decide +kernel
theorem dX5_addOne_1 : decode cX5_addOne 1 = .ok (.dup, 1) := by decide +kernel
theorem dX5_addOne_2 : decode cX5_addOne 2 = .ok (.getfield 9, 3) := by decide +kernel
theorem dX5_addOne_5 : decode cX5_addOne 5 = .ok (.iconst 1, 1) := by decide +kernel
theorem dX5_addOne_6 : decode cX5_addOne 6 = .ok (.iadd, 1) := by decide +kernel
theorem dX5_addOne_7 : decode cX5_addOne 7 = .ok (.putfield 9, 3) := by decide +kernel
theorem dX5_addOne_10 : decode cX5_addOne 10 = .ok (.return_, 1) := by decide +kernel
theorem dX5_readFrom_0 : decode cX5_readFrom 0 = .ok (.aload_n 0, 1) := by decide +kernel
theorem dX5_readFrom_1 : decode cX5_readFrom 1 = .ok (.iconst 0, 1) := by decide +kernel
theorem dX5_readFrom_2 : decode cX5_readFrom 2 = .ok (.putfield 9, 3) := by decide +kernel
theorem dX5_readFrom_5 : decode cX5_readFrom 5 = .ok (.aload_n 0, 1) := by decide +kernel
theorem dX5_readFrom_6 : decode cX5_readFrom 6 = .ok (.iconst (-1), 1) := by decide +kernel
theorem dX5_readFrom_7 : decode cX5_readFrom 7 = .ok (.putfield 15, 3) := by decide +kernel
theorem dX5_readFrom_10 : decode cX5_readFrom 10 = .ok (.iconst 0, 1) := by decide +kernel
theorem dX5_readFrom_11 : decode cX5_readFrom 11 = .ok (.istore_n 2, 1) := by decide +kernel
theorem dX5_readFrom_12 : decode cX5_readFrom 12 = .ok (.iconst 0, 1) := by decide +kernel
theorem dX5_readFrom_13 : decode cX5_readFrom 13 = .ok (.istore_n 3, 1) := by decide +kernel
theorem dX5_readFrom_14 : decode cX5_readFrom 14 = .ok (.iload_n 3, 1) := by decide +kernel
theorem dX5_readFrom_15 : decode cX5_readFrom 15 = .ok (.aload_n 1, 1) := by decide +kernel
theorem dX5_readFrom_16 : decode cX5_readFrom 16 = .ok (.invokevirtual 18, 3) := by decide +kernel
theorem dX5_readFrom_19 : decode cX5_readFrom 19 = .ok (.if_icmp .ge 38, 3) := by decide +kernel
theorem dX5_readFrom_22 : decode cX5_readFrom 22 = .ok (.aload_n 0, 1) := by decide +kernel
theorem dX5_readFrom_23 : decode cX5_readFrom 23 = .ok (.getfield 15, 3) := by decide +kernel
theorem dX5_readFrom_26 : decode cX5_readFrom 26 = .ok (.iconst (-1), 1) := by decide +kernel
theorem dX5_readFrom_27 : decode cX5_readFrom 27 = .ok (.if_icmp .ne 30, 3) := by decide +kernel
theorem dX5_readFrom_30 : decode cX5_readFrom 30 = .ok (.aload_n 0, 1) := by decide +kernel
theorem dX5_readFrom_31 : decode cX5_readFrom 31 = .ok (.iload_n 2, 1) := by decide +kernel
theorem dX5_readFrom_32 : decode cX5_readFrom 32 = .ok (.aload_n 1, 1) := by decide +kernel
theorem dX5_readFrom_33 : decode cX5_readFrom 33 = .ok (.iload_n 3, 1) := by decide +kernel
theorem dX5_readFrom_34 : decode cX5_readFrom 34 = .ok (.invokevirtual 24, 3) := by decide +kernel
theorem dX5_readFrom_37 : decode cX5_readFrom 37 = .ok (.invokevirtual 28, 3) := by decide +kernel
theorem dX5_readFrom_40 : decode cX5_readFrom 40 = .ok (.istore_n 2, 1) := by decide +kernel
theorem dX5_readFrom_41 : decode cX5_readFrom 41 = .ok (.iload_n 2, 1) := by decide +kernel
theorem dX5_readFrom_42 : decode cX5_readFrom 42 = .ok (.iconst (-1), 1) := by decide +kernel
theorem dX5_readFrom_43 : decode cX5_readFrom 43 = .ok (.if_icmp .ne 8, 3) := by decide +kernel
theorem dX5_readFrom_46 : decode cX5_readFrom 46 = .ok (.aload_n 0, 1) := by decide +kernel
theorem dX5_readFrom_47 : decode cX5_readFrom 47 = .ok (.iload_n 3, 1) := by decide +kernel
theorem dX5_readFrom_48 : decode cX5_readFrom 48 = .ok (.putfield 15, 3) := by decide +kernel
theorem dX5_readFrom_51 : decode cX5_readFrom 51 = .ok (.iinc 3 1, 3) := by decide +kernel
theorem dX5_readFrom_54 : decode cX5_readFrom 54 = .ok (.goto (-40), 3) := by decide +kernel
theorem dX5_readFrom_57 : decode cX5_readFrom 57 = .ok (.aload_n 0, 1) := by decide +kernel
theorem dX5_readFrom_58 : decode cX5_readFrom 58 = .ok (.getfield 15, 3) := by decide +kernel
theorem dX5_readFrom_61 : decode cX5_readFrom 61 = .ok (.iconst (-1), 1) := by decide +kernel
theorem dX5_readFrom_62 : decode cX5_readFrom 62 = .ok (.if_icmp .ne 23, 3) := by decide +kernel
theorem dX5_readFrom_65 : decode cX5_readFrom 65 = .ok (.iload_n 2, 1) := by decide +kernel
theorem dX5_readFrom_66 : decode cX5_readFrom 66 = .ok (.iconst 1, 1) := by decide +kernel
theorem dX5_readFrom_67 : decode cX5_readFrom 67 = .ok (.if_icmp .eq 18, 3) := by decide +kernel
theorem dX5_readFrom_70 : decode cX5_readFrom 70 = .ok (.aload_n 1, 1) := by decide +kernel
theorem dX5_readFrom_71 : decode cX5_readFrom 71 = .ok (.invokevirtual 18, 3) := by decide +kernel
theorem dX5_readFrom_74 : decode cX5_readFrom 74 = .ok (.ifCond .le 11, 3) := by decide +kernel
theorem dX5_readFrom_77 : decode cX5_readFrom 77 = .ok (.aload_n 0, 1) := by decide +kernel
theorem dX5_readFrom_78 : decode cX5_readFrom 78 = .ok (.aload_n 1, 1) := by decide +kernel
theorem dX5_readFrom_79 : decode cX5_readFrom 79 = .ok (.invokevirtual 18, 3) := by decide +kernel
theorem dX5_readFrom_82 : decode cX5_readFrom 82 = .ok (.putfield 15, 3) := by decide +kernel
theorem dX5_readFrom_85 : decode cX5_readFrom 85 = .ok (.aload_n 0, 1) := by decide +kernel
theorem dX5_readFrom_86 : decode cX5_readFrom 86 = .ok (.getfield 15, 3) := by decide +kernel
theorem dX5_readFrom_89 : decode cX5_readFrom 89 = .ok (.iconst (-1), 1) := by decide +kernel
theorem dX5_readFrom_90 : decode cX5_readFrom 90 = .ok (.if_icmp .eq 8, 3) := by decide +kernel
theorem dX5_readFrom_93 : decode cX5_readFrom 93 = .ok (.aload_n 0, 1) := by decide +kernel
theorem dX5_readFrom_94 : decode cX5_readFrom 94 = .ok (.iconst 0, 1) := by decide +kernel
theorem dX5_readFrom_95 : decode cX5_readFrom 95 = .ok (.putfield 9, 3) := by decide +kernel
theorem dX5_readFrom_98 : decode cX5_readFrom 98 = .ok (.return_, 1) := by decide +kernel
theorem dX6_init_0 : decode cX6_init 0 = .ok (.aload_n 0, 1) := by decide +kernel
theorem dX6_init_1 : decode cX6_init 1 = .ok (.invokespecial 3, 3) := by decide +kernel
theorem dX6_init_4 : decode cX6_init 4 = .ok (.aload_n 0, 1) := by decide +kernel
theorem dX6_init_5 : decode cX6_init 5 = .ok (.bipush 8, 2) := by decide +kernel
theorem dX6_init_7 : decode cX6_init 7 = .ok (.newarray .int, 2) := by decide +kernel
theorem dX6_init_9 : decode cX6_init 9 = .ok (.putfield 9, 3) := by decide +kernel
theorem dX6_init_12 : decode cX6_init 12 = .ok (.aload_n 0, 1) := by decide +kernel
theorem dX6_init_13 : decode cX6_init 13 = .ok (.bipush 8, 2) := by decide +kernel
theorem dX6_init_15 : decode cX6_init 15 = .ok (.newarray .int, 2) := by decide +kernel
theorem dX6_init_17 : decode cX6_init 17 = .ok (.putfield 15, 3) := by decide +kernel
theorem dX6_init_20 : decode cX6_init 20 = .ok (.aload_n 0, 1) := by decide +kernel
theorem dX6_init_21 : decode cX6_init 21 = .ok (.iconst 0, 1) := by decide +kernel
theorem dX6_init_22 : decode cX6_init 22 = .ok (.putfield 18, 3) := by decide +kernel
theorem dX6_init_25 : decode cX6_init 25 = .ok (.return_, 1) := by decide +kernel
theorem dX6_size_0 : decode cX6_size 0 = .ok (.aload_n 0, 1) := by decide +kernel
theorem dX6_size_1 : decode cX6_size 1 = .ok (.getfield 18, 3) := by decide +kernel
theorem dX6_size_4 : decode cX6_size 4 = .ok (.ireturn, 1) := by decide +kernel
theorem dX6_clear_0 : decode cX6_clear 0 = .ok (.aload_n 0, 1) := by decide +kernel
theorem dX6_clear_1 : decode cX6_clear 1 = .ok (.iconst 0, 1) := by decide +kernel
theorem dX6_clear_2 : decode cX6_clear 2 = .ok (.putfield 18, 3) := by decide +kernel
theorem dX6_clear_5 : decode cX6_clear 5 = .ok (.return_, 1) := by decide +kernel
theorem dX6_addSight_0 : decode cX6_addSight 0 = .ok (.aload_n 0, 1) := by decide +kernel
theorem dX6_addSight_1 : decode cX6_addSight 1 = .ok (.getfield 18, 3) := by decide +kernel
theorem dX6_addSight_4 : decode cX6_addSight 4 = .ok (.ifCond .lt 12, 3) := by decide +kernel
theorem dX6_addSight_7 : decode cX6_addSight 7 = .ok (.aload_n 0, 1) := by decide +kernel
theorem dX6_addSight_8 : decode cX6_addSight 8 = .ok (.getfield 18, 3) := by decide +kernel
theorem dX6_addSight_11 : decode cX6_addSight 11 = .ok (.bipush 8, 2) := by decide +kernel
theorem dX6_addSight_13 : decode cX6_addSight 13 = .ok (.if_icmp .lt 5, 3) := by decide +kernel
theorem dX6_addSight_16 : decode cX6_addSight 16 = .ok (.iconst 0, 1) := by decide +kernel
theorem dX6_addSight_17 : decode cX6_addSight 17 = .ok (.ireturn, 1) := by decide +kernel
theorem dX6_addSight_18 : decode cX6_addSight 18 = .ok (.aload_n 0, 1) := by decide +kernel
theorem dX6_addSight_19 : decode cX6_addSight 19 = .ok (.getfield 9, 3) := by decide +kernel
theorem dX6_addSight_22 : decode cX6_addSight 22 = .ok (.aload_n 0, 1) := by decide +kernel
theorem dX6_addSight_23 : decode cX6_addSight 23 = .ok (.getfield 18, 3) := by decide +kernel
theorem dX6_addSight_26 : decode cX6_addSight 26 = .ok (.iload_n 1, 1) := by decide +kernel
theorem dX6_addSight_27 : decode cX6_addSight 27 = .ok (.iastore, 1) := by decide +kernel
theorem dX6_addSight_28 : decode cX6_addSight 28 = .ok (.aload_n 0, 1) := by decide +kernel
theorem dX6_addSight_29 : decode cX6_addSight 29 = .ok (.getfield 15, 3) := by decide +kernel
theorem dX6_addSight_32 : decode cX6_addSight 32 = .ok (.aload_n 0, 1) := by decide +kernel
theorem dX6_addSight_33 : decode cX6_addSight 33 = .ok (.getfield 18, 3) := by decide +kernel
theorem dX6_addSight_36 : decode cX6_addSight 36 = .ok (.iload_n 2, 1) := by decide +kernel
theorem dX6_addSight_37 : decode cX6_addSight 37 = .ok (.iastore, 1) := by decide +kernel
theorem dX6_addSight_38 : decode cX6_addSight 38 = .ok (.aload_n 0, 1) := by decide +kernel
theorem dX6_addSight_39 : decode cX6_addSight 39 = .ok (.dup, 1) := by decide +kernel
theorem dX6_addSight_40 : decode cX6_addSight 40 = .ok (.getfield 18, 3) := by decide +kernel
theorem dX6_addSight_43 : decode cX6_addSight 43 = .ok (.iconst 1, 1) := by decide +kernel
theorem dX6_addSight_44 : decode cX6_addSight 44 = .ok (.iadd, 1) := by decide +kernel
theorem dX6_addSight_45 : decode cX6_addSight 45 = .ok (.putfield 18, 3) := by decide +kernel
theorem dX6_addSight_48 : decode cX6_addSight 48 = .ok (.iconst 1, 1) := by decide +kernel
theorem dX6_addSight_49 : decode cX6_addSight 49 = .ok (.ireturn, 1) := by decide +kernel
theorem dX6_howManyStand_0 : decode cX6_howManyStand 0 = .ok (.iconst 0, 1) := by decide +kernel
theorem dX6_howManyStand_1 : decode cX6_howManyStand 1 = .ok (.istore_n 2, 1) := by decide +kernel
theorem dX6_howManyStand_2 : decode cX6_howManyStand 2 = .ok (.iconst 0, 1) := by decide +kernel
theorem dX6_howManyStand_3 : decode cX6_howManyStand 3 = .ok (.istore_n 3, 1) := by decide +kernel
theorem dX6_howManyStand_4 : decode cX6_howManyStand 4 = .ok (.iload_n 3, 1) := by decide +kernel
theorem dX6_howManyStand_5 : decode cX6_howManyStand 5 = .ok (.sipush 256, 3) := by decide +kernel
theorem dX6_howManyStand_8 : decode cX6_howManyStand 8 = .ok (.if_icmp .ge 21, 3) := by decide +kernel
theorem dX6_howManyStand_11 : decode cX6_howManyStand 11 = .ok (.aload_n 0, 1) := by decide +kernel
theorem dX6_howManyStand_12 : decode cX6_howManyStand 12 = .ok (.iload_n 3, 1) := by decide +kernel
theorem dX6_howManyStand_13 : decode cX6_howManyStand 13 = .ok (.iload_n 1, 1) := by decide +kernel
theorem dX6_howManyStand_14 : decode cX6_howManyStand 14 = .ok (.invokevirtual 22, 3) := by decide +kernel
theorem dX6_howManyStand_17 : decode cX6_howManyStand 17 = .ok (.ifCond .eq 6, 3) := by decide +kernel
theorem dX6_howManyStand_20 : decode cX6_howManyStand 20 = .ok (.iinc 2 1, 3) := by decide +kernel
theorem dX6_howManyStand_23 : decode cX6_howManyStand 23 = .ok (.iinc 3 1, 3) := by decide +kernel
theorem dX6_howManyStand_26 : decode cX6_howManyStand 26 = .ok (.goto (-22), 3) := by decide +kernel
theorem dX6_howManyStand_29 : decode cX6_howManyStand 29 = .ok (.iload_n 2, 1) := by decide +kernel
theorem dX6_howManyStand_30 : decode cX6_howManyStand 30 = .ok (.ireturn, 1) := by decide +kernel
theorem dX6_fewestStand_0 : decode cX6_fewestStand 0 = .ok (.iconst (-1), 1) := by decide +kernel
theorem dX6_fewestStand_1 : decode cX6_fewestStand 1 = .ok (.istore_n 2, 1) := by decide +kernel
theorem dX6_fewestStand_2 : decode cX6_fewestStand 2 = .ok (.iconst 0, 1) := by decide +kernel
theorem dX6_fewestStand_3 : decode cX6_fewestStand 3 = .ok (.istore_n 3, 1) := by decide +kernel
theorem dX6_fewestStand_4 : decode cX6_fewestStand 4 = .ok (.iload_n 3, 1) := by decide +kernel
theorem dX6_fewestStand_5 : decode cX6_fewestStand 5 = .ok (.sipush 256, 3) := by decide +kernel
theorem dX6_fewestStand_8 : decode cX6_fewestStand 8 = .ok (.if_icmp .ge 36, 3) := by decide +kernel
theorem dX6_fewestStand_11 : decode cX6_fewestStand 11 = .ok (.iload_n 2, 1) := by decide +kernel
theorem dX6_fewestStand_12 : decode cX6_fewestStand 12 = .ok (.iconst (-1), 1) := by decide +kernel
theorem dX6_fewestStand_13 : decode cX6_fewestStand 13 = .ok (.if_icmp .eq 14, 3) := by decide +kernel
theorem dX6_fewestStand_16 : decode cX6_fewestStand 16 = .ok (.iload_n 3, 1) := by decide +kernel
theorem dX6_fewestStand_17 : decode cX6_fewestStand 17 = .ok (.invokestatic 26, 3) := by decide +kernel
theorem dX6_fewestStand_20 : decode cX6_fewestStand 20 = .ok (.iload_n 2, 1) := by decide +kernel
theorem dX6_fewestStand_21 : decode cX6_fewestStand 21 = .ok (.invokestatic 26, 3) := by decide +kernel
theorem dX6_fewestStand_24 : decode cX6_fewestStand 24 = .ok (.if_icmp .ge 14, 3) := by decide +kernel
theorem dX6_fewestStand_27 : decode cX6_fewestStand 27 = .ok (.aload_n 0, 1) := by decide +kernel
theorem dX6_fewestStand_28 : decode cX6_fewestStand 28 = .ok (.iload_n 3, 1) := by decide +kernel
theorem dX6_fewestStand_29 : decode cX6_fewestStand 29 = .ok (.iload_n 1, 1) := by decide +kernel
theorem dX6_fewestStand_30 : decode cX6_fewestStand 30 = .ok (.invokevirtual 22, 3) := by decide +kernel
theorem dX6_fewestStand_33 : decode cX6_fewestStand 33 = .ok (.ifCond .eq 5, 3) := by decide +kernel
theorem dX6_fewestStand_36 : decode cX6_fewestStand 36 = .ok (.iload_n 3, 1) := by decide +kernel
theorem dX6_fewestStand_37 : decode cX6_fewestStand 37 = .ok (.istore_n 2, 1) := by decide +kernel
theorem dX6_fewestStand_38 : decode cX6_fewestStand 38 = .ok (.iinc 3 1, 3) := by decide +kernel
theorem dX6_fewestStand_41 : decode cX6_fewestStand 41 = .ok (.goto (-37), 3) := by decide +kernel
theorem dX6_fewestStand_44 : decode cX6_fewestStand 44 = .ok (.iload_n 2, 1) := by decide +kernel
theorem dX6_fewestStand_45 : decode cX6_fewestStand 45 = .ok (.ireturn, 1) := by decide +kernel
theorem dX6_nearestHalf_0 : decode cX6_nearestHalf 0 = .ok (.aload_n 0, 1) := by decide +kernel
theorem dX6_nearestHalf_1 : decode cX6_nearestHalf 1 = .ok (.iload_n 1, 1) := by decide +kernel
theorem dX6_nearestHalf_2 : decode cX6_nearestHalf 2 = .ok (.invokevirtual 32, 3) := by decide +kernel
theorem dX6_nearestHalf_5 : decode cX6_nearestHalf 5 = .ok (.istore_n 2, 1) := by decide +kernel
theorem dX6_nearestHalf_6 : decode cX6_nearestHalf 6 = .ok (.iload_n 2, 1) := by decide +kernel
theorem dX6_nearestHalf_7 : decode cX6_nearestHalf 7 = .ok (.ifCond .ne 5, 3) := by decide +kernel
theorem dX6_nearestHalf_10 : decode cX6_nearestHalf 10 = .ok (.iconst (-1), 1) := by decide +kernel
theorem dX6_nearestHalf_11 : decode cX6_nearestHalf 11 = .ok (.ireturn, 1) := by decide +kernel
theorem dX6_nearestHalf_12 : decode cX6_nearestHalf 12 = .ok (.iconst (-1), 1) := by decide +kernel
theorem dX6_nearestHalf_13 : decode cX6_nearestHalf 13 = .ok (.istore_n 3, 1) := by decide +kernel
theorem dX6_nearestHalf_14 : decode cX6_nearestHalf 14 = .ok (.iconst 0, 1) := by decide +kernel
theorem dX6_nearestHalf_15 : decode cX6_nearestHalf 15 = .ok (.istore 4, 2) := by decide +kernel
theorem dX6_nearestHalf_17 : decode cX6_nearestHalf 17 = .ok (.iconst 0, 1) := by decide +kernel
theorem dX6_nearestHalf_18 : decode cX6_nearestHalf 18 = .ok (.istore 5, 2) := by decide +kernel
theorem dX6_nearestHalf_20 : decode cX6_nearestHalf 20 = .ok (.iload 5, 2) := by decide +kernel
theorem dX6_nearestHalf_22 : decode cX6_nearestHalf 22 = .ok (.bipush 8, 2) := by decide +kernel
theorem dX6_nearestHalf_24 : decode cX6_nearestHalf 24 = .ok (.if_icmp .ge 44, 3) := by decide +kernel
theorem dX6_nearestHalf_27 : decode cX6_nearestHalf 27 = .ok (.iconst 2, 1) := by decide +kernel
theorem dX6_nearestHalf_28 : decode cX6_nearestHalf 28 = .ok (.aload_n 0, 1) := by decide +kernel
theorem dX6_nearestHalf_29 : decode cX6_nearestHalf 29 = .ok (.iload_n 1, 1) := by decide +kernel
theorem dX6_nearestHalf_30 : decode cX6_nearestHalf 30 = .ok (.iload 5, 2) := by decide +kernel
theorem dX6_nearestHalf_32 : decode cX6_nearestHalf 32 = .ok (.invokevirtual 35, 3) := by decide +kernel
theorem dX6_nearestHalf_35 : decode cX6_nearestHalf 35 = .ok (.imul, 1) := by decide +kernel
theorem dX6_nearestHalf_36 : decode cX6_nearestHalf 36 = .ok (.iload_n 2, 1) := by decide +kernel
theorem dX6_nearestHalf_37 : decode cX6_nearestHalf 37 = .ok (.isub, 1) := by decide +kernel
theorem dX6_nearestHalf_38 : decode cX6_nearestHalf 38 = .ok (.invokestatic 39, 3) := by decide +kernel
theorem dX6_nearestHalf_41 : decode cX6_nearestHalf 41 = .ok (.istore 6, 2) := by decide +kernel
theorem dX6_nearestHalf_43 : decode cX6_nearestHalf 43 = .ok (.iload_n 3, 1) := by decide +kernel
theorem dX6_nearestHalf_44 : decode cX6_nearestHalf 44 = .ok (.iconst (-1), 1) := by decide +kernel
theorem dX6_nearestHalf_45 : decode cX6_nearestHalf 45 = .ok (.if_icmp .eq 10, 3) := by decide +kernel
theorem dX6_nearestHalf_48 : decode cX6_nearestHalf 48 = .ok (.iload 6, 2) := by decide +kernel
theorem dX6_nearestHalf_50 : decode cX6_nearestHalf 50 = .ok (.iload 4, 2) := by decide +kernel
theorem dX6_nearestHalf_52 : decode cX6_nearestHalf 52 = .ok (.if_icmp .ge 10, 3) := by decide +kernel
theorem dX6_nearestHalf_55 : decode cX6_nearestHalf 55 = .ok (.iload 5, 2) := by decide +kernel
theorem dX6_nearestHalf_57 : decode cX6_nearestHalf 57 = .ok (.istore_n 3, 1) := by decide +kernel
theorem dX6_nearestHalf_58 : decode cX6_nearestHalf 58 = .ok (.iload 6, 2) := by decide +kernel
theorem dX6_nearestHalf_60 : decode cX6_nearestHalf 60 = .ok (.istore 4, 2) := by decide +kernel
theorem dX6_nearestHalf_62 : decode cX6_nearestHalf 62 = .ok (.iinc 5 1, 3) := by decide +kernel
theorem dX6_nearestHalf_65 : decode cX6_nearestHalf 65 = .ok (.goto (-45), 3) := by decide +kernel
theorem dX6_nearestHalf_68 : decode cX6_nearestHalf 68 = .ok (.iload_n 3, 1) := by decide +kernel
theorem dX6_nearestHalf_69 : decode cX6_nearestHalf 69 = .ok (.ireturn, 1) := by decide +kernel
theorem dX6_howManyStandWith_0 : decode cX6_howManyStandWith 0 = .ok (.iconst 0, 1) := by decide +kernel
theorem dX6_howManyStandWith_1 : decode cX6_howManyStandWith 1 = .ok (.istore_n 3, 1) := by decide +kernel
theorem dX6_howManyStandWith_2 : decode cX6_howManyStandWith 2 = .ok (.iconst 0, 1) := by decide +kernel
theorem dX6_howManyStandWith_3 : decode cX6_howManyStandWith 3 = .ok (.istore 4, 2) := by decide +kernel
theorem dX6_howManyStandWith_5 : decode cX6_howManyStandWith 5 = .ok (.iload 4, 2) := by decide +kernel
theorem dX6_howManyStandWith_7 : decode cX6_howManyStandWith 7 = .ok (.sipush 256, 3) := by decide +kernel
theorem dX6_howManyStandWith_10 : decode cX6_howManyStandWith 10 = .ok (.if_icmp .ge 32, 3) := by decide +kernel
theorem dX6_howManyStandWith_13 : decode cX6_howManyStandWith 13 = .ok (.iload 4, 2) := by decide +kernel
theorem dX6_howManyStandWith_15 : decode cX6_howManyStandWith 15 = .ok (.iload_n 2, 1) := by decide +kernel
theorem dX6_howManyStandWith_16 : decode cX6_howManyStandWith 16 = .ok (.ishr, 1) := by decide +kernel
theorem dX6_howManyStandWith_17 : decode cX6_howManyStandWith 17 = .ok (.iconst 1, 1) := by decide +kernel
theorem dX6_howManyStandWith_18 : decode cX6_howManyStandWith 18 = .ok (.iand, 1) := by decide +kernel
theorem dX6_howManyStandWith_19 : decode cX6_howManyStandWith 19 = .ok (.iconst 1, 1) := by decide +kernel
theorem dX6_howManyStandWith_20 : decode cX6_howManyStandWith 20 = .ok (.if_icmp .ne 16, 3) := by decide +kernel
theorem dX6_howManyStandWith_23 : decode cX6_howManyStandWith 23 = .ok (.aload_n 0, 1) := by decide +kernel
theorem dX6_howManyStandWith_24 : decode cX6_howManyStandWith 24 = .ok (.iload 4, 2) := by decide +kernel
theorem dX6_howManyStandWith_26 : decode cX6_howManyStandWith 26 = .ok (.iload_n 1, 1) := by decide +kernel
theorem dX6_howManyStandWith_27 : decode cX6_howManyStandWith 27 = .ok (.invokevirtual 22, 3) := by decide +kernel
theorem dX6_howManyStandWith_30 : decode cX6_howManyStandWith 30 = .ok (.ifCond .eq 6, 3) := by decide +kernel
theorem dX6_howManyStandWith_33 : decode cX6_howManyStandWith 33 = .ok (.iinc 3 1, 3) := by decide +kernel
theorem dX6_howManyStandWith_36 : decode cX6_howManyStandWith 36 = .ok (.iinc 4 1, 3) := by decide +kernel
theorem dX6_howManyStandWith_39 : decode cX6_howManyStandWith 39 = .ok (.goto (-34), 3) := by decide +kernel
theorem dX6_howManyStandWith_42 : decode cX6_howManyStandWith 42 = .ok (.iload_n 3, 1) := by decide +kernel
theorem dX6_howManyStandWith_43 : decode cX6_howManyStandWith 43 = .ok (.ireturn, 1) := by decide +kernel
theorem dX6_mayStand_0 : decode cX6_mayStand 0 = .ok (.iconst 0, 1) := by decide +kernel
theorem dX6_mayStand_1 : decode cX6_mayStand 1 = .ok (.istore_n 3, 1) := by decide +kernel
theorem dX6_mayStand_2 : decode cX6_mayStand 2 = .ok (.iload_n 3, 1) := by decide +kernel
theorem dX6_mayStand_3 : decode cX6_mayStand 3 = .ok (.aload_n 0, 1) := by decide +kernel
theorem dX6_mayStand_4 : decode cX6_mayStand 4 = .ok (.getfield 18, 3) := by decide +kernel
theorem dX6_mayStand_7 : decode cX6_mayStand 7 = .ok (.if_icmp .ge 59, 3) := by decide +kernel
theorem dX6_mayStand_10 : decode cX6_mayStand 10 = .ok (.iload_n 3, 1) := by decide +kernel
theorem dX6_mayStand_11 : decode cX6_mayStand 11 = .ok (.bipush 8, 2) := by decide +kernel
theorem dX6_mayStand_13 : decode cX6_mayStand 13 = .ok (.if_icmp .ge 53, 3) := by decide +kernel
theorem dX6_mayStand_16 : decode cX6_mayStand 16 = .ok (.aload_n 0, 1) := by decide +kernel
theorem dX6_mayStand_17 : decode cX6_mayStand 17 = .ok (.getfield 15, 3) := by decide +kernel
theorem dX6_mayStand_20 : decode cX6_mayStand 20 = .ok (.iload_n 3, 1) := by decide +kernel
theorem dX6_mayStand_21 : decode cX6_mayStand 21 = .ok (.iaload, 1) := by decide +kernel
theorem dX6_mayStand_22 : decode cX6_mayStand 22 = .ok (.iload_n 2, 1) := by decide +kernel
theorem dX6_mayStand_23 : decode cX6_mayStand 23 = .ok (.ishr, 1) := by decide +kernel
theorem dX6_mayStand_24 : decode cX6_mayStand 24 = .ok (.iconst 1, 1) := by decide +kernel
theorem dX6_mayStand_25 : decode cX6_mayStand 25 = .ok (.iand, 1) := by decide +kernel
theorem dX6_mayStand_26 : decode cX6_mayStand 26 = .ok (.iconst 1, 1) := by decide +kernel
theorem dX6_mayStand_27 : decode cX6_mayStand 27 = .ok (.if_icmp .ne 7, 3) := by decide +kernel
theorem dX6_mayStand_30 : decode cX6_mayStand 30 = .ok (.iconst 1, 1) := by decide +kernel
theorem dX6_mayStand_31 : decode cX6_mayStand 31 = .ok (.goto 4, 3) := by decide +kernel
theorem dX6_mayStand_34 : decode cX6_mayStand 34 = .ok (.iconst 0, 1) := by decide +kernel
theorem dX6_mayStand_35 : decode cX6_mayStand 35 = .ok (.istore 4, 2) := by decide +kernel
theorem dX6_mayStand_37 : decode cX6_mayStand 37 = .ok (.iload 4, 2) := by decide +kernel
theorem dX6_mayStand_39 : decode cX6_mayStand 39 = .ok (.aload_n 0, 1) := by decide +kernel
theorem dX6_mayStand_40 : decode cX6_mayStand 40 = .ok (.getfield 9, 3) := by decide +kernel
theorem dX6_mayStand_43 : decode cX6_mayStand 43 = .ok (.iload_n 3, 1) := by decide +kernel
theorem dX6_mayStand_44 : decode cX6_mayStand 44 = .ok (.iaload, 1) := by decide +kernel
theorem dX6_mayStand_45 : decode cX6_mayStand 45 = .ok (.iload_n 1, 1) := by decide +kernel
theorem dX6_mayStand_46 : decode cX6_mayStand 46 = .ok (.iand, 1) := by decide +kernel
theorem dX6_mayStand_47 : decode cX6_mayStand 47 = .ok (.ifCond .eq 7, 3) := by decide +kernel
theorem dX6_mayStand_50 : decode cX6_mayStand 50 = .ok (.iconst 1, 1) := by decide +kernel
theorem dX6_mayStand_51 : decode cX6_mayStand 51 = .ok (.goto 4, 3) := by decide +kernel
theorem dX6_mayStand_54 : decode cX6_mayStand 54 = .ok (.iconst 0, 1) := by decide +kernel
theorem dX6_mayStand_55 : decode cX6_mayStand 55 = .ok (.if_icmp .eq 5, 3) := by decide +kernel
theorem dX6_mayStand_58 : decode cX6_mayStand 58 = .ok (.iconst 0, 1) := by decide +kernel
theorem dX6_mayStand_59 : decode cX6_mayStand 59 = .ok (.ireturn, 1) := by decide +kernel
theorem dX6_mayStand_60 : decode cX6_mayStand 60 = .ok (.iinc 3 1, 3) := by decide +kernel
theorem dX6_mayStand_63 : decode cX6_mayStand 63 = .ok (.goto (-61), 3) := by decide +kernel
theorem dX6_mayStand_66 : decode cX6_mayStand 66 = .ok (.iconst 1, 1) := by decide +kernel
theorem dX6_mayStand_67 : decode cX6_mayStand 67 = .ok (.ireturn, 1) := by decide +kernel
theorem dX7_init_0 : decode cX7_init 0 = .ok (.aload_n 0, 1) := by decide +kernel
theorem dX7_init_1 : decode cX7_init 1 = .ok (.invokespecial 3, 3) := by decide +kernel
theorem dX7_init_4 : decode cX7_init 4 = .ok (.aload_n 0, 1) := by decide +kernel
theorem dX7_init_5 : decode cX7_init 5 = .ok (.bipush 60, 2) := by decide +kernel
theorem dX7_init_7 : decode cX7_init 7 = .ok (.newarray .int, 2) := by decide +kernel
theorem dX7_init_9 : decode cX7_init 9 = .ok (.putfield 9, 3) := by decide +kernel
theorem dX7_init_12 : decode cX7_init 12 = .ok (.aload_n 0, 1) := by decide +kernel
theorem dX7_init_13 : decode cX7_init 13 = .ok (.iconst 0, 1) := by decide +kernel
theorem dX7_init_14 : decode cX7_init 14 = .ok (.putfield 15, 3) := by decide +kernel
theorem dX7_init_17 : decode cX7_init 17 = .ok (.aload_n 0, 1) := by decide +kernel
theorem dX7_init_18 : decode cX7_init 18 = .ok (.iconst 0, 1) := by decide +kernel
theorem dX7_init_19 : decode cX7_init 19 = .ok (.putfield 19, 3) := by decide +kernel
theorem dX7_init_22 : decode cX7_init 22 = .ok (.aload_n 0, 1) := by decide +kernel
theorem dX7_init_23 : decode cX7_init 23 = .ok (.iconst 1, 1) := by decide +kernel
theorem dX7_init_24 : decode cX7_init 24 = .ok (.putfield 22, 3) := by decide +kernel
theorem dX7_init_27 : decode cX7_init 27 = .ok (.return_, 1) := by decide +kernel
theorem dX7_isLost_0 : decode cX7_isLost 0 = .ok (.aload_n 0, 1) := by decide +kernel
theorem dX7_isLost_1 : decode cX7_isLost 1 = .ok (.getfield 22, 3) := by decide +kernel
theorem dX7_isLost_4 : decode cX7_isLost 4 = .ok (.ireturn, 1) := by decide +kernel
theorem dX7_formOf_0 : decode cX7_formOf 0 = .ok (.aload_n 0, 1) := by decide +kernel
theorem dX7_formOf_1 : decode cX7_formOf 1 = .ok (.getfield 15, 3) := by decide +kernel
theorem dX7_formOf_4 : decode cX7_formOf 4 = .ok (.ireturn, 1) := by decide +kernel
theorem dX7_size_0 : decode cX7_size 0 = .ok (.aload_n 0, 1) := by decide +kernel
theorem dX7_size_1 : decode cX7_size 1 = .ok (.getfield 19, 3) := by decide +kernel
theorem dX7_size_4 : decode cX7_size 4 = .ok (.ireturn, 1) := by decide +kernel
theorem dX7_begin_0 : decode cX7_begin 0 = .ok (.aload_n 0, 1) := by decide +kernel
theorem dX7_begin_1 : decode cX7_begin 1 = .ok (.iload_n 1, 1) := by decide +kernel
theorem dX7_begin_2 : decode cX7_begin 2 = .ok (.putfield 15, 3) := by decide +kernel
theorem dX7_begin_5 : decode cX7_begin 5 = .ok (.aload_n 0, 1) := by decide +kernel
theorem dX7_begin_6 : decode cX7_begin 6 = .ok (.iconst 0, 1) := by decide +kernel
theorem dX7_begin_7 : decode cX7_begin 7 = .ok (.iload_n 2, 1) := by decide +kernel
theorem dX7_begin_8 : decode cX7_begin 8 = .ok (.bipush 60, 2) := by decide +kernel
theorem dX7_begin_10 : decode cX7_begin 10 = .ok (.invokestatic 26, 3) := by decide +kernel
theorem dX7_begin_13 : decode cX7_begin 13 = .ok (.invokestatic 32, 3) := by decide +kernel
theorem dX7_begin_16 : decode cX7_begin 16 = .ok (.putfield 19, 3) := by decide +kernel
theorem dX7_begin_19 : decode cX7_begin 19 = .ok (.aload_n 0, 1) := by decide +kernel
theorem dX7_begin_20 : decode cX7_begin 20 = .ok (.iconst 0, 1) := by decide +kernel
theorem dX7_begin_21 : decode cX7_begin 21 = .ok (.putfield 22, 3) := by decide +kernel
theorem dX7_begin_24 : decode cX7_begin 24 = .ok (.iconst 0, 1) := by decide +kernel
theorem dX7_begin_25 : decode cX7_begin 25 = .ok (.istore_n 3, 1) := by decide +kernel
theorem dX7_begin_26 : decode cX7_begin 26 = .ok (.iload_n 3, 1) := by decide +kernel
theorem dX7_begin_27 : decode cX7_begin 27 = .ok (.aload_n 0, 1) := by decide +kernel
theorem dX7_begin_28 : decode cX7_begin 28 = .ok (.getfield 19, 3) := by decide +kernel
theorem dX7_begin_31 : decode cX7_begin 31 = .ok (.if_icmp .ge 16, 3) := by decide +kernel
theorem dX7_begin_34 : decode cX7_begin 34 = .ok (.aload_n 0, 1) := by decide +kernel
theorem dX7_begin_35 : decode cX7_begin 35 = .ok (.getfield 9, 3) := by decide +kernel
theorem dX7_begin_38 : decode cX7_begin 38 = .ok (.iload_n 3, 1) := by decide +kernel
theorem dX7_begin_39 : decode cX7_begin 39 = .ok (.iconst 0, 1) := by decide +kernel
theorem dX7_begin_40 : decode cX7_begin 40 = .ok (.iastore, 1) := by decide +kernel
theorem dX7_begin_41 : decode cX7_begin 41 = .ok (.iinc 3 1, 3) := by decide +kernel
theorem dX7_begin_44 : decode cX7_begin 44 = .ok (.goto (-18), 3) := by decide +kernel
theorem dX7_begin_47 : decode cX7_begin 47 = .ok (.return_, 1) := by decide +kernel
theorem dX7_end_0 : decode cX7_end 0 = .ok (.aload_n 0, 1) := by decide +kernel
theorem dX7_end_1 : decode cX7_end 1 = .ok (.iconst 0, 1) := by decide +kernel
theorem dX7_end_2 : decode cX7_end 2 = .ok (.putfield 19, 3) := by decide +kernel
theorem dX7_end_5 : decode cX7_end 5 = .ok (.aload_n 0, 1) := by decide +kernel
theorem dX7_end_6 : decode cX7_end 6 = .ok (.iconst 1, 1) := by decide +kernel
theorem dX7_end_7 : decode cX7_end 7 = .ok (.putfield 22, 3) := by decide +kernel
theorem dX7_end_10 : decode cX7_end 10 = .ok (.return_, 1) := by decide +kernel
theorem dX7_hasItems_0 : decode cX7_hasItems 0 = .ok (.iload_n 1, 1) := by decide +kernel
theorem dX7_hasItems_1 : decode cX7_hasItems 1 = .ok (.ifCond .lt 29, 3) := by decide +kernel
theorem dX7_hasItems_4 : decode cX7_hasItems 4 = .ok (.iload_n 2, 1) := by decide +kernel
theorem dX7_hasItems_5 : decode cX7_hasItems 5 = .ok (.ifCond .lt 25, 3) := by decide +kernel
theorem dX7_hasItems_8 : decode cX7_hasItems 8 = .ok (.iload_n 1, 1) := by decide +kernel
theorem dX7_hasItems_9 : decode cX7_hasItems 9 = .ok (.aload_n 0, 1) := by decide +kernel
theorem dX7_hasItems_10 : decode cX7_hasItems 10 = .ok (.getfield 19, 3) := by decide +kernel
theorem dX7_hasItems_13 : decode cX7_hasItems 13 = .ok (.if_icmp .gt 17, 3) := by decide +kernel
theorem dX7_hasItems_16 : decode cX7_hasItems 16 = .ok (.iload_n 2, 1) := by decide +kernel
theorem dX7_hasItems_17 : decode cX7_hasItems 17 = .ok (.aload_n 0, 1) := by decide +kernel
theorem dX7_hasItems_18 : decode cX7_hasItems 18 = .ok (.getfield 19, 3) := by decide +kernel
theorem dX7_hasItems_21 : decode cX7_hasItems 21 = .ok (.iload_n 1, 1) := by decide +kernel
theorem dX7_hasItems_22 : decode cX7_hasItems 22 = .ok (.isub, 1) := by decide +kernel
theorem dX7_hasItems_23 : decode cX7_hasItems 23 = .ok (.if_icmp .gt 7, 3) := by decide +kernel
theorem dX7_hasItems_26 : decode cX7_hasItems 26 = .ok (.iconst 1, 1) := by decide +kernel
theorem dX7_hasItems_27 : decode cX7_hasItems 27 = .ok (.goto 4, 3) := by decide +kernel
theorem dX7_hasItems_30 : decode cX7_hasItems 30 = .ok (.iconst 0, 1) := by decide +kernel
theorem dX7_hasItems_31 : decode cX7_hasItems 31 = .ok (.ireturn, 1) := by decide +kernel
theorem dX7_item_0 : decode cX7_item 0 = .ok (.aload_n 0, 1) := by decide +kernel
theorem dX7_item_1 : decode cX7_item 1 = .ok (.iload_n 1, 1) := by decide +kernel
theorem dX7_item_2 : decode cX7_item 2 = .ok (.iconst 1, 1) := by decide +kernel
theorem dX7_item_3 : decode cX7_item 3 = .ok (.invokevirtual 35, 3) := by decide +kernel
theorem dX7_item_6 : decode cX7_item 6 = .ok (.ifCond .eq 18, 3) := by decide +kernel
theorem dX7_item_9 : decode cX7_item 9 = .ok (.iload_n 1, 1) := by decide +kernel
theorem dX7_item_10 : decode cX7_item 10 = .ok (.bipush 60, 2) := by decide +kernel
theorem dX7_item_12 : decode cX7_item 12 = .ok (.if_icmp .ge 12, 3) := by decide +kernel
theorem dX7_item_15 : decode cX7_item 15 = .ok (.aload_n 0, 1) := by decide +kernel
theorem dX7_item_16 : decode cX7_item 16 = .ok (.getfield 9, 3) := by decide +kernel
theorem dX7_item_19 : decode cX7_item 19 = .ok (.iload_n 1, 1) := by decide +kernel
theorem dX7_item_20 : decode cX7_item 20 = .ok (.iaload, 1) := by decide +kernel
theorem dX7_item_21 : decode cX7_item 21 = .ok (.goto 4, 3) := by decide +kernel
theorem dX7_item_24 : decode cX7_item 24 = .ok (.iconst 0, 1) := by decide +kernel
theorem dX7_item_25 : decode cX7_item 25 = .ok (.ireturn, 1) := by decide +kernel
theorem dX7_setItem_0 : decode cX7_setItem 0 = .ok (.aload_n 0, 1) := by decide +kernel
theorem dX7_setItem_1 : decode cX7_setItem 1 = .ok (.iload_n 1, 1) := by decide +kernel
theorem dX7_setItem_2 : decode cX7_setItem 2 = .ok (.iconst 1, 1) := by decide +kernel
theorem dX7_setItem_3 : decode cX7_setItem 3 = .ok (.invokevirtual 35, 3) := by decide +kernel
theorem dX7_setItem_6 : decode cX7_setItem 6 = .ok (.ifCond .eq 20, 3) := by decide +kernel
theorem dX7_setItem_9 : decode cX7_setItem 9 = .ok (.iload_n 1, 1) := by decide +kernel
theorem dX7_setItem_10 : decode cX7_setItem 10 = .ok (.bipush 60, 2) := by decide +kernel
theorem dX7_setItem_12 : decode cX7_setItem 12 = .ok (.if_icmp .ge 14, 3) := by decide +kernel
theorem dX7_setItem_15 : decode cX7_setItem 15 = .ok (.aload_n 0, 1) := by decide +kernel
theorem dX7_setItem_16 : decode cX7_setItem 16 = .ok (.getfield 9, 3) := by decide +kernel
theorem dX7_setItem_19 : decode cX7_setItem 19 = .ok (.iload_n 1, 1) := by decide +kernel
theorem dX7_setItem_20 : decode cX7_setItem 20 = .ok (.aload_n 0, 1) := by decide +kernel
theorem dX7_setItem_21 : decode cX7_setItem 21 = .ok (.iload_n 2, 1) := by decide +kernel
theorem dX7_setItem_22 : decode cX7_setItem 22 = .ok (.invokevirtual 39, 3) := by decide +kernel
theorem dX7_setItem_25 : decode cX7_setItem 25 = .ok (.iastore, 1) := by decide +kernel
theorem dX7_setItem_26 : decode cX7_setItem 26 = .ok (.return_, 1) := by decide +kernel
theorem dX7_takeFrom_0 : decode cX7_takeFrom 0 = .ok (.aload_n 1, 1) := by decide +kernel
theorem dX7_takeFrom_1 : decode cX7_takeFrom 1 = .ok (.iload_n 2, 1) := by decide +kernel
theorem dX7_takeFrom_2 : decode cX7_takeFrom 2 = .ok (.iload 4, 2) := by decide +kernel
theorem dX7_takeFrom_4 : decode cX7_takeFrom 4 = .ok (.invokevirtual 35, 3) := by decide +kernel
theorem dX7_takeFrom_7 : decode cX7_takeFrom 7 = .ok (.ifCond .eq 28, 3) := by decide +kernel
theorem dX7_takeFrom_10 : decode cX7_takeFrom 10 = .ok (.aload_n 0, 1) := by decide +kernel
theorem dX7_takeFrom_11 : decode cX7_takeFrom 11 = .ok (.iload_n 3, 1) := by decide +kernel
theorem dX7_takeFrom_12 : decode cX7_takeFrom 12 = .ok (.iload 4, 2) := by decide +kernel
theorem dX7_takeFrom_14 : decode cX7_takeFrom 14 = .ok (.invokevirtual 35, 3) := by decide +kernel
theorem dX7_takeFrom_17 : decode cX7_takeFrom 17 = .ok (.ifCond .eq 18, 3) := by decide +kernel
theorem dX7_takeFrom_20 : decode cX7_takeFrom 20 = .ok (.aload_n 1, 1) := by decide +kernel
theorem dX7_takeFrom_21 : decode cX7_takeFrom 21 = .ok (.getfield 9, 3) := by decide +kernel
theorem dX7_takeFrom_24 : decode cX7_takeFrom 24 = .ok (.iload_n 2, 1) := by decide +kernel
theorem dX7_takeFrom_25 : decode cX7_takeFrom 25 = .ok (.aload_n 0, 1) := by decide +kernel
theorem dX7_takeFrom_26 : decode cX7_takeFrom 26 = .ok (.getfield 9, 3) := by decide +kernel
theorem dX7_takeFrom_29 : decode cX7_takeFrom 29 = .ok (.iload_n 3, 1) := by decide +kernel
theorem dX7_takeFrom_30 : decode cX7_takeFrom 30 = .ok (.iload 4, 2) := by decide +kernel
theorem dX7_takeFrom_32 : decode cX7_takeFrom 32 = .ok (.invokestatic 43, 3) := by decide +kernel
theorem dX7_takeFrom_35 : decode cX7_takeFrom 35 = .ok (.return_, 1) := by decide +kernel
theorem dX7_asForm_0 : decode cX7_asForm 0 = .ok (.aload_n 0, 1) := by decide +kernel
theorem dX7_asForm_1 : decode cX7_asForm 1 = .ok (.getfield 15, 3) := by decide +kernel
theorem dX7_asForm_4 : decode cX7_asForm 4 = .ok (.ifCond .ne 6, 3) := by decide +kernel
theorem dX7_asForm_7 : decode cX7_asForm 7 = .ok (.iload_n 1, 1) := by decide +kernel
theorem dX7_asForm_8 : decode cX7_asForm 8 = .ok (.i2b, 1) := by decide +kernel
theorem dX7_asForm_9 : decode cX7_asForm 9 = .ok (.ireturn, 1) := by decide +kernel
theorem dX7_asForm_10 : decode cX7_asForm 10 = .ok (.aload_n 0, 1) := by decide +kernel
theorem dX7_asForm_11 : decode cX7_asForm 11 = .ok (.getfield 15, 3) := by decide +kernel
theorem dX7_asForm_14 : decode cX7_asForm 14 = .ok (.iconst 1, 1) := by decide +kernel
theorem dX7_asForm_15 : decode cX7_asForm 15 = .ok (.if_icmp .ne 8, 3) := by decide +kernel
theorem dX7_asForm_18 : decode cX7_asForm 18 = .ok (.iload_n 1, 1) := by decide +kernel
theorem dX7_asForm_19 : decode cX7_asForm 19 = .ok (.i2s, 1) := by decide +kernel
theorem dX7_asForm_20 : decode cX7_asForm 20 = .ok (.goto 4, 3) := by decide +kernel
theorem dX7_asForm_23 : decode cX7_asForm 23 = .ok (.iload_n 1, 1) := by decide +kernel
theorem dX7_asForm_24 : decode cX7_asForm 24 = .ok (.ireturn, 1) := by decide +kernel
theorem dX8_init_0 : decode cX8_init 0 = .ok (.aload_n 0, 1) := by decide +kernel
theorem dX8_init_1 : decode cX8_init 1 = .ok (.invokespecial 3, 3) := by decide +kernel
theorem dX8_init_4 : decode cX8_init 4 = .ok (.aload_n 0, 1) := by decide +kernel
theorem dX8_init_5 : decode cX8_init 5 = .ok (.iload_n 1, 1) := by decide +kernel
theorem dX8_init_6 : decode cX8_init 6 = .ok (.iconst 0, 1) := by decide +kernel
theorem dX8_init_7 : decode cX8_init 7 = .ok (.invokestatic 9, 3) := by decide +kernel
theorem dX8_init_10 : decode cX8_init 10 = .ok (.newarray .int, 2) := by decide +kernel
theorem dX8_init_12 : decode cX8_init 12 = .ok (.putfield 15, 3) := by decide +kernel
theorem dX8_init_15 : decode cX8_init 15 = .ok (.aload_n 0, 1) := by decide +kernel
theorem dX8_init_16 : decode cX8_init 16 = .ok (.iconst 0, 1) := by decide +kernel
theorem dX8_init_17 : decode cX8_init 17 = .ok (.putfield 21, 3) := by decide +kernel
theorem dX8_init_20 : decode cX8_init 20 = .ok (.return_, 1) := by decide +kernel
theorem dX8_size_0 : decode cX8_size 0 = .ok (.aload_n 0, 1) := by decide +kernel
theorem dX8_size_1 : decode cX8_size 1 = .ok (.getfield 21, 3) := by decide +kernel
theorem dX8_size_4 : decode cX8_size 4 = .ok (.ireturn, 1) := by decide +kernel
theorem dX8_byteAt_0 : decode cX8_byteAt 0 = .ok (.iload_n 1, 1) := by decide +kernel
theorem dX8_byteAt_1 : decode cX8_byteAt 1 = .ok (.ifCond .lt 29, 3) := by decide +kernel
theorem dX8_byteAt_4 : decode cX8_byteAt 4 = .ok (.iload_n 1, 1) := by decide +kernel
theorem dX8_byteAt_5 : decode cX8_byteAt 5 = .ok (.aload_n 0, 1) := by decide +kernel
theorem dX8_byteAt_6 : decode cX8_byteAt 6 = .ok (.getfield 21, 3) := by decide +kernel
theorem dX8_byteAt_9 : decode cX8_byteAt 9 = .ok (.if_icmp .ge 21, 3) := by decide +kernel
theorem dX8_byteAt_12 : decode cX8_byteAt 12 = .ok (.iload_n 1, 1) := by decide +kernel
theorem dX8_byteAt_13 : decode cX8_byteAt 13 = .ok (.aload_n 0, 1) := by decide +kernel
theorem dX8_byteAt_14 : decode cX8_byteAt 14 = .ok (.getfield 15, 3) := by decide +kernel
theorem dX8_byteAt_17 : decode cX8_byteAt 17 = .ok (.arraylength, 1) := by decide +kernel
theorem dX8_byteAt_18 : decode cX8_byteAt 18 = .ok (.if_icmp .ge 12, 3) := by decide +kernel
theorem dX8_byteAt_21 : decode cX8_byteAt 21 = .ok (.aload_n 0, 1) := by decide +kernel
theorem dX8_byteAt_22 : decode cX8_byteAt 22 = .ok (.getfield 15, 3) := by decide +kernel
theorem dX8_byteAt_25 : decode cX8_byteAt 25 = .ok (.iload_n 1, 1) := by decide +kernel
theorem dX8_byteAt_26 : decode cX8_byteAt 26 = .ok (.iaload, 1) := by decide +kernel
theorem dX8_byteAt_27 : decode cX8_byteAt 27 = .ok (.goto 4, 3) := by decide +kernel
theorem dX8_byteAt_30 : decode cX8_byteAt 30 = .ok (.iconst (-1), 1) := by decide +kernel
theorem dX8_byteAt_31 : decode cX8_byteAt 31 = .ok (.ireturn, 1) := by decide +kernel
theorem dX8_append_0 : decode cX8_append 0 = .ok (.aload_n 0, 1) := by decide +kernel
theorem dX8_append_1 : decode cX8_append 1 = .ok (.getfield 21, 3) := by decide +kernel
theorem dX8_append_4 : decode cX8_append 4 = .ok (.ifCond .lt 15, 3) := by decide +kernel
theorem dX8_append_7 : decode cX8_append 7 = .ok (.aload_n 0, 1) := by decide +kernel
theorem dX8_append_8 : decode cX8_append 8 = .ok (.getfield 21, 3) := by decide +kernel
theorem dX8_append_11 : decode cX8_append 11 = .ok (.aload_n 0, 1) := by decide +kernel
theorem dX8_append_12 : decode cX8_append 12 = .ok (.getfield 15, 3) := by decide +kernel
theorem dX8_append_15 : decode cX8_append 15 = .ok (.arraylength, 1) := by decide +kernel
theorem dX8_append_16 : decode cX8_append 16 = .ok (.if_icmp .lt 5, 3) := by decide +kernel
theorem dX8_append_19 : decode cX8_append 19 = .ok (.iconst 0, 1) := by decide +kernel
theorem dX8_append_20 : decode cX8_append 20 = .ok (.ireturn, 1) := by decide +kernel
theorem dX8_append_21 : decode cX8_append 21 = .ok (.aload_n 0, 1) := by decide +kernel
theorem dX8_append_22 : decode cX8_append 22 = .ok (.getfield 15, 3) := by decide +kernel
theorem dX8_append_25 : decode cX8_append 25 = .ok (.aload_n 0, 1) := by decide +kernel
theorem dX8_append_26 : decode cX8_append 26 = .ok (.getfield 21, 3) := by decide +kernel
theorem dX8_append_29 : decode cX8_append 29 = .ok (.iload_n 1, 1) := by decide +kernel
theorem dX8_append_30 : decode cX8_append 30 = .ok (.iastore, 1) := by decide +kernel
theorem dX8_append_31 : decode cX8_append 31 = .ok (.aload_n 0, 1) := by decide +kernel
theorem dX8_append_32 : decode cX8_append 32 = .ok (.dup, 1) := by decide +kernel
theorem dX8_append_33 : decode cX8_append 33 = .ok (.getfield 21, 3) := by decide +kernel
theorem dX8_append_36 : decode cX8_append 36 = .ok (.iconst 1, 1) := by decide +kernel
theorem dX8_append_37 : decode cX8_append 37 = .ok (.iadd, 1) := by decide +kernel
theorem dX8_append_38 : decode cX8_append 38 = .ok (.putfield 21, 3) := by decide +kernel
theorem dX8_append_41 : decode cX8_append 41 = .ok (.iconst 1, 1) := by decide +kernel
theorem dX8_append_42 : decode cX8_append 42 = .ok (.ireturn, 1) := by decide +kernel
theorem dX8_dropLast_0 : decode cX8_dropLast 0 = .ok (.aload_n 0, 1) := by decide +kernel
theorem dX8_dropLast_1 : decode cX8_dropLast 1 = .ok (.getfield 21, 3) := by decide +kernel
theorem dX8_dropLast_4 : decode cX8_dropLast 4 = .ok (.ifCond .gt 5, 3) := by decide +kernel
theorem dX8_dropLast_7 : decode cX8_dropLast 7 = .ok (.iconst 0, 1) := by decide +kernel
theorem dX8_dropLast_8 : decode cX8_dropLast 8 = .ok (.ireturn, 1) := by decide +kernel
theorem dX8_dropLast_9 : decode cX8_dropLast 9 = .ok (.aload_n 0, 1) := by decide +kernel
theorem dX8_dropLast_10 : decode cX8_dropLast 10 = .ok (.dup, 1) := by decide +kernel
theorem dX8_dropLast_11 : decode cX8_dropLast 11 = .ok (.getfield 21, 3) := by decide +kernel
theorem dX8_dropLast_14 : decode cX8_dropLast 14 = .ok (.iconst 1, 1) := by decide +kernel
theorem dX8_dropLast_15 : decode cX8_dropLast 15 = .ok (.isub, 1) := by decide +kernel
theorem dX8_dropLast_16 : decode cX8_dropLast 16 = .ok (.putfield 21, 3) := by decide +kernel
theorem dX8_dropLast_19 : decode cX8_dropLast 19 = .ok (.iconst 1, 1) := by decide +kernel
theorem dX8_dropLast_20 : decode cX8_dropLast 20 = .ok (.ireturn, 1) := by decide +kernel
theorem dX8_clear_0 : decode cX8_clear 0 = .ok (.aload_n 0, 1) := by decide +kernel
theorem dX8_clear_1 : decode cX8_clear 1 = .ok (.iconst 0, 1) := by decide +kernel
theorem dX8_clear_2 : decode cX8_clear 2 = .ok (.putfield 21, 3) := by decide +kernel
theorem dX8_clear_5 : decode cX8_clear 5 = .ok (.return_, 1) := by decide +kernel
theorem dX9_init_0 : decode cX9_init 0 = .ok (.aload_n 0, 1) := by decide +kernel
theorem dX9_init_1 : decode cX9_init 1 = .ok (.invokespecial 3, 3) := by decide +kernel
theorem dX9_init_4 : decode cX9_init 4 = .ok (.aload_n 0, 1) := by decide +kernel
theorem dX9_init_5 : decode cX9_init 5 = .ok (.bipush 12, 2) := by decide +kernel
theorem dX9_init_7 : decode cX9_init 7 = .ok (.newarray .int, 2) := by decide +kernel
theorem dX9_init_9 : decode cX9_init 9 = .ok (.putfield 9, 3) := by decide +kernel
theorem dX9_init_12 : decode cX9_init 12 = .ok (.aload_n 0, 1) := by decide +kernel
theorem dX9_init_13 : decode cX9_init 13 = .ok (.bipush 12, 2) := by decide +kernel
theorem dX9_init_15 : decode cX9_init 15 = .ok (.newarray .int, 2) := by decide +kernel
theorem dX9_init_17 : decode cX9_init 17 = .ok (.putfield 15, 3) := by decide +kernel
theorem dX9_init_20 : decode cX9_init 20 = .ok (.aload_n 0, 1) := by decide +kernel
theorem dX9_init_21 : decode cX9_init 21 = .ok (.bipush 12, 2) := by decide +kernel
theorem dX9_init_23 : decode cX9_init 23 = .ok (.newarray .boolean, 2) := by decide +kernel
theorem dX9_init_25 : decode cX9_init 25 = .ok (.putfield 18, 3) := by decide +kernel
theorem dX9_init_28 : decode cX9_init 28 = .ok (.aload_n 0, 1) := by decide +kernel
theorem dX9_init_29 : decode cX9_init 29 = .ok (.bipush 30, 2) := by decide +kernel
theorem dX9_init_31 : decode cX9_init 31 = .ok (.newarray .int, 2) := by decide +kernel
theorem dX9_init_33 : decode cX9_init 33 = .ok (.putfield 22, 3) := by decide +kernel
theorem dX9_init_36 : decode cX9_init 36 = .ok (.aload_n 0, 1) := by decide +kernel
theorem dX9_init_37 : decode cX9_init 37 = .ok (.bipush 30, 2) := by decide +kernel
theorem dX9_init_39 : decode cX9_init 39 = .ok (.newarray .int, 2) := by decide +kernel
theorem dX9_init_41 : decode cX9_init 41 = .ok (.putfield 25, 3) := by decide +kernel
theorem dX9_init_44 : decode cX9_init 44 = .ok (.aload_n 0, 1) := by decide +kernel
theorem dX9_init_45 : decode cX9_init 45 = .ok (.iconst 0, 1) := by decide +kernel
theorem dX9_init_46 : decode cX9_init 46 = .ok (.putfield 28, 3) := by decide +kernel
theorem dX9_init_49 : decode cX9_init 49 = .ok (.aload_n 0, 1) := by decide +kernel
theorem dX9_init_50 : decode cX9_init 50 = .ok (.iconst 0, 1) := by decide +kernel
theorem dX9_init_51 : decode cX9_init 51 = .ok (.putfield 32, 3) := by decide +kernel
theorem dX9_init_54 : decode cX9_init 54 = .ok (.return_, 1) := by decide +kernel
theorem dX9_firstSet_0 : decode cX9_firstSet 0 = .ok (.aload_n 0, 1) := by decide +kernel
theorem dX9_firstSet_1 : decode cX9_firstSet 1 = .ok (.getfield 28, 3) := by decide +kernel
theorem dX9_firstSet_4 : decode cX9_firstSet 4 = .ok (.ireturn, 1) := by decide +kernel
theorem dX9_setFirst_0 : decode cX9_setFirst 0 = .ok (.aload_n 0, 1) := by decide +kernel
theorem dX9_setFirst_1 : decode cX9_setFirst 1 = .ok (.iload_n 1, 1) := by decide +kernel
theorem dX9_setFirst_2 : decode cX9_setFirst 2 = .ok (.sipush 255, 3) := by decide +kernel
theorem dX9_setFirst_5 : decode cX9_setFirst 5 = .ok (.iand, 1) := by decide +kernel
theorem dX9_setFirst_6 : decode cX9_setFirst 6 = .ok (.putfield 28, 3) := by decide +kernel
theorem dX9_setFirst_9 : decode cX9_setFirst 9 = .ok (.return_, 1) := by decide +kernel
theorem dX9_layings_0 : decode cX9_layings 0 = .ok (.aload_n 0, 1) := by decide +kernel
theorem dX9_layings_1 : decode cX9_layings 1 = .ok (.getfield 32, 3) := by decide +kernel
theorem dX9_layings_4 : decode cX9_layings 4 = .ok (.ireturn, 1) := by decide +kernel
theorem dX9_addLaying_0 : decode cX9_addLaying 0 = .ok (.aload_n 0, 1) := by decide +kernel
theorem dX9_addLaying_1 : decode cX9_addLaying 1 = .ok (.getfield 32, 3) := by decide +kernel
theorem dX9_addLaying_4 : decode cX9_addLaying 4 = .ok (.ifCond .lt 12, 3) := by decide +kernel
theorem dX9_addLaying_7 : decode cX9_addLaying 7 = .ok (.aload_n 0, 1) := by decide +kernel
theorem dX9_addLaying_8 : decode cX9_addLaying 8 = .ok (.getfield 32, 3) := by decide +kernel
theorem dX9_addLaying_11 : decode cX9_addLaying 11 = .ok (.bipush 12, 2) := by decide +kernel
theorem dX9_addLaying_13 : decode cX9_addLaying 13 = .ok (.if_icmp .lt 5, 3) := by decide +kernel
theorem dX9_addLaying_16 : decode cX9_addLaying 16 = .ok (.iconst 0, 1) := by decide +kernel
theorem dX9_addLaying_17 : decode cX9_addLaying 17 = .ok (.ireturn, 1) := by decide +kernel
theorem dX9_addLaying_18 : decode cX9_addLaying 18 = .ok (.aload_n 0, 1) := by decide +kernel
theorem dX9_addLaying_19 : decode cX9_addLaying 19 = .ok (.getfield 9, 3) := by decide +kernel
theorem dX9_addLaying_22 : decode cX9_addLaying 22 = .ok (.aload_n 0, 1) := by decide +kernel
theorem dX9_addLaying_23 : decode cX9_addLaying 23 = .ok (.getfield 32, 3) := by decide +kernel
theorem dX9_addLaying_26 : decode cX9_addLaying 26 = .ok (.iload_n 1, 1) := by decide +kernel
theorem dX9_addLaying_27 : decode cX9_addLaying 27 = .ok (.iastore, 1) := by decide +kernel
theorem dX9_addLaying_28 : decode cX9_addLaying 28 = .ok (.aload_n 0, 1) := by decide +kernel
theorem dX9_addLaying_29 : decode cX9_addLaying 29 = .ok (.getfield 15, 3) := by decide +kernel
theorem dX9_addLaying_32 : decode cX9_addLaying 32 = .ok (.aload_n 0, 1) := by decide +kernel
theorem dX9_addLaying_33 : decode cX9_addLaying 33 = .ok (.getfield 32, 3) := by decide +kernel
theorem dX9_addLaying_36 : decode cX9_addLaying 36 = .ok (.iconst 1, 1) := by decide +kernel
theorem dX9_addLaying_37 : decode cX9_addLaying 37 = .ok (.iload_n 2, 1) := by decide +kernel
theorem dX9_addLaying_38 : decode cX9_addLaying 38 = .ok (.ishl, 1) := by decide +kernel
theorem dX9_addLaying_39 : decode cX9_addLaying 39 = .ok (.iastore, 1) := by decide +kernel
theorem dX9_addLaying_40 : decode cX9_addLaying 40 = .ok (.aload_n 0, 1) := by decide +kernel
theorem dX9_addLaying_41 : decode cX9_addLaying 41 = .ok (.getfield 18, 3) := by decide +kernel
theorem dX9_addLaying_44 : decode cX9_addLaying 44 = .ok (.aload_n 0, 1) := by decide +kernel
theorem dX9_addLaying_45 : decode cX9_addLaying 45 = .ok (.getfield 32, 3) := by decide +kernel
theorem dX9_addLaying_48 : decode cX9_addLaying 48 = .ok (.iload_n 3, 1) := by decide +kernel
theorem dX9_addLaying_49 : decode cX9_addLaying 49 = .ok (.iconst 1, 1) := by decide +kernel
theorem dX9_addLaying_50 : decode cX9_addLaying 50 = .ok (.if_icmp .ne 7, 3) := by decide +kernel
theorem dX9_addLaying_53 : decode cX9_addLaying 53 = .ok (.iconst 1, 1) := by decide +kernel
theorem dX9_addLaying_54 : decode cX9_addLaying 54 = .ok (.goto 4, 3) := by decide +kernel
theorem dX9_addLaying_57 : decode cX9_addLaying 57 = .ok (.iconst 0, 1) := by decide +kernel
theorem dX9_addLaying_58 : decode cX9_addLaying 58 = .ok (.bastore, 1) := by decide +kernel
theorem dX9_addLaying_59 : decode cX9_addLaying 59 = .ok (.aload_n 0, 1) := by decide +kernel
theorem dX9_addLaying_60 : decode cX9_addLaying 60 = .ok (.dup, 1) := by decide +kernel
theorem dX9_addLaying_61 : decode cX9_addLaying 61 = .ok (.getfield 32, 3) := by decide +kernel
theorem dX9_addLaying_64 : decode cX9_addLaying 64 = .ok (.iconst 1, 1) := by decide +kernel
theorem dX9_addLaying_65 : decode cX9_addLaying 65 = .ok (.iadd, 1) := by decide +kernel
theorem dX9_addLaying_66 : decode cX9_addLaying 66 = .ok (.putfield 32, 3) := by decide +kernel
theorem dX9_addLaying_69 : decode cX9_addLaying 69 = .ok (.iconst 1, 1) := by decide +kernel
theorem dX9_addLaying_70 : decode cX9_addLaying 70 = .ok (.ireturn, 1) := by decide +kernel
theorem dX9_dropLaying_0 : decode cX9_dropLaying 0 = .ok (.aload_n 0, 1) := by decide +kernel
theorem dX9_dropLaying_1 : decode cX9_dropLaying 1 = .ok (.getfield 32, 3) := by decide +kernel
theorem dX9_dropLaying_4 : decode cX9_dropLaying 4 = .ok (.ifCond .gt 5, 3) := by decide +kernel
theorem dX9_dropLaying_7 : decode cX9_dropLaying 7 = .ok (.iconst 0, 1) := by decide +kernel
theorem dX9_dropLaying_8 : decode cX9_dropLaying 8 = .ok (.ireturn, 1) := by decide +kernel
theorem dX9_dropLaying_9 : decode cX9_dropLaying 9 = .ok (.aload_n 0, 1) := by decide +kernel
theorem dX9_dropLaying_10 : decode cX9_dropLaying 10 = .ok (.dup, 1) := by decide +kernel
theorem dX9_dropLaying_11 : decode cX9_dropLaying 11 = .ok (.getfield 32, 3) := by decide +kernel
theorem dX9_dropLaying_14 : decode cX9_dropLaying 14 = .ok (.iconst 1, 1) := by decide +kernel
theorem dX9_dropLaying_15 : decode cX9_dropLaying 15 = .ok (.isub, 1) := by decide +kernel
theorem dX9_dropLaying_16 : decode cX9_dropLaying 16 = .ok (.putfield 32, 3) := by decide +kernel
theorem dX9_dropLaying_19 : decode cX9_dropLaying 19 = .ok (.iconst 1, 1) := by decide +kernel
theorem dX9_dropLaying_20 : decode cX9_dropLaying 20 = .ok (.ireturn, 1) := by decide +kernel
theorem dX9_runTo_0 : decode cX9_runTo 0 = .ok (.aload_n 0, 1) := by decide +kernel
theorem dX9_runTo_1 : decode cX9_runTo 1 = .ok (.getfield 28, 3) := by decide +kernel
theorem dX9_runTo_4 : decode cX9_runTo 4 = .ok (.istore_n 3, 1) := by decide +kernel
theorem dX9_runTo_5 : decode cX9_runTo 5 = .ok (.iconst 0, 1) := by decide +kernel
theorem dX9_runTo_6 : decode cX9_runTo 6 = .ok (.istore 4, 2) := by decide +kernel
theorem dX9_runTo_8 : decode cX9_runTo 8 = .ok (.iconst 0, 1) := by decide +kernel
theorem dX9_runTo_9 : decode cX9_runTo 9 = .ok (.istore 5, 2) := by decide +kernel
theorem dX9_runTo_11 : decode cX9_runTo 11 = .ok (.iload 5, 2) := by decide +kernel
theorem dX9_runTo_13 : decode cX9_runTo 13 = .ok (.iload_n 2, 1) := by decide +kernel
theorem dX9_runTo_14 : decode cX9_runTo 14 = .ok (.if_icmp .gt 59, 3) := by decide +kernel
theorem dX9_runTo_17 : decode cX9_runTo 17 = .ok (.iload 5, 2) := by decide +kernel
theorem dX9_runTo_19 : decode cX9_runTo 19 = .ok (.bipush 30, 2) := by decide +kernel
theorem dX9_runTo_21 : decode cX9_runTo 21 = .ok (.if_icmp .ge 52, 3) := by decide +kernel
theorem dX9_runTo_24 : decode cX9_runTo 24 = .ok (.iload 5, 2) := by decide +kernel
theorem dX9_runTo_26 : decode cX9_runTo 26 = .ok (.ifCond .le 16, 3) := by decide +kernel
theorem dX9_runTo_29 : decode cX9_runTo 29 = .ok (.aload_n 1, 1) := by decide +kernel
theorem dX9_runTo_30 : decode cX9_runTo 30 = .ok (.iload_n 3, 1) := by decide +kernel
theorem dX9_runTo_31 : decode cX9_runTo 31 = .ok (.invokevirtual 35, 3) := by decide +kernel
theorem dX9_runTo_34 : decode cX9_runTo 34 = .ok (.istore 4, 2) := by decide +kernel
theorem dX9_runTo_36 : decode cX9_runTo 36 = .ok (.aload_n 1, 1) := by decide +kernel
theorem dX9_runTo_37 : decode cX9_runTo 37 = .ok (.iload_n 3, 1) := by decide +kernel
theorem dX9_runTo_38 : decode cX9_runTo 38 = .ok (.invokevirtual 41, 3) := by decide +kernel
theorem dX9_runTo_41 : decode cX9_runTo 41 = .ok (.istore_n 3, 1) := by decide +kernel
theorem dX9_runTo_42 : decode cX9_runTo 42 = .ok (.aload_n 0, 1) := by decide +kernel
theorem dX9_runTo_43 : decode cX9_runTo 43 = .ok (.iload 5, 2) := by decide +kernel
theorem dX9_runTo_45 : decode cX9_runTo 45 = .ok (.iload_n 3, 1) := by decide +kernel
theorem dX9_runTo_46 : decode cX9_runTo 46 = .ok (.invokevirtual 44, 3) := by decide +kernel
theorem dX9_runTo_49 : decode cX9_runTo 49 = .ok (.istore_n 3, 1) := by decide +kernel
theorem dX9_runTo_50 : decode cX9_runTo 50 = .ok (.aload_n 0, 1) := by decide +kernel
theorem dX9_runTo_51 : decode cX9_runTo 51 = .ok (.getfield 25, 3) := by decide +kernel
theorem dX9_runTo_54 : decode cX9_runTo 54 = .ok (.iload 5, 2) := by decide +kernel
theorem dX9_runTo_56 : decode cX9_runTo 56 = .ok (.iload 4, 2) := by decide +kernel
theorem dX9_runTo_58 : decode cX9_runTo 58 = .ok (.iastore, 1) := by decide +kernel
theorem dX9_runTo_59 : decode cX9_runTo 59 = .ok (.aload_n 0, 1) := by decide +kernel
theorem dX9_runTo_60 : decode cX9_runTo 60 = .ok (.getfield 22, 3) := by decide +kernel
theorem dX9_runTo_63 : decode cX9_runTo 63 = .ok (.iload 5, 2) := by decide +kernel
theorem dX9_runTo_65 : decode cX9_runTo 65 = .ok (.iload_n 3, 1) := by decide +kernel
theorem dX9_runTo_66 : decode cX9_runTo 66 = .ok (.iastore, 1) := by decide +kernel
theorem dX9_runTo_67 : decode cX9_runTo 67 = .ok (.iinc 5 1, 3) := by decide +kernel
theorem dX9_runTo_70 : decode cX9_runTo 70 = .ok (.goto (-59), 3) := by decide +kernel
theorem dX9_runTo_73 : decode cX9_runTo 73 = .ok (.return_, 1) := by decide +kernel
theorem dX9_smallIn_0 : decode cX9_smallIn 0 = .ok (.iload_n 1, 1) := by decide +kernel
theorem dX9_smallIn_1 : decode cX9_smallIn 1 = .ok (.ifCond .lt 18, 3) := by decide +kernel
theorem dX9_smallIn_4 : decode cX9_smallIn 4 = .ok (.iload_n 1, 1) := by decide +kernel
theorem dX9_smallIn_5 : decode cX9_smallIn 5 = .ok (.bipush 30, 2) := by decide +kernel
theorem dX9_smallIn_7 : decode cX9_smallIn 7 = .ok (.if_icmp .ge 12, 3) := by decide +kernel
theorem dX9_smallIn_10 : decode cX9_smallIn 10 = .ok (.aload_n 0, 1) := by decide +kernel
theorem dX9_smallIn_11 : decode cX9_smallIn 11 = .ok (.getfield 22, 3) := by decide +kernel
theorem dX9_smallIn_14 : decode cX9_smallIn 14 = .ok (.iload_n 1, 1) := by decide +kernel
theorem dX9_smallIn_15 : decode cX9_smallIn 15 = .ok (.iaload, 1) := by decide +kernel
theorem dX9_smallIn_16 : decode cX9_smallIn 16 = .ok (.goto 4, 3) := by decide +kernel
theorem dX9_smallIn_19 : decode cX9_smallIn 19 = .ok (.iconst 0, 1) := by decide +kernel
theorem dX9_smallIn_20 : decode cX9_smallIn 20 = .ok (.ireturn, 1) := by decide +kernel
theorem dX9_bigIn_0 : decode cX9_bigIn 0 = .ok (.iload_n 1, 1) := by decide +kernel
theorem dX9_bigIn_1 : decode cX9_bigIn 1 = .ok (.ifCond .lt 18, 3) := by decide +kernel
theorem dX9_bigIn_4 : decode cX9_bigIn 4 = .ok (.iload_n 1, 1) := by decide +kernel
theorem dX9_bigIn_5 : decode cX9_bigIn 5 = .ok (.bipush 30, 2) := by decide +kernel
theorem dX9_bigIn_7 : decode cX9_bigIn 7 = .ok (.if_icmp .ge 12, 3) := by decide +kernel
theorem dX9_bigIn_10 : decode cX9_bigIn 10 = .ok (.aload_n 0, 1) := by decide +kernel
theorem dX9_bigIn_11 : decode cX9_bigIn 11 = .ok (.getfield 25, 3) := by decide +kernel
theorem dX9_bigIn_14 : decode cX9_bigIn 14 = .ok (.iload_n 1, 1) := by decide +kernel
theorem dX9_bigIn_15 : decode cX9_bigIn 15 = .ok (.iaload, 1) := by decide +kernel
theorem dX9_bigIn_16 : decode cX9_bigIn 16 = .ok (.goto 4, 3) := by decide +kernel
theorem dX9_bigIn_19 : decode cX9_bigIn 19 = .ok (.iconst 0, 1) := by decide +kernel
theorem dX9_bigIn_20 : decode cX9_bigIn 20 = .ok (.ireturn, 1) := by decide +kernel
theorem dX9_withLayings_0 : decode cX9_withLayings 0 = .ok (.iload_n 2, 1) := by decide +kernel
theorem dX9_withLayings_1 : decode cX9_withLayings 1 = .ok (.istore_n 3, 1) := by decide +kernel
theorem dX9_withLayings_2 : decode cX9_withLayings 2 = .ok (.iconst 0, 1) := by decide +kernel
theorem dX9_withLayings_3 : decode cX9_withLayings 3 = .ok (.istore 4, 2) := by decide +kernel
theorem dX9_withLayings_5 : decode cX9_withLayings 5 = .ok (.iload 4, 2) := by decide +kernel
theorem dX9_withLayings_7 : decode cX9_withLayings 7 = .ok (.aload_n 0, 1) := by decide +kernel
theorem dX9_withLayings_8 : decode cX9_withLayings 8 = .ok (.getfield 32, 3) := by decide +kernel
theorem dX9_withLayings_11 : decode cX9_withLayings 11 = .ok (.if_icmp .ge 61, 3) := by decide +kernel
theorem dX9_withLayings_14 : decode cX9_withLayings 14 = .ok (.iload 4, 2) := by decide +kernel
theorem dX9_withLayings_16 : decode cX9_withLayings 16 = .ok (.bipush 12, 2) := by decide +kernel
theorem dX9_withLayings_18 : decode cX9_withLayings 18 = .ok (.if_icmp .ge 54, 3) := by decide +kernel
theorem dX9_withLayings_21 : decode cX9_withLayings 21 = .ok (.aload_n 0, 1) := by decide +kernel
theorem dX9_withLayings_22 : decode cX9_withLayings 22 = .ok (.getfield 9, 3) := by decide +kernel
theorem dX9_withLayings_25 : decode cX9_withLayings 25 = .ok (.iload 4, 2) := by decide +kernel
theorem dX9_withLayings_27 : decode cX9_withLayings 27 = .ok (.iaload, 1) := by decide +kernel
theorem dX9_withLayings_28 : decode cX9_withLayings 28 = .ok (.iload_n 1, 1) := by decide +kernel
theorem dX9_withLayings_29 : decode cX9_withLayings 29 = .ok (.if_icmp .ne 37, 3) := by decide +kernel
theorem dX9_withLayings_32 : decode cX9_withLayings 32 = .ok (.aload_n 0, 1) := by decide +kernel
theorem dX9_withLayings_33 : decode cX9_withLayings 33 = .ok (.getfield 18, 3) := by decide +kernel
theorem dX9_withLayings_36 : decode cX9_withLayings 36 = .ok (.iload 4, 2) := by decide +kernel
theorem dX9_withLayings_38 : decode cX9_withLayings 38 = .ok (.baload, 1) := by decide +kernel
theorem dX9_withLayings_39 : decode cX9_withLayings 39 = .ok (.ifCond .eq 15, 3) := by decide +kernel
theorem dX9_withLayings_42 : decode cX9_withLayings 42 = .ok (.iload_n 3, 1) := by decide +kernel
theorem dX9_withLayings_43 : decode cX9_withLayings 43 = .ok (.aload_n 0, 1) := by decide +kernel
theorem dX9_withLayings_44 : decode cX9_withLayings 44 = .ok (.getfield 15, 3) := by decide +kernel
theorem dX9_withLayings_47 : decode cX9_withLayings 47 = .ok (.iload 4, 2) := by decide +kernel
theorem dX9_withLayings_49 : decode cX9_withLayings 49 = .ok (.iaload, 1) := by decide +kernel
theorem dX9_withLayings_50 : decode cX9_withLayings 50 = .ok (.ior, 1) := by decide +kernel
theorem dX9_withLayings_51 : decode cX9_withLayings 51 = .ok (.goto 14, 3) := by decide +kernel
theorem dX9_withLayings_54 : decode cX9_withLayings 54 = .ok (.iload_n 3, 1) := by decide +kernel
theorem dX9_withLayings_55 : decode cX9_withLayings 55 = .ok (.aload_n 0, 1) := by decide +kernel
theorem dX9_withLayings_56 : decode cX9_withLayings 56 = .ok (.getfield 15, 3) := by decide +kernel
theorem dX9_withLayings_59 : decode cX9_withLayings 59 = .ok (.iload 4, 2) := by decide +kernel
theorem dX9_withLayings_61 : decode cX9_withLayings 61 = .ok (.iaload, 1) := by decide +kernel
theorem dX9_withLayings_62 : decode cX9_withLayings 62 = .ok (.iconst (-1), 1) := by decide +kernel
theorem dX9_withLayings_63 : decode cX9_withLayings 63 = .ok (.ixor, 1) := by decide +kernel
theorem dX9_withLayings_64 : decode cX9_withLayings 64 = .ok (.iand, 1) := by decide +kernel
theorem dX9_withLayings_65 : decode cX9_withLayings 65 = .ok (.istore_n 3, 1) := by decide +kernel
theorem dX9_withLayings_66 : decode cX9_withLayings 66 = .ok (.iinc 4 1, 3) := by decide +kernel
theorem dX9_withLayings_69 : decode cX9_withLayings 69 = .ok (.goto (-64), 3) := by decide +kernel
theorem dX9_withLayings_72 : decode cX9_withLayings 72 = .ok (.iload_n 3, 1) := by decide +kernel
theorem dX9_withLayings_73 : decode cX9_withLayings 73 = .ok (.ireturn, 1) := by decide +kernel
theorem dX10_init_0 : decode cX10_init 0 = .ok (.aload_n 0, 1) := by decide +kernel
theorem dX10_init_1 : decode cX10_init 1 = .ok (.invokespecial 1, 3) := by decide +kernel
theorem dX10_init_4 : decode cX10_init 4 = .ok (.aload_n 0, 1) := by decide +kernel
theorem dX10_init_5 : decode cX10_init 5 = .ok (.new 7, 3) := by decide +kernel
theorem dX10_init_8 : decode cX10_init 8 = .ok (.dup, 1) := by decide +kernel
theorem dX10_init_9 : decode cX10_init 9 = .ok (.bipush 79, 2) := by decide +kernel
theorem dX10_init_11 : decode cX10_init 11 = .ok (.invokespecial 11, 3) := by decide +kernel
theorem dX10_init_14 : decode cX10_init 14 = .ok (.putfield 14, 3) := by decide +kernel
theorem dX10_init_17 : decode cX10_init 17 = .ok (.aload_n 0, 1) := by decide +kernel
theorem dX10_init_18 : decode cX10_init 18 = .ok (.new 7, 3) := by decide +kernel
theorem dX10_init_21 : decode cX10_init 21 = .ok (.dup, 1) := by decide +kernel
theorem dX10_init_22 : decode cX10_init 22 = .ok (.bipush 35, 2) := by decide +kernel
theorem dX10_init_24 : decode cX10_init 24 = .ok (.invokespecial 11, 3) := by decide +kernel
theorem dX10_init_27 : decode cX10_init 27 = .ok (.putfield 18, 3) := by decide +kernel
theorem dX10_init_30 : decode cX10_init 30 = .ok (.aload_n 0, 1) := by decide +kernel
theorem dX10_init_31 : decode cX10_init 31 = .ok (.new 21, 3) := by decide +kernel
theorem dX10_init_34 : decode cX10_init 34 = .ok (.dup, 1) := by decide +kernel
theorem dX10_init_35 : decode cX10_init 35 = .ok (.invokespecial 23, 3) := by decide +kernel
theorem dX10_init_38 : decode cX10_init 38 = .ok (.putfield 24, 3) := by decide +kernel
theorem dX10_init_41 : decode cX10_init 41 = .ok (.aload_n 0, 1) := by decide +kernel
theorem dX10_init_42 : decode cX10_init 42 = .ok (.new 28, 3) := by decide +kernel
theorem dX10_init_45 : decode cX10_init 45 = .ok (.dup, 1) := by decide +kernel
theorem dX10_init_46 : decode cX10_init 46 = .ok (.invokespecial 30, 3) := by decide +kernel
theorem dX10_init_49 : decode cX10_init 49 = .ok (.putfield 31, 3) := by decide +kernel
theorem dX10_init_52 : decode cX10_init 52 = .ok (.aload_n 0, 1) := by decide +kernel
theorem dX10_init_53 : decode cX10_init 53 = .ok (.new 35, 3) := by decide +kernel
theorem dX10_init_56 : decode cX10_init 56 = .ok (.dup, 1) := by decide +kernel
theorem dX10_init_57 : decode cX10_init 57 = .ok (.invokespecial 37, 3) := by decide +kernel
theorem dX10_init_60 : decode cX10_init 60 = .ok (.putfield 38, 3) := by decide +kernel
theorem dX10_init_63 : decode cX10_init 63 = .ok (.aload_n 0, 1) := by decide +kernel
theorem dX10_init_64 : decode cX10_init 64 = .ok (.iconst 0, 1) := by decide +kernel
theorem dX10_init_65 : decode cX10_init 65 = .ok (.putfield 42, 3) := by decide +kernel
theorem dX10_init_68 : decode cX10_init 68 = .ok (.aload_n 0, 1) := by decide +kernel
theorem dX10_init_69 : decode cX10_init 69 = .ok (.new 46, 3) := by decide +kernel
theorem dX10_init_72 : decode cX10_init 72 = .ok (.dup, 1) := by decide +kernel
theorem dX10_init_73 : decode cX10_init 73 = .ok (.invokespecial 48, 3) := by decide +kernel
theorem dX10_init_76 : decode cX10_init 76 = .ok (.putfield 49, 3) := by decide +kernel
theorem dX10_init_79 : decode cX10_init 79 = .ok (.aload_n 0, 1) := by decide +kernel
theorem dX10_init_80 : decode cX10_init 80 = .ok (.new 53, 3) := by decide +kernel
theorem dX10_init_83 : decode cX10_init 83 = .ok (.dup, 1) := by decide +kernel
theorem dX10_init_84 : decode cX10_init 84 = .ok (.invokespecial 55, 3) := by decide +kernel
theorem dX10_init_87 : decode cX10_init 87 = .ok (.putfield 56, 3) := by decide +kernel
theorem dX10_init_90 : decode cX10_init 90 = .ok (.aload_n 0, 1) := by decide +kernel
theorem dX10_init_91 : decode cX10_init 91 = .ok (.iconst 4, 1) := by decide +kernel
theorem dX10_init_92 : decode cX10_init 92 = .ok (.anewarray 60, 3) := by decide +kernel
theorem dX10_init_95 : decode cX10_init 95 = .ok (.putfield 62, 3) := by decide +kernel
theorem dX10_init_98 : decode cX10_init 98 = .ok (.iconst 0, 1) := by decide +kernel
theorem dX10_init_99 : decode cX10_init 99 = .ok (.istore_n 1, 1) := by decide +kernel
theorem dX10_init_100 : decode cX10_init 100 = .ok (.iload_n 1, 1) := by decide +kernel
theorem dX10_init_101 : decode cX10_init 101 = .ok (.iconst 4, 1) := by decide +kernel
theorem dX10_init_102 : decode cX10_init 102 = .ok (.if_icmp .ge 22, 3) := by decide +kernel
theorem dX10_init_105 : decode cX10_init 105 = .ok (.aload_n 0, 1) := by decide +kernel
theorem dX10_init_106 : decode cX10_init 106 = .ok (.getfield 62, 3) := by decide +kernel
theorem dX10_init_109 : decode cX10_init 109 = .ok (.iload_n 1, 1) := by decide +kernel
theorem dX10_init_110 : decode cX10_init 110 = .ok (.new 60, 3) := by decide +kernel
theorem dX10_init_113 : decode cX10_init 113 = .ok (.dup, 1) := by decide +kernel
theorem dX10_init_114 : decode cX10_init 114 = .ok (.invokespecial 66, 3) := by decide +kernel
theorem dX10_init_117 : decode cX10_init 117 = .ok (.aastore, 1) := by decide +kernel
theorem dX10_init_118 : decode cX10_init 118 = .ok (.iinc 1 1, 3) := by decide +kernel
theorem dX10_init_121 : decode cX10_init 121 = .ok (.goto (-21), 3) := by decide +kernel
theorem dX10_init_124 : decode cX10_init 124 = .ok (.aload_n 0, 1) := by decide +kernel
theorem dX10_init_125 : decode cX10_init 125 = .ok (.iconst 0, 1) := by decide +kernel
theorem dX10_init_126 : decode cX10_init 126 = .ok (.putfield 67, 3) := by decide +kernel
theorem dX10_init_129 : decode cX10_init 129 = .ok (.return_, 1) := by decide +kernel
theorem dX10_type_0 : decode cX10_type 0 = .ok (.aload_n 0, 1) := by decide +kernel
theorem dX10_type_1 : decode cX10_type 1 = .ok (.iload_n 1, 1) := by decide +kernel
theorem dX10_type_2 : decode cX10_type 2 = .ok (.invokevirtual 71, 3) := by decide +kernel
theorem dX10_type_5 : decode cX10_type 5 = .ok (.astore_n 3, 1) := by decide +kernel
theorem dX10_type_6 : decode cX10_type 6 = .ok (.aload_n 3, 1) := by decide +kernel
theorem dX10_type_7 : decode cX10_type 7 = .ok (.ifnull 10, 3) := by decide +kernel
theorem dX10_type_10 : decode cX10_type 10 = .ok (.iload_n 2, 1) := by decide +kernel
theorem dX10_type_11 : decode cX10_type 11 = .ok (.invokestatic 75, 3) := by decide +kernel
theorem dX10_type_14 : decode cX10_type 14 = .ok (.ifCond .ne 6, 3) := by decide +kernel
theorem dX10_type_17 : decode cX10_type 17 = .ok (.bipush (-2), 2) := by decide +kernel
theorem dX10_type_19 : decode cX10_type 19 = .ok (.ireturn, 1) := by decide +kernel
theorem dX10_type_20 : decode cX10_type 20 = .ok (.aload_n 3, 1) := by decide +kernel
theorem dX10_type_21 : decode cX10_type 21 = .ok (.iload_n 2, 1) := by decide +kernel
theorem dX10_type_22 : decode cX10_type 22 = .ok (.invokevirtual 79, 3) := by decide +kernel
theorem dX10_type_25 : decode cX10_type 25 = .ok (.ifCond .ne 6, 3) := by decide +kernel
theorem dX10_type_28 : decode cX10_type 28 = .ok (.bipush (-4), 2) := by decide +kernel
theorem dX10_type_30 : decode cX10_type 30 = .ok (.ireturn, 1) := by decide +kernel
theorem dX10_type_31 : decode cX10_type 31 = .ok (.aload_n 0, 1) := by decide +kernel
theorem dX10_type_32 : decode cX10_type 32 = .ok (.iload_n 1, 1) := by decide +kernel
theorem dX10_type_33 : decode cX10_type 33 = .ok (.invokevirtual 82, 3) := by decide +kernel
theorem dX10_type_36 : decode cX10_type 36 = .ok (.aload_n 3, 1) := by decide +kernel
theorem dX10_type_37 : decode cX10_type 37 = .ok (.invokevirtual 85, 3) := by decide +kernel
theorem dX10_type_40 : decode cX10_type 40 = .ok (.ireturn, 1) := by decide +kernel
theorem dX10_wipe_0 : decode cX10_wipe 0 = .ok (.aload_n 0, 1) := by decide +kernel
theorem dX10_wipe_1 : decode cX10_wipe 1 = .ok (.iload_n 1, 1) := by decide +kernel
theorem dX10_wipe_2 : decode cX10_wipe 2 = .ok (.invokevirtual 71, 3) := by decide +kernel
theorem dX10_wipe_5 : decode cX10_wipe 5 = .ok (.astore_n 2, 1) := by decide +kernel
theorem dX10_wipe_6 : decode cX10_wipe 6 = .ok (.aload_n 2, 1) := by decide +kernel
theorem dX10_wipe_7 : decode cX10_wipe 7 = .ok (.ifnonnull 6, 3) := by decide +kernel
theorem dX10_wipe_10 : decode cX10_wipe 10 = .ok (.bipush (-2), 2) := by decide +kernel
theorem dX10_wipe_12 : decode cX10_wipe 12 = .ok (.ireturn, 1) := by decide +kernel
theorem dX10_wipe_13 : decode cX10_wipe 13 = .ok (.aload_n 2, 1) := by decide +kernel
theorem dX10_wipe_14 : decode cX10_wipe 14 = .ok (.invokevirtual 85, 3) := by decide +kernel
theorem dX10_wipe_17 : decode cX10_wipe 17 = .ok (.istore_n 3, 1) := by decide +kernel
theorem dX10_wipe_18 : decode cX10_wipe 18 = .ok (.aload_n 2, 1) := by decide +kernel
theorem dX10_wipe_19 : decode cX10_wipe 19 = .ok (.invokevirtual 89, 3) := by decide +kernel
theorem dX10_wipe_22 : decode cX10_wipe 22 = .ok (.aload_n 0, 1) := by decide +kernel
theorem dX10_wipe_23 : decode cX10_wipe 23 = .ok (.iload_n 1, 1) := by decide +kernel
theorem dX10_wipe_24 : decode cX10_wipe 24 = .ok (.invokevirtual 82, 3) := by decide +kernel
theorem dX10_wipe_27 : decode cX10_wipe 27 = .ok (.iload_n 3, 1) := by decide +kernel
theorem dX10_wipe_28 : decode cX10_wipe 28 = .ok (.ireturn, 1) := by decide +kernel
theorem dX10_undo_0 : decode cX10_undo 0 = .ok (.aload_n 0, 1) := by decide +kernel
theorem dX10_undo_1 : decode cX10_undo 1 = .ok (.iload_n 1, 1) := by decide +kernel
theorem dX10_undo_2 : decode cX10_undo 2 = .ok (.invokevirtual 71, 3) := by decide +kernel
theorem dX10_undo_5 : decode cX10_undo 5 = .ok (.astore_n 2, 1) := by decide +kernel
theorem dX10_undo_6 : decode cX10_undo 6 = .ok (.aload_n 2, 1) := by decide +kernel
theorem dX10_undo_7 : decode cX10_undo 7 = .ok (.ifnonnull 6, 3) := by decide +kernel
theorem dX10_undo_10 : decode cX10_undo 10 = .ok (.bipush (-2), 2) := by decide +kernel
theorem dX10_undo_12 : decode cX10_undo 12 = .ok (.ireturn, 1) := by decide +kernel
theorem dX10_undo_13 : decode cX10_undo 13 = .ok (.aload_n 2, 1) := by decide +kernel
theorem dX10_undo_14 : decode cX10_undo 14 = .ok (.invokevirtual 92, 3) := by decide +kernel
theorem dX10_undo_17 : decode cX10_undo 17 = .ok (.ifCond .ne 6, 3) := by decide +kernel
theorem dX10_undo_20 : decode cX10_undo 20 = .ok (.bipush (-3), 2) := by decide +kernel
theorem dX10_undo_22 : decode cX10_undo 22 = .ok (.ireturn, 1) := by decide +kernel
theorem dX10_undo_23 : decode cX10_undo 23 = .ok (.aload_n 0, 1) := by decide +kernel
theorem dX10_undo_24 : decode cX10_undo 24 = .ok (.iload_n 1, 1) := by decide +kernel
theorem dX10_undo_25 : decode cX10_undo 25 = .ok (.invokevirtual 82, 3) := by decide +kernel
theorem dX10_undo_28 : decode cX10_undo 28 = .ok (.aload_n 2, 1) := by decide +kernel
theorem dX10_undo_29 : decode cX10_undo 29 = .ok (.invokevirtual 85, 3) := by decide +kernel
theorem dX10_undo_32 : decode cX10_undo 32 = .ok (.ireturn, 1) := by decide +kernel
theorem dX10_fault_0 : decode cX10_fault 0 = .ok (.aload_n 0, 1) := by decide +kernel
theorem dX10_fault_1 : decode cX10_fault 1 = .ok (.iload_n 1, 1) := by decide +kernel
theorem dX10_fault_2 : decode cX10_fault 2 = .ok (.invokevirtual 71, 3) := by decide +kernel
theorem dX10_fault_5 : decode cX10_fault 5 = .ok (.ifnonnull 6, 3) := by decide +kernel
theorem dX10_fault_8 : decode cX10_fault 8 = .ok (.bipush (-2), 2) := by decide +kernel
theorem dX10_fault_10 : decode cX10_fault 10 = .ok (.ireturn, 1) := by decide +kernel
theorem dX10_fault_11 : decode cX10_fault 11 = .ok (.iload_n 1, 1) := by decide +kernel
theorem dX10_fault_12 : decode cX10_fault 12 = .ok (.ifCond .ne 13, 3) := by decide +kernel
theorem dX10_fault_15 : decode cX10_fault 15 = .ok (.aload_n 0, 1) := by decide +kernel
theorem dX10_fault_16 : decode cX10_fault 16 = .ok (.getfield 24, 3) := by decide +kernel
theorem dX10_fault_19 : decode cX10_fault 19 = .ok (.invokevirtual 96, 3) := by decide +kernel
theorem dX10_fault_22 : decode cX10_fault 22 = .ok (.goto 10, 3) := by decide +kernel
theorem dX10_fault_25 : decode cX10_fault 25 = .ok (.aload_n 0, 1) := by decide +kernel
theorem dX10_fault_26 : decode cX10_fault 26 = .ok (.getfield 31, 3) := by decide +kernel
theorem dX10_fault_29 : decode cX10_fault 29 = .ok (.invokevirtual 99, 3) := by decide +kernel
theorem dX10_fault_32 : decode cX10_fault 32 = .ok (.ireturn, 1) := by decide +kernel
theorem dX10_rule_0 : decode cX10_rule 0 = .ok (.iload_n 1, 1) := by decide +kernel
theorem dX10_rule_1 : decode cX10_rule 1 = .ok (.ifCond .lt 23, 3) := by decide +kernel
theorem dX10_rule_4 : decode cX10_rule 4 = .ok (.iload_n 1, 1) := by decide +kernel
theorem dX10_rule_5 : decode cX10_rule 5 = .ok (.aload_n 0, 1) := by decide +kernel
theorem dX10_rule_6 : decode cX10_rule 6 = .ok (.getfield 24, 3) := by decide +kernel
theorem dX10_rule_9 : decode cX10_rule 9 = .ok (.invokevirtual 100, 3) := by decide +kernel
theorem dX10_rule_12 : decode cX10_rule 12 = .ok (.if_icmp .ge 12, 3) := by decide +kernel
theorem dX10_rule_15 : decode cX10_rule 15 = .ok (.iload_n 2, 1) := by decide +kernel
theorem dX10_rule_16 : decode cX10_rule 16 = .ok (.ifCond .lt 8, 3) := by decide +kernel
theorem dX10_rule_19 : decode cX10_rule 19 = .ok (.iload_n 2, 1) := by decide +kernel
theorem dX10_rule_20 : decode cX10_rule 20 = .ok (.iconst 2, 1) := by decide +kernel
theorem dX10_rule_21 : decode cX10_rule 21 = .ok (.if_icmp .le 6, 3) := by decide +kernel
theorem dX10_rule_24 : decode cX10_rule 24 = .ok (.bipush (-2), 2) := by decide +kernel
theorem dX10_rule_26 : decode cX10_rule 26 = .ok (.ireturn, 1) := by decide +kernel
theorem dX10_rule_27 : decode cX10_rule 27 = .ok (.iload_n 2, 1) := by decide +kernel
theorem dX10_rule_28 : decode cX10_rule 28 = .ok (.ifCond .ne 12, 3) := by decide +kernel
theorem dX10_rule_31 : decode cX10_rule 31 = .ok (.aload_n 0, 1) := by decide +kernel
theorem dX10_rule_32 : decode cX10_rule 32 = .ok (.getfield 24, 3) := by decide +kernel
theorem dX10_rule_35 : decode cX10_rule 35 = .ok (.iload_n 1, 1) := by decide +kernel
theorem dX10_rule_36 : decode cX10_rule 36 = .ok (.invokevirtual 101, 3) := by decide +kernel
theorem dX10_rule_39 : decode cX10_rule 39 = .ok (.ireturn, 1) := by decide +kernel
theorem dX10_rule_40 : decode cX10_rule 40 = .ok (.iload_n 2, 1) := by decide +kernel
theorem dX10_rule_41 : decode cX10_rule 41 = .ok (.iconst 1, 1) := by decide +kernel
theorem dX10_rule_42 : decode cX10_rule 42 = .ok (.if_icmp .ne 20, 3) := by decide +kernel
theorem dX10_rule_45 : decode cX10_rule 45 = .ok (.aload_n 0, 1) := by decide +kernel
theorem dX10_rule_46 : decode cX10_rule 46 = .ok (.getfield 24, 3) := by decide +kernel
theorem dX10_rule_49 : decode cX10_rule 49 = .ok (.iload_n 1, 1) := by decide +kernel
theorem dX10_rule_50 : decode cX10_rule 50 = .ok (.invokevirtual 105, 3) := by decide +kernel
theorem dX10_rule_53 : decode cX10_rule 53 = .ok (.ifCond .eq 7, 3) := by decide +kernel
theorem dX10_rule_56 : decode cX10_rule 56 = .ok (.iconst 1, 1) := by decide +kernel
theorem dX10_rule_57 : decode cX10_rule 57 = .ok (.goto 4, 3) := by decide +kernel
theorem dX10_rule_60 : decode cX10_rule 60 = .ok (.iconst 0, 1) := by decide +kernel
theorem dX10_rule_61 : decode cX10_rule 61 = .ok (.ireturn, 1) := by decide +kernel
theorem dX10_rule_62 : decode cX10_rule 62 = .ok (.aload_n 0, 1) := by decide +kernel
theorem dX10_rule_63 : decode cX10_rule 63 = .ok (.getfield 24, 3) := by decide +kernel
theorem dX10_rule_66 : decode cX10_rule 66 = .ok (.iload_n 1, 1) := by decide +kernel
theorem dX10_rule_67 : decode cX10_rule 67 = .ok (.invokevirtual 108, 3) := by decide +kernel
theorem dX10_rule_70 : decode cX10_rule 70 = .ok (.ireturn, 1) := by decide +kernel
theorem dX10_dust_0 : decode cX10_dust 0 = .ok (.iload_n 1, 1) := by decide +kernel
theorem dX10_dust_1 : decode cX10_dust 1 = .ok (.ifCond .lt 21, 3) := by decide +kernel
theorem dX10_dust_4 : decode cX10_dust 4 = .ok (.iload_n 1, 1) := by decide +kernel
theorem dX10_dust_5 : decode cX10_dust 5 = .ok (.aload_n 0, 1) := by decide +kernel
theorem dX10_dust_6 : decode cX10_dust 6 = .ok (.getfield 31, 3) := by decide +kernel
theorem dX10_dust_9 : decode cX10_dust 9 = .ok (.invokevirtual 111, 3) := by decide +kernel
theorem dX10_dust_12 : decode cX10_dust 12 = .ok (.if_icmp .ge 10, 3) := by decide +kernel
theorem dX10_dust_15 : decode cX10_dust 15 = .ok (.iload_n 2, 1) := by decide +kernel
theorem dX10_dust_16 : decode cX10_dust 16 = .ok (.invokestatic 112, 3) := by decide +kernel
theorem dX10_dust_19 : decode cX10_dust 19 = .ok (.ifCond .ne 6, 3) := by decide +kernel
theorem dX10_dust_22 : decode cX10_dust 22 = .ok (.bipush (-2), 2) := by decide +kernel
theorem dX10_dust_24 : decode cX10_dust 24 = .ok (.ireturn, 1) := by decide +kernel
theorem dX10_dust_25 : decode cX10_dust 25 = .ok (.iload_n 2, 1) := by decide +kernel
theorem dX10_dust_26 : decode cX10_dust 26 = .ok (.ifCond .ne 14, 3) := by decide +kernel
theorem dX10_dust_29 : decode cX10_dust 29 = .ok (.aload_n 0, 1) := by decide +kernel
theorem dX10_dust_30 : decode cX10_dust 30 = .ok (.getfield 31, 3) := by decide +kernel
theorem dX10_dust_33 : decode cX10_dust 33 = .ok (.iload_n 1, 1) := by decide +kernel
theorem dX10_dust_34 : decode cX10_dust 34 = .ok (.invokevirtual 115, 3) := by decide +kernel
theorem dX10_dust_37 : decode cX10_dust 37 = .ok (.goto 11, 3) := by decide +kernel
theorem dX10_dust_40 : decode cX10_dust 40 = .ok (.aload_n 0, 1) := by decide +kernel
theorem dX10_dust_41 : decode cX10_dust 41 = .ok (.getfield 31, 3) := by decide +kernel
theorem dX10_dust_44 : decode cX10_dust 44 = .ok (.iload_n 1, 1) := by decide +kernel
theorem dX10_dust_45 : decode cX10_dust 45 = .ok (.invokevirtual 116, 3) := by decide +kernel
theorem dX10_dust_48 : decode cX10_dust 48 = .ok (.ireturn, 1) := by decide +kernel
theorem dX10_first_0 : decode cX10_first 0 = .ok (.iload_n 1, 1) := by decide +kernel
theorem dX10_first_1 : decode cX10_first 1 = .ok (.invokestatic 75, 3) := by decide +kernel
theorem dX10_first_4 : decode cX10_first 4 = .ok (.ifCond .ne 6, 3) := by decide +kernel
theorem dX10_first_7 : decode cX10_first 7 = .ok (.bipush (-2), 2) := by decide +kernel
theorem dX10_first_9 : decode cX10_first 9 = .ok (.ireturn, 1) := by decide +kernel
theorem dX10_first_10 : decode cX10_first 10 = .ok (.aload_n 0, 1) := by decide +kernel
theorem dX10_first_11 : decode cX10_first 11 = .ok (.getfield 49, 3) := by decide +kernel
theorem dX10_first_14 : decode cX10_first 14 = .ok (.invokevirtual 117, 3) := by decide +kernel
theorem dX10_first_17 : decode cX10_first 17 = .ok (.istore_n 2, 1) := by decide +kernel
theorem dX10_first_18 : decode cX10_first 18 = .ok (.aload_n 0, 1) := by decide +kernel
theorem dX10_first_19 : decode cX10_first 19 = .ok (.getfield 49, 3) := by decide +kernel
theorem dX10_first_22 : decode cX10_first 22 = .ok (.iload_n 1, 1) := by decide +kernel
theorem dX10_first_23 : decode cX10_first 23 = .ok (.invokevirtual 120, 3) := by decide +kernel
theorem dX10_first_26 : decode cX10_first 26 = .ok (.iload_n 2, 1) := by decide +kernel
theorem dX10_first_27 : decode cX10_first 27 = .ok (.ireturn, 1) := by decide +kernel
theorem dX10_comes_0 : decode cX10_comes 0 = .ok (.iload_n 1, 1) := by decide +kernel
theorem dX10_comes_1 : decode cX10_comes 1 = .ok (.invokestatic 75, 3) := by decide +kernel
theorem dX10_comes_4 : decode cX10_comes 4 = .ok (.ifCond .eq 14, 3) := by decide +kernel
theorem dX10_comes_7 : decode cX10_comes 7 = .ok (.aload_n 0, 1) := by decide +kernel
theorem dX10_comes_8 : decode cX10_comes 8 = .ok (.invokevirtual 123, 3) := by decide +kernel
theorem dX10_comes_11 : decode cX10_comes 11 = .ok (.iload_n 1, 1) := by decide +kernel
theorem dX10_comes_12 : decode cX10_comes 12 = .ok (.invokevirtual 127, 3) := by decide +kernel
theorem dX10_comes_15 : decode cX10_comes 15 = .ok (.goto 5, 3) := by decide +kernel
theorem dX10_comes_18 : decode cX10_comes 18 = .ok (.bipush (-2), 2) := by decide +kernel
theorem dX10_comes_20 : decode cX10_comes 20 = .ok (.ireturn, 1) := by decide +kernel
theorem dX10_lays_0 : decode cX10_lays 0 = .ok (.iload_n 1, 1) := by decide +kernel
theorem dX10_lays_1 : decode cX10_lays 1 = .ok (.invokestatic 75, 3) := by decide +kernel
theorem dX10_lays_4 : decode cX10_lays 4 = .ok (.ifCond .eq 14, 3) := by decide +kernel
theorem dX10_lays_7 : decode cX10_lays 7 = .ok (.aload_n 0, 1) := by decide +kernel
theorem dX10_lays_8 : decode cX10_lays 8 = .ok (.getfield 31, 3) := by decide +kernel
theorem dX10_lays_11 : decode cX10_lays 11 = .ok (.iload_n 1, 1) := by decide +kernel
theorem dX10_lays_12 : decode cX10_lays 12 = .ok (.invokevirtual 130, 3) := by decide +kernel
theorem dX10_lays_15 : decode cX10_lays 15 = .ok (.goto 5, 3) := by decide +kernel
theorem dX10_lays_18 : decode cX10_lays 18 = .ok (.bipush (-2), 2) := by decide +kernel
theorem dX10_lays_20 : decode cX10_lays 20 = .ok (.ireturn, 1) := by decide +kernel
theorem dX10_lay_0 : decode cX10_lay 0 = .ok (.iload_n 1, 1) := by decide +kernel
theorem dX10_lay_1 : decode cX10_lay 1 = .ok (.invokestatic 133, 3) := by decide +kernel
theorem dX10_lay_4 : decode cX10_lay 4 = .ok (.ifCond .eq 17, 3) := by decide +kernel
theorem dX10_lay_7 : decode cX10_lay 7 = .ok (.iload_n 2, 1) := by decide +kernel
theorem dX10_lay_8 : decode cX10_lay 8 = .ok (.invokestatic 136, 3) := by decide +kernel
theorem dX10_lay_11 : decode cX10_lay 11 = .ok (.ifCond .eq 10, 3) := by decide +kernel
theorem dX10_lay_14 : decode cX10_lay 14 = .ok (.iload_n 3, 1) := by decide +kernel
theorem dX10_lay_15 : decode cX10_lay 15 = .ok (.invokestatic 112, 3) := by decide +kernel
theorem dX10_lay_18 : decode cX10_lay 18 = .ok (.ifCond .ne 6, 3) := by decide +kernel
theorem dX10_lay_21 : decode cX10_lay 21 = .ok (.bipush (-2), 2) := by decide +kernel
theorem dX10_lay_23 : decode cX10_lay 23 = .ok (.ireturn, 1) := by decide +kernel
theorem dX10_lay_24 : decode cX10_lay 24 = .ok (.aload_n 0, 1) := by decide +kernel
theorem dX10_lay_25 : decode cX10_lay 25 = .ok (.getfield 49, 3) := by decide +kernel
theorem dX10_lay_28 : decode cX10_lay 28 = .ok (.iload_n 1, 1) := by decide +kernel
