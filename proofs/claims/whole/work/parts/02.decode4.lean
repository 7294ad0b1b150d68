theorem dX11_watchOf_88 : decode cX11_watchOf 88 = .ok (.iload_n 2, 1) := by decide +kernel
theorem dX11_watchOf_89 : decode cX11_watchOf 89 = .ok (.isub, 1) := by decide +kernel
theorem dX11_watchOf_90 : decode cX11_watchOf 90 = .ok (.goto 9, 3) := by decide +kernel
theorem dX11_watchOf_93 : decode cX11_watchOf 93 = .ok (.iload_n 2, 1) := by decide +kernel
theorem dX11_watchOf_94 : decode cX11_watchOf 94 = .ok (.iconst 2, 1) := by decide +kernel
theorem dX11_watchOf_95 : decode cX11_watchOf 95 = .ok (.iload 6, 2) := by decide +kernel
theorem dX11_watchOf_97 : decode cX11_watchOf 97 = .ok (.imul, 1) := by decide +kernel
theorem dX11_watchOf_98 : decode cX11_watchOf 98 = .ok (.isub, 1) := by decide +kernel
theorem dX11_watchOf_99 : decode cX11_watchOf 99 = .ok (.istore 7, 2) := by decide +kernel
theorem dX11_watchOf_101 : decode cX11_watchOf 101 = .ok (.iload_n 3, 1) := by decide +kernel
theorem dX11_watchOf_102 : decode cX11_watchOf 102 = .ok (.iconst (-1), 1) := by decide +kernel
theorem dX11_watchOf_103 : decode cX11_watchOf 103 = .ok (.if_icmp .eq 10, 3) := by decide +kernel
theorem dX11_watchOf_106 : decode cX11_watchOf 106 = .ok (.iload 7, 2) := by decide +kernel
theorem dX11_watchOf_108 : decode cX11_watchOf 108 = .ok (.iload 4, 2) := by decide +kernel
theorem dX11_watchOf_110 : decode cX11_watchOf 110 = .ok (.if_icmp .ge 7, 3) := by decide +kernel
theorem dX11_watchOf_113 : decode cX11_watchOf 113 = .ok (.iconst 1, 1) := by decide +kernel
theorem dX11_watchOf_114 : decode cX11_watchOf 114 = .ok (.goto 4, 3) := by decide +kernel
theorem dX11_watchOf_117 : decode cX11_watchOf 117 = .ok (.iconst 0, 1) := by decide +kernel
theorem dX11_watchOf_118 : decode cX11_watchOf 118 = .ok (.istore 8, 2) := by decide +kernel
theorem dX11_watchOf_120 : decode cX11_watchOf 120 = .ok (.iload 8, 2) := by decide +kernel
theorem dX11_watchOf_122 : decode cX11_watchOf 122 = .ok (.ifCond .eq 8, 3) := by decide +kernel
theorem dX11_watchOf_125 : decode cX11_watchOf 125 = .ok (.iload 5, 2) := by decide +kernel
theorem dX11_watchOf_127 : decode cX11_watchOf 127 = .ok (.goto 4, 3) := by decide +kernel
theorem dX11_watchOf_130 : decode cX11_watchOf 130 = .ok (.iload_n 3, 1) := by decide +kernel
theorem dX11_watchOf_131 : decode cX11_watchOf 131 = .ok (.istore_n 3, 1) := by decide +kernel
theorem dX11_watchOf_132 : decode cX11_watchOf 132 = .ok (.iload 8, 2) := by decide +kernel
theorem dX11_watchOf_134 : decode cX11_watchOf 134 = .ok (.ifCond .eq 8, 3) := by decide +kernel
theorem dX11_watchOf_137 : decode cX11_watchOf 137 = .ok (.iload 7, 2) := by decide +kernel
theorem dX11_watchOf_139 : decode cX11_watchOf 139 = .ok (.goto 5, 3) := by decide +kernel
theorem dX11_watchOf_142 : decode cX11_watchOf 142 = .ok (.iload 4, 2) := by decide +kernel
theorem dX11_watchOf_144 : decode cX11_watchOf 144 = .ok (.istore 4, 2) := by decide +kernel
theorem dX11_watchOf_146 : decode cX11_watchOf 146 = .ok (.iinc 5 1, 3) := by decide +kernel
theorem dX11_watchOf_149 : decode cX11_watchOf 149 = .ok (.goto (-134), 3) := by decide +kernel
theorem dX11_watchOf_152 : decode cX11_watchOf 152 = .ok (.iload_n 3, 1) := by decide +kernel
theorem dX11_watchOf_153 : decode cX11_watchOf 153 = .ok (.ireturn, 1) := by decide +kernel
theorem dX11_watch_0 : decode cX11_watch 0 = .ok (.iload_n 1, 1) := by decide +kernel
theorem dX11_watch_1 : decode cX11_watch 1 = .ok (.invokestatic 158, 3) := by decide +kernel
theorem dX11_watch_4 : decode cX11_watch 4 = .ok (.ifCond .eq 11, 3) := by decide +kernel
theorem dX11_watch_7 : decode cX11_watch 7 = .ok (.aload_n 0, 1) := by decide +kernel
theorem dX11_watch_8 : decode cX11_watch 8 = .ok (.iload_n 1, 1) := by decide +kernel
theorem dX11_watch_9 : decode cX11_watch 9 = .ok (.invokevirtual 228, 3) := by decide +kernel
theorem dX11_watch_12 : decode cX11_watch 12 = .ok (.goto 5, 3) := by decide +kernel
theorem dX11_watch_15 : decode cX11_watch 15 = .ok (.bipush (-2), 2) := by decide +kernel
theorem dX11_watch_17 : decode cX11_watch 17 = .ok (.ireturn, 1) := by decide +kernel
theorem dX11_movedOf_0 : decode cX11_movedOf 0 = .ok (.iconst 0, 1) := by decide +kernel
theorem dX11_movedOf_1 : decode cX11_movedOf 1 = .ok (.istore_n 2, 1) := by decide +kernel
theorem dX11_movedOf_2 : decode cX11_movedOf 2 = .ok (.iconst 0, 1) := by decide +kernel
theorem dX11_movedOf_3 : decode cX11_movedOf 3 = .ok (.istore_n 3, 1) := by decide +kernel
theorem dX11_movedOf_4 : decode cX11_movedOf 4 = .ok (.iload_n 3, 1) := by decide +kernel
theorem dX11_movedOf_5 : decode cX11_movedOf 5 = .ok (.bipush 8, 2) := by decide +kernel
theorem dX11_movedOf_7 : decode cX11_movedOf 7 = .ok (.if_icmp .ge 36, 3) := by decide +kernel
theorem dX11_movedOf_10 : decode cX11_movedOf 10 = .ok (.iload_n 2, 1) := by decide +kernel
theorem dX11_movedOf_11 : decode cX11_movedOf 11 = .ok (.aload_n 0, 1) := by decide +kernel
theorem dX11_movedOf_12 : decode cX11_movedOf 12 = .ok (.getfield 34, 3) := by decide +kernel
theorem dX11_movedOf_15 : decode cX11_movedOf 15 = .ok (.aload_n 0, 1) := by decide +kernel
theorem dX11_movedOf_16 : decode cX11_movedOf 16 = .ok (.getfield 150, 3) := by decide +kernel
theorem dX11_movedOf_19 : decode cX11_movedOf 19 = .ok (.iconst 1, 1) := by decide +kernel
theorem dX11_movedOf_20 : decode cX11_movedOf 20 = .ok (.iload_n 3, 1) := by decide +kernel
theorem dX11_movedOf_21 : decode cX11_movedOf 21 = .ok (.ishl, 1) := by decide +kernel
theorem dX11_movedOf_22 : decode cX11_movedOf 22 = .ok (.ixor, 1) := by decide +kernel
theorem dX11_movedOf_23 : decode cX11_movedOf 23 = .ok (.iaload, 1) := by decide +kernel
theorem dX11_movedOf_24 : decode cX11_movedOf 24 = .ok (.iload_n 1, 1) := by decide +kernel
theorem dX11_movedOf_25 : decode cX11_movedOf 25 = .ok (.if_icmp .ne 9, 3) := by decide +kernel
theorem dX11_movedOf_28 : decode cX11_movedOf 28 = .ok (.iconst 1, 1) := by decide +kernel
theorem dX11_movedOf_29 : decode cX11_movedOf 29 = .ok (.iload_n 3, 1) := by decide +kernel
theorem dX11_movedOf_30 : decode cX11_movedOf 30 = .ok (.ishl, 1) := by decide +kernel
theorem dX11_movedOf_31 : decode cX11_movedOf 31 = .ok (.goto 4, 3) := by decide +kernel
theorem dX11_movedOf_34 : decode cX11_movedOf 34 = .ok (.iconst 0, 1) := by decide +kernel
theorem dX11_movedOf_35 : decode cX11_movedOf 35 = .ok (.ior, 1) := by decide +kernel
theorem dX11_movedOf_36 : decode cX11_movedOf 36 = .ok (.istore_n 2, 1) := by decide +kernel
theorem dX11_movedOf_37 : decode cX11_movedOf 37 = .ok (.iinc 3 1, 3) := by decide +kernel
theorem dX11_movedOf_40 : decode cX11_movedOf 40 = .ok (.goto (-36), 3) := by decide +kernel
theorem dX11_movedOf_43 : decode cX11_movedOf 43 = .ok (.iload_n 2, 1) := by decide +kernel
theorem dX11_movedOf_44 : decode cX11_movedOf 44 = .ok (.ireturn, 1) := by decide +kernel
theorem dX11_moved_0 : decode cX11_moved 0 = .ok (.aload_n 0, 1) := by decide +kernel
theorem dX11_moved_1 : decode cX11_moved 1 = .ok (.invokevirtual 153, 3) := by decide +kernel
theorem dX11_moved_4 : decode cX11_moved 4 = .ok (.iload_n 1, 1) := by decide +kernel
theorem dX11_moved_5 : decode cX11_moved 5 = .ok (.invokestatic 147, 3) := by decide +kernel
theorem dX11_moved_8 : decode cX11_moved 8 = .ok (.ifCond .eq 11, 3) := by decide +kernel
theorem dX11_moved_11 : decode cX11_moved 11 = .ok (.aload_n 0, 1) := by decide +kernel
theorem dX11_moved_12 : decode cX11_moved 12 = .ok (.iload_n 1, 1) := by decide +kernel
theorem dX11_moved_13 : decode cX11_moved 13 = .ok (.invokevirtual 231, 3) := by decide +kernel
theorem dX11_moved_16 : decode cX11_moved 16 = .ok (.goto 5, 3) := by decide +kernel
theorem dX11_moved_19 : decode cX11_moved 19 = .ok (.bipush (-2), 2) := by decide +kernel
theorem dX11_moved_21 : decode cX11_moved 21 = .ok (.ireturn, 1) := by decide +kernel
theorem dX11_catBy_0 : decode cX11_catBy 0 = .ok (.aload_n 0, 1) := by decide +kernel
theorem dX11_catBy_1 : decode cX11_catBy 1 = .ok (.getfield 34, 3) := by decide +kernel
theorem dX11_catBy_4 : decode cX11_catBy 4 = .ok (.aload_n 0, 1) := by decide +kernel
theorem dX11_catBy_5 : decode cX11_catBy 5 = .ok (.getfield 150, 3) := by decide +kernel
theorem dX11_catBy_8 : decode cX11_catBy 8 = .ok (.iaload, 1) := by decide +kernel
theorem dX11_catBy_9 : decode cX11_catBy 9 = .ok (.iload_n 2, 1) := by decide +kernel
theorem dX11_catBy_10 : decode cX11_catBy 10 = .ok (.invokestatic 142, 3) := by decide +kernel
theorem dX11_catBy_13 : decode cX11_catBy 13 = .ok (.ifCond .eq 13, 3) := by decide +kernel
theorem dX11_catBy_16 : decode cX11_catBy 16 = .ok (.bipush 8, 2) := by decide +kernel
theorem dX11_catBy_18 : decode cX11_catBy 18 = .ok (.bipush 16, 2) := by decide +kernel
theorem dX11_catBy_20 : decode cX11_catBy 20 = .ok (.iload_n 1, 1) := by decide +kernel
theorem dX11_catBy_21 : decode cX11_catBy 21 = .ok (.isub, 1) := by decide +kernel
theorem dX11_catBy_22 : decode cX11_catBy 22 = .ok (.imul, 1) := by decide +kernel
theorem dX11_catBy_23 : decode cX11_catBy 23 = .ok (.goto 4, 3) := by decide +kernel
theorem dX11_catBy_26 : decode cX11_catBy 26 = .ok (.iconst 0, 1) := by decide +kernel
theorem dX11_catBy_27 : decode cX11_catBy 27 = .ok (.istore_n 3, 1) := by decide +kernel
theorem dX11_catBy_28 : decode cX11_catBy 28 = .ok (.iconst 0, 1) := by decide +kernel
theorem dX11_catBy_29 : decode cX11_catBy 29 = .ok (.istore 4, 2) := by decide +kernel
theorem dX11_catBy_31 : decode cX11_catBy 31 = .ok (.iload 4, 2) := by decide +kernel
theorem dX11_catBy_33 : decode cX11_catBy 33 = .ok (.bipush 8, 2) := by decide +kernel
theorem dX11_catBy_35 : decode cX11_catBy 35 = .ok (.if_icmp .ge 38, 3) := by decide +kernel
theorem dX11_catBy_38 : decode cX11_catBy 38 = .ok (.iload_n 3, 1) := by decide +kernel
theorem dX11_catBy_39 : decode cX11_catBy 39 = .ok (.aload_n 0, 1) := by decide +kernel
theorem dX11_catBy_40 : decode cX11_catBy 40 = .ok (.getfield 34, 3) := by decide +kernel
theorem dX11_catBy_43 : decode cX11_catBy 43 = .ok (.aload_n 0, 1) := by decide +kernel
theorem dX11_catBy_44 : decode cX11_catBy 44 = .ok (.getfield 150, 3) := by decide +kernel
theorem dX11_catBy_47 : decode cX11_catBy 47 = .ok (.iconst 1, 1) := by decide +kernel
theorem dX11_catBy_48 : decode cX11_catBy 48 = .ok (.iload 4, 2) := by decide +kernel
theorem dX11_catBy_50 : decode cX11_catBy 50 = .ok (.ishl, 1) := by decide +kernel
theorem dX11_catBy_51 : decode cX11_catBy 51 = .ok (.ixor, 1) := by decide +kernel
theorem dX11_catBy_52 : decode cX11_catBy 52 = .ok (.iaload, 1) := by decide +kernel
theorem dX11_catBy_53 : decode cX11_catBy 53 = .ok (.iload_n 2, 1) := by decide +kernel
theorem dX11_catBy_54 : decode cX11_catBy 54 = .ok (.invokestatic 142, 3) := by decide +kernel
theorem dX11_catBy_57 : decode cX11_catBy 57 = .ok (.ifCond .eq 7, 3) := by decide +kernel
theorem dX11_catBy_60 : decode cX11_catBy 60 = .ok (.iload_n 1, 1) := by decide +kernel
theorem dX11_catBy_61 : decode cX11_catBy 61 = .ok (.goto 4, 3) := by decide +kernel
theorem dX11_catBy_64 : decode cX11_catBy 64 = .ok (.iconst 0, 1) := by decide +kernel
theorem dX11_catBy_65 : decode cX11_catBy 65 = .ok (.iadd, 1) := by decide +kernel
theorem dX11_catBy_66 : decode cX11_catBy 66 = .ok (.istore_n 3, 1) := by decide +kernel
theorem dX11_catBy_67 : decode cX11_catBy 67 = .ok (.iinc 4 1, 3) := by decide +kernel
theorem dX11_catBy_70 : decode cX11_catBy 70 = .ok (.goto (-39), 3) := by decide +kernel
theorem dX11_catBy_73 : decode cX11_catBy 73 = .ok (.iload_n 3, 1) := by decide +kernel
theorem dX11_catBy_74 : decode cX11_catBy 74 = .ok (.ireturn, 1) := by decide +kernel
theorem dX11_cat_0 : decode cX11_cat 0 = .ok (.aload_n 0, 1) := by decide +kernel
theorem dX11_cat_1 : decode cX11_cat 1 = .ok (.invokevirtual 153, 3) := by decide +kernel
theorem dX11_cat_4 : decode cX11_cat 4 = .ok (.iload_n 1, 1) := by decide +kernel
theorem dX11_cat_5 : decode cX11_cat 5 = .ok (.i2l, 1) := by decide +kernel
theorem dX11_cat_6 : decode cX11_cat 6 = .ok (.lconst 0, 1) := by decide +kernel
theorem dX11_cat_7 : decode cX11_cat 7 = .ok (.ldc2_w 234, 3) := by decide +kernel
theorem dX11_cat_10 : decode cX11_cat 10 = .ok (.invokestatic 61, 3) := by decide +kernel
theorem dX11_cat_13 : decode cX11_cat 13 = .ok (.ifCond .eq 34, 3) := by decide +kernel
theorem dX11_cat_16 : decode cX11_cat 16 = .ok (.iload_n 2, 1) := by decide +kernel
theorem dX11_cat_17 : decode cX11_cat 17 = .ok (.invokestatic 158, 3) := by decide +kernel
theorem dX11_cat_20 : decode cX11_cat 20 = .ok (.ifCond .eq 27, 3) := by decide +kernel
theorem dX11_cat_23 : decode cX11_cat 23 = .ok (.iload_n 3, 1) := by decide +kernel
theorem dX11_cat_24 : decode cX11_cat 24 = .ok (.invokestatic 90, 3) := by decide +kernel
theorem dX11_cat_27 : decode cX11_cat 27 = .ok (.ifCond .eq 20, 3) := by decide +kernel
theorem dX11_cat_30 : decode cX11_cat 30 = .ok (.aload_n 0, 1) := by decide +kernel
theorem dX11_cat_31 : decode cX11_cat 31 = .ok (.iload_n 1, 1) := by decide +kernel
theorem dX11_cat_32 : decode cX11_cat 32 = .ok (.iload_n 2, 1) := by decide +kernel
theorem dX11_cat_33 : decode cX11_cat 33 = .ok (.invokevirtual 236, 3) := by decide +kernel
theorem dX11_cat_36 : decode cX11_cat 36 = .ok (.i2l, 1) := by decide +kernel
theorem dX11_cat_37 : decode cX11_cat 37 = .ok (.ldc2_w 239, 3) := by decide +kernel
theorem dX11_cat_40 : decode cX11_cat 40 = .ok (.iload_n 3, 1) := by decide +kernel
theorem dX11_cat_41 : decode cX11_cat 41 = .ok (.invokestatic 241, 3) := by decide +kernel
theorem dX11_cat_44 : decode cX11_cat 44 = .ok (.goto 8, 3) := by decide +kernel
theorem dX11_cat_47 : decode cX11_cat 47 = .ok (.bipush (-2), 2) := by decide +kernel
theorem dX11_cat_49 : decode cX11_cat 49 = .ok (.invokestatic 245, 3) := by decide +kernel
theorem dX11_cat_52 : decode cX11_cat 52 = .ok (.lreturn, 1) := by decide +kernel
theorem dX11_letOf_0 : decode cX11_letOf 0 = .ok (.aload_n 0, 1) := by decide +kernel
theorem dX11_letOf_1 : decode cX11_letOf 1 = .ok (.iload_n 1, 1) := by decide +kernel
theorem dX11_letOf_2 : decode cX11_letOf 2 = .ok (.iload_n 2, 1) := by decide +kernel
theorem dX11_letOf_3 : decode cX11_letOf 3 = .ok (.invokevirtual 236, 3) := by decide +kernel
theorem dX11_letOf_6 : decode cX11_letOf 6 = .ok (.aload_n 0, 1) := by decide +kernel
theorem dX11_letOf_7 : decode cX11_letOf 7 = .ok (.getfield 34, 3) := by decide +kernel
theorem dX11_letOf_10 : decode cX11_letOf 10 = .ok (.aload_n 0, 1) := by decide +kernel
theorem dX11_letOf_11 : decode cX11_letOf 11 = .ok (.getfield 150, 3) := by decide +kernel
theorem dX11_letOf_14 : decode cX11_letOf 14 = .ok (.iaload, 1) := by decide +kernel
theorem dX11_letOf_15 : decode cX11_letOf 15 = .ok (.iload_n 2, 1) := by decide +kernel
theorem dX11_letOf_16 : decode cX11_letOf 16 = .ok (.invokestatic 142, 3) := by decide +kernel
theorem dX11_letOf_19 : decode cX11_letOf 19 = .ok (.ifCond .eq 9, 3) := by decide +kernel
theorem dX11_letOf_22 : decode cX11_letOf 22 = .ok (.sipush 128, 3) := by decide +kernel
theorem dX11_letOf_25 : decode cX11_letOf 25 = .ok (.goto 4, 3) := by decide +kernel
theorem dX11_letOf_28 : decode cX11_letOf 28 = .ok (.iconst 0, 1) := by decide +kernel
theorem dX11_letOf_29 : decode cX11_letOf 29 = .ok (.if_icmp .ge 7, 3) := by decide +kernel
theorem dX11_letOf_32 : decode cX11_letOf 32 = .ok (.iconst 1, 1) := by decide +kernel
theorem dX11_letOf_33 : decode cX11_letOf 33 = .ok (.goto 4, 3) := by decide +kernel
theorem dX11_letOf_36 : decode cX11_letOf 36 = .ok (.iconst 0, 1) := by decide +kernel
theorem dX11_letOf_37 : decode cX11_letOf 37 = .ok (.ireturn, 1) := by decide +kernel
theorem dX11_let_0 : decode cX11_let 0 = .ok (.aload_n 0, 1) := by decide +kernel
theorem dX11_let_1 : decode cX11_let 1 = .ok (.invokevirtual 153, 3) := by decide +kernel
theorem dX11_let_4 : decode cX11_let 4 = .ok (.iload_n 1, 1) := by decide +kernel
theorem dX11_let_5 : decode cX11_let 5 = .ok (.i2l, 1) := by decide +kernel
theorem dX11_let_6 : decode cX11_let 6 = .ok (.lconst 0, 1) := by decide +kernel
theorem dX11_let_7 : decode cX11_let 7 = .ok (.ldc2_w 234, 3) := by decide +kernel
theorem dX11_let_10 : decode cX11_let 10 = .ok (.invokestatic 61, 3) := by decide +kernel
theorem dX11_let_13 : decode cX11_let 13 = .ok (.ifCond .eq 19, 3) := by decide +kernel
theorem dX11_let_16 : decode cX11_let 16 = .ok (.iload_n 2, 1) := by decide +kernel
theorem dX11_let_17 : decode cX11_let 17 = .ok (.invokestatic 158, 3) := by decide +kernel
theorem dX11_let_20 : decode cX11_let 20 = .ok (.ifCond .eq 12, 3) := by decide +kernel
theorem dX11_let_23 : decode cX11_let 23 = .ok (.aload_n 0, 1) := by decide +kernel
theorem dX11_let_24 : decode cX11_let 24 = .ok (.iload_n 1, 1) := by decide +kernel
theorem dX11_let_25 : decode cX11_let 25 = .ok (.iload_n 2, 1) := by decide +kernel
theorem dX11_let_26 : decode cX11_let 26 = .ok (.invokevirtual 249, 3) := by decide +kernel
theorem dX11_let_29 : decode cX11_let 29 = .ok (.goto 5, 3) := by decide +kernel
theorem dX11_let_32 : decode cX11_let 32 = .ok (.bipush (-2), 2) := by decide +kernel
theorem dX11_let_34 : decode cX11_let 34 = .ok (.ireturn, 1) := by decide +kernel
theorem dX11_lotOf_0 : decode cX11_lotOf 0 = .ok (.iload_n 1, 1) := by decide +kernel
theorem dX11_lotOf_1 : decode cX11_lotOf 1 = .ok (.istore 4, 2) := by decide +kernel
theorem dX11_lotOf_3 : decode cX11_lotOf 3 = .ok (.aload_n 0, 1) := by decide +kernel
theorem dX11_lotOf_4 : decode cX11_lotOf 4 = .ok (.getfield 150, 3) := by decide +kernel
theorem dX11_lotOf_7 : decode cX11_lotOf 7 = .ok (.istore 5, 2) := by decide +kernel
theorem dX11_lotOf_9 : decode cX11_lotOf 9 = .ok (.iconst 0, 1) := by decide +kernel
theorem dX11_lotOf_10 : decode cX11_lotOf 10 = .ok (.istore 6, 2) := by decide +kernel
theorem dX11_lotOf_12 : decode cX11_lotOf 12 = .ok (.iconst 0, 1) := by decide +kernel
theorem dX11_lotOf_13 : decode cX11_lotOf 13 = .ok (.istore 7, 2) := by decide +kernel
theorem dX11_lotOf_15 : decode cX11_lotOf 15 = .ok (.iload 7, 2) := by decide +kernel
theorem dX11_lotOf_17 : decode cX11_lotOf 17 = .ok (.iload_n 2, 1) := by decide +kernel
theorem dX11_lotOf_18 : decode cX11_lotOf 18 = .ok (.if_icmp .ge 72, 3) := by decide +kernel
theorem dX11_lotOf_21 : decode cX11_lotOf 21 = .ok (.ldc 252, 2) := by decide +kernel
theorem dX11_lotOf_23 : decode cX11_lotOf 23 = .ok (.iload 4, 2) := by decide +kernel
theorem dX11_lotOf_25 : decode cX11_lotOf 25 = .ok (.imul, 1) := by decide +kernel
theorem dX11_lotOf_26 : decode cX11_lotOf 26 = .ok (.sipush 12345, 3) := by decide +kernel
theorem dX11_lotOf_29 : decode cX11_lotOf 29 = .ok (.iadd, 1) := by decide +kernel
theorem dX11_lotOf_30 : decode cX11_lotOf 30 = .ok (.istore 4, 2) := by decide +kernel
theorem dX11_lotOf_32 : decode cX11_lotOf 32 = .ok (.iload 5, 2) := by decide +kernel
theorem dX11_lotOf_34 : decode cX11_lotOf 34 = .ok (.iconst 1, 1) := by decide +kernel
theorem dX11_lotOf_35 : decode cX11_lotOf 35 = .ok (.iload 4, 2) := by decide +kernel
theorem dX11_lotOf_37 : decode cX11_lotOf 37 = .ok (.bipush 16, 2) := by decide +kernel
theorem dX11_lotOf_39 : decode cX11_lotOf 39 = .ok (.iushr, 1) := by decide +kernel
theorem dX11_lotOf_40 : decode cX11_lotOf 40 = .ok (.bipush 8, 2) := by decide +kernel
theorem dX11_lotOf_42 : decode cX11_lotOf 42 = .ok (.irem, 1) := by decide +kernel
theorem dX11_lotOf_43 : decode cX11_lotOf 43 = .ok (.ishl, 1) := by decide +kernel
theorem dX11_lotOf_44 : decode cX11_lotOf 44 = .ok (.ixor, 1) := by decide +kernel
theorem dX11_lotOf_45 : decode cX11_lotOf 45 = .ok (.istore 5, 2) := by decide +kernel
theorem dX11_lotOf_47 : decode cX11_lotOf 47 = .ok (.iload 6, 2) := by decide +kernel
theorem dX11_lotOf_49 : decode cX11_lotOf 49 = .ok (.iload_n 3, 1) := by decide +kernel
theorem dX11_lotOf_50 : decode cX11_lotOf 50 = .ok (.iconst (-1), 1) := by decide +kernel
theorem dX11_lotOf_51 : decode cX11_lotOf 51 = .ok (.if_icmp .eq 21, 3) := by decide +kernel
theorem dX11_lotOf_54 : decode cX11_lotOf 54 = .ok (.aload_n 0, 1) := by decide +kernel
theorem dX11_lotOf_55 : decode cX11_lotOf 55 = .ok (.getfield 34, 3) := by decide +kernel
theorem dX11_lotOf_58 : decode cX11_lotOf 58 = .ok (.iload 5, 2) := by decide +kernel
theorem dX11_lotOf_60 : decode cX11_lotOf 60 = .ok (.iaload, 1) := by decide +kernel
theorem dX11_lotOf_61 : decode cX11_lotOf 61 = .ok (.iload_n 3, 1) := by decide +kernel
theorem dX11_lotOf_62 : decode cX11_lotOf 62 = .ok (.invokestatic 142, 3) := by decide +kernel
theorem dX11_lotOf_65 : decode cX11_lotOf 65 = .ok (.ifCond .eq 7, 3) := by decide +kernel
theorem dX11_lotOf_68 : decode cX11_lotOf 68 = .ok (.iconst 1, 1) := by decide +kernel
theorem dX11_lotOf_69 : decode cX11_lotOf 69 = .ok (.goto 4, 3) := by decide +kernel
theorem dX11_lotOf_72 : decode cX11_lotOf 72 = .ok (.iconst 0, 1) := by decide +kernel
theorem dX11_lotOf_73 : decode cX11_lotOf 73 = .ok (.iadd, 1) := by decide +kernel
theorem dX11_lotOf_74 : decode cX11_lotOf 74 = .ok (.istore 6, 2) := by decide +kernel
theorem dX11_lotOf_76 : decode cX11_lotOf 76 = .ok (.aload_n 0, 1) := by decide +kernel
theorem dX11_lotOf_77 : decode cX11_lotOf 77 = .ok (.iload 5, 2) := by decide +kernel
theorem dX11_lotOf_79 : decode cX11_lotOf 79 = .ok (.invokevirtual 176, 3) := by decide +kernel
theorem dX11_lotOf_82 : decode cX11_lotOf 82 = .ok (.istore 5, 2) := by decide +kernel
theorem dX11_lotOf_84 : decode cX11_lotOf 84 = .ok (.iinc 7 1, 3) := by decide +kernel
theorem dX11_lotOf_87 : decode cX11_lotOf 87 = .ok (.goto (-72), 3) := by decide +kernel
theorem dX11_lotOf_90 : decode cX11_lotOf 90 = .ok (.iload_n 3, 1) := by decide +kernel
theorem dX11_lotOf_91 : decode cX11_lotOf 91 = .ok (.iconst (-1), 1) := by decide +kernel
theorem dX11_lotOf_92 : decode cX11_lotOf 92 = .ok (.if_icmp .ne 8, 3) := by decide +kernel
theorem dX11_lotOf_95 : decode cX11_lotOf 95 = .ok (.iload 5, 2) := by decide +kernel
theorem dX11_lotOf_97 : decode cX11_lotOf 97 = .ok (.goto 5, 3) := by decide +kernel
theorem dX11_lotOf_100 : decode cX11_lotOf 100 = .ok (.iload 6, 2) := by decide +kernel
theorem dX11_lotOf_102 : decode cX11_lotOf 102 = .ok (.ireturn, 1) := by decide +kernel
theorem dX11_lot_0 : decode cX11_lot 0 = .ok (.aload_n 0, 1) := by decide +kernel
theorem dX11_lot_1 : decode cX11_lot 1 = .ok (.invokevirtual 153, 3) := by decide +kernel
theorem dX11_lot_4 : decode cX11_lot 4 = .ok (.iload_n 2, 1) := by decide +kernel
theorem dX11_lot_5 : decode cX11_lot 5 = .ok (.i2l, 1) := by decide +kernel
theorem dX11_lot_6 : decode cX11_lot 6 = .ok (.lconst 0, 1) := by decide +kernel
theorem dX11_lot_7 : decode cX11_lot 7 = .ok (.ldc2_w 253, 3) := by decide +kernel
theorem dX11_lot_10 : decode cX11_lot 10 = .ok (.invokestatic 61, 3) := by decide +kernel
theorem dX11_lot_13 : decode cX11_lot 13 = .ok (.ifCond .eq 27, 3) := by decide +kernel
theorem dX11_lot_16 : decode cX11_lot 16 = .ok (.iload_n 3, 1) := by decide +kernel
theorem dX11_lot_17 : decode cX11_lot 17 = .ok (.i2l, 1) := by decide +kernel
theorem dX11_lot_18 : decode cX11_lot 18 = .ok (.ldc2_w 209, 3) := by decide +kernel
theorem dX11_lot_21 : decode cX11_lot 21 = .ok (.ldc2_w 145, 3) := by decide +kernel
theorem dX11_lot_24 : decode cX11_lot 24 = .ok (.invokestatic 61, 3) := by decide +kernel
theorem dX11_lot_27 : decode cX11_lot 27 = .ok (.ifCond .eq 13, 3) := by decide +kernel
theorem dX11_lot_30 : decode cX11_lot 30 = .ok (.aload_n 0, 1) := by decide +kernel
theorem dX11_lot_31 : decode cX11_lot 31 = .ok (.iload_n 1, 1) := by decide +kernel
theorem dX11_lot_32 : decode cX11_lot 32 = .ok (.iload_n 2, 1) := by decide +kernel
theorem dX11_lot_33 : decode cX11_lot 33 = .ok (.iload_n 3, 1) := by decide +kernel
theorem dX11_lot_34 : decode cX11_lot 34 = .ok (.invokevirtual 255, 3) := by decide +kernel
theorem dX11_lot_37 : decode cX11_lot 37 = .ok (.goto 5, 3) := by decide +kernel
theorem dX11_lot_40 : decode cX11_lot 40 = .ok (.bipush (-2), 2) := by decide +kernel
theorem dX11_lot_42 : decode cX11_lot 42 = .ok (.ireturn, 1) := by decide +kernel
theorem dX11_write_0 : decode cX11_write 0 = .ok (.iload_n 1, 1) := by decide +kernel
theorem dX11_write_1 : decode cX11_write 1 = .ok (.invokestatic 90, 3) := by decide +kernel
theorem dX11_write_4 : decode cX11_write 4 = .ok (.ifCond .eq 10, 3) := by decide +kernel
theorem dX11_write_7 : decode cX11_write 7 = .ok (.iload_n 2, 1) := by decide +kernel
theorem dX11_write_8 : decode cX11_write 8 = .ok (.invokestatic 71, 3) := by decide +kernel
theorem dX11_write_11 : decode cX11_write 11 = .ok (.ifCond .ne 6, 3) := by decide +kernel
theorem dX11_write_14 : decode cX11_write 14 = .ok (.bipush (-2), 2) := by decide +kernel
theorem dX11_write_16 : decode cX11_write 16 = .ok (.ireturn, 1) := by decide +kernel
theorem dX11_write_17 : decode cX11_write 17 = .ok (.aload_n 0, 1) := by decide +kernel
theorem dX11_write_18 : decode cX11_write 18 = .ok (.getfield 7, 3) := by decide +kernel
theorem dX11_write_21 : decode cX11_write 21 = .ok (.iload_n 2, 1) := by decide +kernel
theorem dX11_write_22 : decode cX11_write 22 = .ok (.iaload, 1) := by decide +kernel
theorem dX11_write_23 : decode cX11_write 23 = .ok (.ifCond .ge 9, 3) := by decide +kernel
theorem dX11_write_26 : decode cX11_write 26 = .ok (.aload_n 0, 1) := by decide +kernel
theorem dX11_write_27 : decode cX11_write 27 = .ok (.iconst 1, 1) := by decide +kernel
theorem dX11_write_28 : decode cX11_write 28 = .ok (.invokevirtual 77, 3) := by decide +kernel
theorem dX11_write_31 : decode cX11_write 31 = .ok (.ireturn, 1) := by decide +kernel
theorem dX11_write_32 : decode cX11_write 32 = .ok (.aload_n 0, 1) := by decide +kernel
theorem dX11_write_33 : decode cX11_write 33 = .ok (.invokevirtual 164, 3) := by decide +kernel
theorem dX11_write_36 : decode cX11_write 36 = .ok (.aload_n 0, 1) := by decide +kernel
theorem dX11_write_37 : decode cX11_write 37 = .ok (.getfield 13, 3) := by decide +kernel
theorem dX11_write_40 : decode cX11_write 40 = .ok (.iload_n 2, 1) := by decide +kernel
theorem dX11_write_41 : decode cX11_write 41 = .ok (.iaload, 1) := by decide +kernel
theorem dX11_write_42 : decode cX11_write 42 = .ok (.bipush 30, 2) := by decide +kernel
theorem dX11_write_44 : decode cX11_write 44 = .ok (.if_icmp .ge 12, 3) := by decide +kernel
theorem dX11_write_47 : decode cX11_write 47 = .ok (.aload_n 0, 1) := by decide +kernel
theorem dX11_write_48 : decode cX11_write 48 = .ok (.getfield 13, 3) := by decide +kernel
theorem dX11_write_51 : decode cX11_write 51 = .ok (.iload_n 2, 1) := by decide +kernel
theorem dX11_write_52 : decode cX11_write 52 = .ok (.iaload, 1) := by decide +kernel
theorem dX11_write_53 : decode cX11_write 53 = .ok (.goto 5, 3) := by decide +kernel
theorem dX11_write_56 : decode cX11_write 56 = .ok (.bipush 30, 2) := by decide +kernel
theorem dX11_write_58 : decode cX11_write 58 = .ok (.istore_n 3, 1) := by decide +kernel
theorem dX11_write_59 : decode cX11_write 59 = .ok (.iconst 0, 1) := by decide +kernel
theorem dX11_write_60 : decode cX11_write 60 = .ok (.istore 4, 2) := by decide +kernel
theorem dX11_write_62 : decode cX11_write 62 = .ok (.iload 4, 2) := by decide +kernel
theorem dX11_write_64 : decode cX11_write 64 = .ok (.iload_n 3, 1) := by decide +kernel
theorem dX11_write_65 : decode cX11_write 65 = .ok (.if_icmp .ge 51, 3) := by decide +kernel
theorem dX11_write_68 : decode cX11_write 68 = .ok (.aload_n 0, 1) := by decide +kernel
theorem dX11_write_69 : decode cX11_write 69 = .ok (.getfield 16, 3) := by decide +kernel
theorem dX11_write_72 : decode cX11_write 72 = .ok (.bipush 60, 2) := by decide +kernel
theorem dX11_write_74 : decode cX11_write 74 = .ok (.iload_n 2, 1) := by decide +kernel
theorem dX11_write_75 : decode cX11_write 75 = .ok (.imul, 1) := by decide +kernel
theorem dX11_write_76 : decode cX11_write 76 = .ok (.iload 4, 2) := by decide +kernel
theorem dX11_write_78 : decode cX11_write 78 = .ok (.iadd, 1) := by decide +kernel
theorem dX11_write_79 : decode cX11_write 79 = .ok (.aload_n 0, 1) := by decide +kernel
theorem dX11_write_80 : decode cX11_write 80 = .ok (.getfield 7, 3) := by decide +kernel
theorem dX11_write_83 : decode cX11_write 83 = .ok (.iload_n 2, 1) := by decide +kernel
theorem dX11_write_84 : decode cX11_write 84 = .ok (.iaload, 1) := by decide +kernel
theorem dX11_write_85 : decode cX11_write 85 = .ok (.iload_n 1, 1) := by decide +kernel
theorem dX11_write_86 : decode cX11_write 86 = .ok (.ifCond .ne 13, 3) := by decide +kernel
theorem dX11_write_89 : decode cX11_write 89 = .ok (.aload_n 0, 1) := by decide +kernel
theorem dX11_write_90 : decode cX11_write 90 = .ok (.getfield 43, 3) := by decide +kernel
theorem dX11_write_93 : decode cX11_write 93 = .ok (.iload 4, 2) := by decide +kernel
theorem dX11_write_95 : decode cX11_write 95 = .ok (.iaload, 1) := by decide +kernel
theorem dX11_write_96 : decode cX11_write 96 = .ok (.goto 10, 3) := by decide +kernel
theorem dX11_write_99 : decode cX11_write 99 = .ok (.aload_n 0, 1) := by decide +kernel
theorem dX11_write_100 : decode cX11_write 100 = .ok (.getfield 46, 3) := by decide +kernel
theorem dX11_write_103 : decode cX11_write 103 = .ok (.iload 4, 2) := by decide +kernel
theorem dX11_write_105 : decode cX11_write 105 = .ok (.iaload, 1) := by decide +kernel
theorem dX11_write_106 : decode cX11_write 106 = .ok (.invokestatic 85, 3) := by decide +kernel
theorem dX11_write_109 : decode cX11_write 109 = .ok (.iastore, 1) := by decide +kernel
theorem dX11_write_110 : decode cX11_write 110 = .ok (.iinc 4 1, 3) := by decide +kernel
theorem dX11_write_113 : decode cX11_write 113 = .ok (.goto (-51), 3) := by decide +kernel
theorem dX11_write_116 : decode cX11_write 116 = .ok (.iload_n 3, 1) := by decide +kernel
theorem dX11_write_117 : decode cX11_write 117 = .ok (.ireturn, 1) := by decide +kernel
theorem dX11_count_0 : decode cX11_count 0 = .ok (.iconst 0, 1) := by decide +kernel
theorem dX11_count_1 : decode cX11_count 1 = .ok (.istore_n 2, 1) := by decide +kernel
theorem dX11_count_2 : decode cX11_count 2 = .ok (.aload_n 0, 1) := by decide +kernel
theorem dX11_count_3 : decode cX11_count 3 = .ok (.invokevirtual 153, 3) := by decide +kernel
theorem dX11_count_6 : decode cX11_count 6 = .ok (.iload_n 1, 1) := by decide +kernel
theorem dX11_count_7 : decode cX11_count 7 = .ok (.tableswitch 119 0 8 #[49, 54, 59, 59, 68, 73, 78, 109, 114], 49) := by decide +kernel
theorem dX11_count_56 : decode cX11_count 56 = .ok (.aload_n 0, 1) := by decide +kernel
theorem dX11_count_57 : decode cX11_count 57 = .ok (.getfield 112, 3) := by decide +kernel
theorem dX11_count_60 : decode cX11_count 60 = .ok (.ireturn, 1) := by decide +kernel
theorem dX11_count_61 : decode cX11_count 61 = .ok (.aload_n 0, 1) := by decide +kernel
theorem dX11_count_62 : decode cX11_count 62 = .ok (.getfield 122, 3) := by decide +kernel
theorem dX11_count_65 : decode cX11_count 65 = .ok (.ireturn, 1) := by decide +kernel
theorem dX11_count_66 : decode cX11_count 66 = .ok (.aload_n 0, 1) := by decide +kernel
theorem dX11_count_67 : decode cX11_count 67 = .ok (.getfield 25, 3) := by decide +kernel
theorem dX11_count_70 : decode cX11_count 70 = .ok (.iload_n 1, 1) := by decide +kernel
theorem dX11_count_71 : decode cX11_count 71 = .ok (.iconst 2, 1) := by decide +kernel
theorem dX11_count_72 : decode cX11_count 72 = .ok (.isub, 1) := by decide +kernel
theorem dX11_count_73 : decode cX11_count 73 = .ok (.iaload, 1) := by decide +kernel
theorem dX11_count_74 : decode cX11_count 74 = .ok (.ireturn, 1) := by decide +kernel
theorem dX11_count_75 : decode cX11_count 75 = .ok (.aload_n 0, 1) := by decide +kernel
theorem dX11_count_76 : decode cX11_count 76 = .ok (.getfield 161, 3) := by decide +kernel
theorem dX11_count_79 : decode cX11_count 79 = .ok (.ireturn, 1) := by decide +kernel
theorem dX11_count_80 : decode cX11_count 80 = .ok (.aload_n 0, 1) := by decide +kernel
theorem dX11_count_81 : decode cX11_count 81 = .ok (.getfield 217, 3) := by decide +kernel
theorem dX11_count_84 : decode cX11_count 84 = .ok (.ireturn, 1) := by decide +kernel
theorem dX11_count_85 : decode cX11_count 85 = .ok (.iconst 0, 1) := by decide +kernel
theorem dX11_count_86 : decode cX11_count 86 = .ok (.istore_n 3, 1) := by decide +kernel
theorem dX11_count_87 : decode cX11_count 87 = .ok (.iload_n 3, 1) := by decide +kernel
theorem dX11_count_88 : decode cX11_count 88 = .ok (.aload_n 0, 1) := by decide +kernel
theorem dX11_count_89 : decode cX11_count 89 = .ok (.getfield 112, 3) := by decide +kernel
theorem dX11_count_92 : decode cX11_count 92 = .ok (.if_icmp .ge 22, 3) := by decide +kernel
theorem dX11_count_95 : decode cX11_count 95 = .ok (.iload_n 2, 1) := by decide +kernel
theorem dX11_count_96 : decode cX11_count 96 = .ok (.aload_n 0, 1) := by decide +kernel
theorem dX11_count_97 : decode cX11_count 97 = .ok (.getfield 28, 3) := by decide +kernel
theorem dX11_count_100 : decode cX11_count 100 = .ok (.iconst 3, 1) := by decide +kernel
theorem dX11_count_101 : decode cX11_count 101 = .ok (.iload_n 3, 1) := by decide +kernel
theorem dX11_count_102 : decode cX11_count 102 = .ok (.imul, 1) := by decide +kernel
theorem dX11_count_103 : decode cX11_count 103 = .ok (.iconst 1, 1) := by decide +kernel
theorem dX11_count_104 : decode cX11_count 104 = .ok (.iadd, 1) := by decide +kernel
theorem dX11_count_105 : decode cX11_count 105 = .ok (.iaload, 1) := by decide +kernel
theorem dX11_count_106 : decode cX11_count 106 = .ok (.iadd, 1) := by decide +kernel
theorem dX11_count_107 : decode cX11_count 107 = .ok (.istore_n 2, 1) := by decide +kernel
theorem dX11_count_108 : decode cX11_count 108 = .ok (.iinc 3 1, 3) := by decide +kernel
theorem dX11_count_111 : decode cX11_count 111 = .ok (.goto (-24), 3) := by decide +kernel
theorem dX11_count_114 : decode cX11_count 114 = .ok (.iload_n 2, 1) := by decide +kernel
theorem dX11_count_115 : decode cX11_count 115 = .ok (.ireturn, 1) := by decide +kernel
theorem dX11_count_116 : decode cX11_count 116 = .ok (.aload_n 0, 1) := by decide +kernel
theorem dX11_count_117 : decode cX11_count 117 = .ok (.getfield 150, 3) := by decide +kernel
theorem dX11_count_120 : decode cX11_count 120 = .ok (.ireturn, 1) := by decide +kernel
theorem dX11_count_121 : decode cX11_count 121 = .ok (.aload_n 0, 1) := by decide +kernel
theorem dX11_count_122 : decode cX11_count 122 = .ok (.getfield 65, 3) := by decide +kernel
theorem dX11_count_125 : decode cX11_count 125 = .ok (.ireturn, 1) := by decide +kernel
theorem dX11_count_126 : decode cX11_count 126 = .ok (.bipush (-2), 2) := by decide +kernel
theorem dX11_count_128 : decode cX11_count 128 = .ok (.ireturn, 1) := by decide +kernel
theorem dX11_tellsBig_0 : decode cX11_tellsBig 0 = .ok (.ldc2_w 258, 3) := by decide +kernel
theorem dX11_tellsBig_3 : decode cX11_tellsBig 3 = .ok (.lload_n 1, 1) := by decide +kernel
theorem dX11_tellsBig_4 : decode cX11_tellsBig 4 = .ok (.lmul, 1) := by decide +kernel
theorem dX11_tellsBig_5 : decode cX11_tellsBig 5 = .ok (.aload_n 0, 1) := by decide +kernel
theorem dX11_tellsBig_6 : decode cX11_tellsBig 6 = .ok (.iconst 3, 1) := by decide +kernel
theorem dX11_tellsBig_7 : decode cX11_tellsBig 7 = .ok (.iload_n 3, 1) := by decide +kernel
theorem dX11_tellsBig_8 : decode cX11_tellsBig 8 = .ok (.iconst 0, 1) := by decide +kernel
theorem dX11_tellsBig_9 : decode cX11_tellsBig 9 = .ok (.invokevirtual 260, 3) := by decide +kernel
theorem dX11_tellsBig_12 : decode cX11_tellsBig 12 = .ok (.i2l, 1) := by decide +kernel
theorem dX11_tellsBig_13 : decode cX11_tellsBig 13 = .ok (.ladd, 1) := by decide +kernel
theorem dX11_tellsBig_14 : decode cX11_tellsBig 14 = .ok (.lstore 4, 2) := by decide +kernel
theorem dX11_tellsBig_16 : decode cX11_tellsBig 16 = .ok (.ldc2_w 258, 3) := by decide +kernel
theorem dX11_tellsBig_19 : decode cX11_tellsBig 19 = .ok (.lload 4, 2) := by decide +kernel
theorem dX11_tellsBig_21 : decode cX11_tellsBig 21 = .ok (.lmul, 1) := by decide +kernel
theorem dX11_tellsBig_22 : decode cX11_tellsBig 22 = .ok (.aload_n 0, 1) := by decide +kernel
theorem dX11_tellsBig_23 : decode cX11_tellsBig 23 = .ok (.iconst 3, 1) := by decide +kernel
theorem dX11_tellsBig_24 : decode cX11_tellsBig 24 = .ok (.iload_n 3, 1) := by decide +kernel
theorem dX11_tellsBig_25 : decode cX11_tellsBig 25 = .ok (.iconst 1, 1) := by decide +kernel
theorem dX11_tellsBig_26 : decode cX11_tellsBig 26 = .ok (.invokevirtual 260, 3) := by decide +kernel
theorem dX11_tellsBig_29 : decode cX11_tellsBig 29 = .ok (.i2l, 1) := by decide +kernel
theorem dX11_tellsBig_30 : decode cX11_tellsBig 30 = .ok (.ladd, 1) := by decide +kernel
theorem dX11_tellsBig_31 : decode cX11_tellsBig 31 = .ok (.lstore 4, 2) := by decide +kernel
theorem dX11_tellsBig_33 : decode cX11_tellsBig 33 = .ok (.ldc2_w 258, 3) := by decide +kernel
theorem dX11_tellsBig_36 : decode cX11_tellsBig 36 = .ok (.lload 4, 2) := by decide +kernel
theorem dX11_tellsBig_38 : decode cX11_tellsBig 38 = .ok (.lmul, 1) := by decide +kernel
theorem dX11_tellsBig_39 : decode cX11_tellsBig 39 = .ok (.aload_n 0, 1) := by decide +kernel
theorem dX11_tellsBig_40 : decode cX11_tellsBig 40 = .ok (.iload_n 3, 1) := by decide +kernel
theorem dX11_tellsBig_41 : decode cX11_tellsBig 41 = .ok (.invokevirtual 197, 3) := by decide +kernel
theorem dX11_tellsBig_44 : decode cX11_tellsBig 44 = .ok (.i2l, 1) := by decide +kernel
theorem dX11_tellsBig_45 : decode cX11_tellsBig 45 = .ok (.ladd, 1) := by decide +kernel
theorem dX11_tellsBig_46 : decode cX11_tellsBig 46 = .ok (.lstore 4, 2) := by decide +kernel
theorem dX11_tellsBig_48 : decode cX11_tellsBig 48 = .ok (.ldc2_w 258, 3) := by decide +kernel
theorem dX11_tellsBig_51 : decode cX11_tellsBig 51 = .ok (.lload 4, 2) := by decide +kernel
theorem dX11_tellsBig_53 : decode cX11_tellsBig 53 = .ok (.lmul, 1) := by decide +kernel
theorem dX11_tellsBig_54 : decode cX11_tellsBig 54 = .ok (.aload_n 0, 1) := by decide +kernel
theorem dX11_tellsBig_55 : decode cX11_tellsBig 55 = .ok (.iconst 2, 1) := by decide +kernel
theorem dX11_tellsBig_56 : decode cX11_tellsBig 56 = .ok (.iload_n 3, 1) := by decide +kernel
theorem dX11_tellsBig_57 : decode cX11_tellsBig 57 = .ok (.iconst 0, 1) := by decide +kernel
theorem dX11_tellsBig_58 : decode cX11_tellsBig 58 = .ok (.invokevirtual 206, 3) := by decide +kernel
theorem dX11_tellsBig_61 : decode cX11_tellsBig 61 = .ok (.i2l, 1) := by decide +kernel
theorem dX11_tellsBig_62 : decode cX11_tellsBig 62 = .ok (.ladd, 1) := by decide +kernel
theorem dX11_tellsBig_63 : decode cX11_tellsBig 63 = .ok (.lstore 4, 2) := by decide +kernel
theorem dX11_tellsBig_65 : decode cX11_tellsBig 65 = .ok (.ldc2_w 258, 3) := by decide +kernel
theorem dX11_tellsBig_68 : decode cX11_tellsBig 68 = .ok (.lload 4, 2) := by decide +kernel
theorem dX11_tellsBig_70 : decode cX11_tellsBig 70 = .ok (.lmul, 1) := by decide +kernel
theorem dX11_tellsBig_71 : decode cX11_tellsBig 71 = .ok (.aload_n 0, 1) := by decide +kernel
theorem dX11_tellsBig_72 : decode cX11_tellsBig 72 = .ok (.iconst 2, 1) := by decide +kernel
theorem dX11_tellsBig_73 : decode cX11_tellsBig 73 = .ok (.iload_n 3, 1) := by decide +kernel
theorem dX11_tellsBig_74 : decode cX11_tellsBig 74 = .ok (.iconst 1, 1) := by decide +kernel
theorem dX11_tellsBig_75 : decode cX11_tellsBig 75 = .ok (.invokevirtual 206, 3) := by decide +kernel
theorem dX11_tellsBig_78 : decode cX11_tellsBig 78 = .ok (.i2l, 1) := by decide +kernel
theorem dX11_tellsBig_79 : decode cX11_tellsBig 79 = .ok (.ladd, 1) := by decide +kernel
theorem dX11_tellsBig_80 : decode cX11_tellsBig 80 = .ok (.lstore 4, 2) := by decide +kernel
theorem dX11_tellsBig_82 : decode cX11_tellsBig 82 = .ok (.ldc2_w 258, 3) := by decide +kernel
theorem dX11_tellsBig_85 : decode cX11_tellsBig 85 = .ok (.lload 4, 2) := by decide +kernel
theorem dX11_tellsBig_87 : decode cX11_tellsBig 87 = .ok (.lmul, 1) := by decide +kernel
theorem dX11_tellsBig_88 : decode cX11_tellsBig 88 = .ok (.aload_n 0, 1) := by decide +kernel
theorem dX11_tellsBig_89 : decode cX11_tellsBig 89 = .ok (.iload_n 3, 1) := by decide +kernel
theorem dX11_tellsBig_90 : decode cX11_tellsBig 90 = .ok (.iconst 0, 1) := by decide +kernel
theorem dX11_tellsBig_91 : decode cX11_tellsBig 91 = .ok (.invokevirtual 225, 3) := by decide +kernel
theorem dX11_tellsBig_94 : decode cX11_tellsBig 94 = .ok (.i2l, 1) := by decide +kernel
theorem dX11_tellsBig_95 : decode cX11_tellsBig 95 = .ok (.ladd, 1) := by decide +kernel
theorem dX11_tellsBig_96 : decode cX11_tellsBig 96 = .ok (.lstore 4, 2) := by decide +kernel
theorem dX11_tellsBig_98 : decode cX11_tellsBig 98 = .ok (.ldc2_w 258, 3) := by decide +kernel
theorem dX11_tellsBig_101 : decode cX11_tellsBig 101 = .ok (.lload 4, 2) := by decide +kernel
theorem dX11_tellsBig_103 : decode cX11_tellsBig 103 = .ok (.lmul, 1) := by decide +kernel
theorem dX11_tellsBig_104 : decode cX11_tellsBig 104 = .ok (.aload_n 0, 1) := by decide +kernel
theorem dX11_tellsBig_105 : decode cX11_tellsBig 105 = .ok (.iload_n 3, 1) := by decide +kernel
theorem dX11_tellsBig_106 : decode cX11_tellsBig 106 = .ok (.iconst 1, 1) := by decide +kernel
theorem dX11_tellsBig_107 : decode cX11_tellsBig 107 = .ok (.invokevirtual 225, 3) := by decide +kernel
theorem dX11_tellsBig_110 : decode cX11_tellsBig 110 = .ok (.i2l, 1) := by decide +kernel
theorem dX11_tellsBig_111 : decode cX11_tellsBig 111 = .ok (.ladd, 1) := by decide +kernel
theorem dX11_tellsBig_112 : decode cX11_tellsBig 112 = .ok (.lstore 4, 2) := by decide +kernel
theorem dX11_tellsBig_114 : decode cX11_tellsBig 114 = .ok (.ldc2_w 258, 3) := by decide +kernel
theorem dX11_tellsBig_117 : decode cX11_tellsBig 117 = .ok (.lload 4, 2) := by decide +kernel
theorem dX11_tellsBig_119 : decode cX11_tellsBig 119 = .ok (.lmul, 1) := by decide +kernel
theorem dX11_tellsBig_120 : decode cX11_tellsBig 120 = .ok (.aload_n 0, 1) := by decide +kernel
theorem dX11_tellsBig_121 : decode cX11_tellsBig 121 = .ok (.iload_n 3, 1) := by decide +kernel
theorem dX11_tellsBig_122 : decode cX11_tellsBig 122 = .ok (.invokevirtual 228, 3) := by decide +kernel
theorem dX11_tellsBig_125 : decode cX11_tellsBig 125 = .ok (.i2l, 1) := by decide +kernel
theorem dX11_tellsBig_126 : decode cX11_tellsBig 126 = .ok (.ladd, 1) := by decide +kernel
theorem dX11_tellsBig_127 : decode cX11_tellsBig 127 = .ok (.lstore 4, 2) := by decide +kernel
theorem dX11_tellsBig_129 : decode cX11_tellsBig 129 = .ok (.ldc2_w 258, 3) := by decide +kernel
theorem dX11_tellsBig_132 : decode cX11_tellsBig 132 = .ok (.lload 4, 2) := by decide +kernel
theorem dX11_tellsBig_134 : decode cX11_tellsBig 134 = .ok (.lmul, 1) := by decide +kernel
theorem dX11_tellsBig_135 : decode cX11_tellsBig 135 = .ok (.aload_n 0, 1) := by decide +kernel
theorem dX11_tellsBig_136 : decode cX11_tellsBig 136 = .ok (.iconst 4, 1) := by decide +kernel
theorem dX11_tellsBig_137 : decode cX11_tellsBig 137 = .ok (.iload_n 3, 1) := by decide +kernel
theorem dX11_tellsBig_138 : decode cX11_tellsBig 138 = .ok (.iconst 0, 1) := by decide +kernel
theorem dX11_tellsBig_139 : decode cX11_tellsBig 139 = .ok (.invokevirtual 263, 3) := by decide +kernel
theorem dX11_tellsBig_142 : decode cX11_tellsBig 142 = .ok (.ladd, 1) := by decide +kernel
theorem dX11_tellsBig_143 : decode cX11_tellsBig 143 = .ok (.lstore 4, 2) := by decide +kernel
theorem dX11_tellsBig_145 : decode cX11_tellsBig 145 = .ok (.ldc2_w 258, 3) := by decide +kernel
theorem dX11_tellsBig_148 : decode cX11_tellsBig 148 = .ok (.lload 4, 2) := by decide +kernel
theorem dX11_tellsBig_150 : decode cX11_tellsBig 150 = .ok (.lmul, 1) := by decide +kernel
theorem dX11_tellsBig_151 : decode cX11_tellsBig 151 = .ok (.aload_n 0, 1) := by decide +kernel
theorem dX11_tellsBig_152 : decode cX11_tellsBig 152 = .ok (.iconst 4, 1) := by decide +kernel
theorem dX11_tellsBig_153 : decode cX11_tellsBig 153 = .ok (.iload_n 3, 1) := by decide +kernel
theorem dX11_tellsBig_154 : decode cX11_tellsBig 154 = .ok (.iconst 1, 1) := by decide +kernel
theorem dX11_tellsBig_155 : decode cX11_tellsBig 155 = .ok (.invokevirtual 263, 3) := by decide +kernel
theorem dX11_tellsBig_158 : decode cX11_tellsBig 158 = .ok (.ladd, 1) := by decide +kernel
theorem dX11_tellsBig_159 : decode cX11_tellsBig 159 = .ok (.lstore 4, 2) := by decide +kernel
theorem dX11_tellsBig_161 : decode cX11_tellsBig 161 = .ok (.ldc2_w 258, 3) := by decide +kernel
theorem dX11_tellsBig_164 : decode cX11_tellsBig 164 = .ok (.lload 4, 2) := by decide +kernel
theorem dX11_tellsBig_166 : decode cX11_tellsBig 166 = .ok (.lmul, 1) := by decide +kernel
theorem dX11_tellsBig_167 : decode cX11_tellsBig 167 = .ok (.aload_n 0, 1) := by decide +kernel
theorem dX11_tellsBig_168 : decode cX11_tellsBig 168 = .ok (.iconst 4, 1) := by decide +kernel
theorem dX11_tellsBig_169 : decode cX11_tellsBig 169 = .ok (.iload_n 3, 1) := by decide +kernel
theorem dX11_tellsBig_170 : decode cX11_tellsBig 170 = .ok (.invokevirtual 249, 3) := by decide +kernel
theorem dX11_tellsBig_173 : decode cX11_tellsBig 173 = .ok (.i2l, 1) := by decide +kernel
theorem dX11_tellsBig_174 : decode cX11_tellsBig 174 = .ok (.ladd, 1) := by decide +kernel
theorem dX11_tellsBig_175 : decode cX11_tellsBig 175 = .ok (.lreturn, 1) := by decide +kernel
theorem dX11_digest_0 : decode cX11_digest 0 = .ok (.ldc2_w 267, 3) := by decide +kernel
theorem dX11_digest_3 : decode cX11_digest 3 = .ok (.lstore_n 1, 1) := by decide +kernel
theorem dX11_digest_4 : decode cX11_digest 4 = .ok (.iconst 0, 1) := by decide +kernel
theorem dX11_digest_5 : decode cX11_digest 5 = .ok (.istore_n 3, 1) := by decide +kernel
theorem dX11_digest_6 : decode cX11_digest 6 = .ok (.iload_n 3, 1) := by decide +kernel
theorem dX11_digest_7 : decode cX11_digest 7 = .ok (.bipush 8, 2) := by decide +kernel
theorem dX11_digest_9 : decode cX11_digest 9 = .ok (.if_icmp .ge 22, 3) := by decide +kernel
theorem dX11_digest_12 : decode cX11_digest 12 = .ok (.ldc2_w 258, 3) := by decide +kernel
theorem dX11_digest_15 : decode cX11_digest 15 = .ok (.lload_n 1, 1) := by decide +kernel
theorem dX11_digest_16 : decode cX11_digest 16 = .ok (.lmul, 1) := by decide +kernel
theorem dX11_digest_17 : decode cX11_digest 17 = .ok (.aload_n 0, 1) := by decide +kernel
theorem dX11_digest_18 : decode cX11_digest 18 = .ok (.iload_n 3, 1) := by decide +kernel
theorem dX11_digest_19 : decode cX11_digest 19 = .ok (.invokevirtual 269, 3) := by decide +kernel
theorem dX11_digest_22 : decode cX11_digest 22 = .ok (.i2l, 1) := by decide +kernel
theorem dX11_digest_23 : decode cX11_digest 23 = .ok (.ladd, 1) := by decide +kernel
theorem dX11_digest_24 : decode cX11_digest 24 = .ok (.lstore_n 1, 1) := by decide +kernel
theorem dX11_digest_25 : decode cX11_digest 25 = .ok (.iinc 3 1, 3) := by decide +kernel
theorem dX11_digest_28 : decode cX11_digest 28 = .ok (.goto (-22), 3) := by decide +kernel
theorem dX11_digest_31 : decode cX11_digest 31 = .ok (.ldc2_w 258, 3) := by decide +kernel
theorem dX11_digest_34 : decode cX11_digest 34 = .ok (.lload_n 1, 1) := by decide +kernel
theorem dX11_digest_35 : decode cX11_digest 35 = .ok (.lmul, 1) := by decide +kernel
theorem dX11_digest_36 : decode cX11_digest 36 = .ok (.aload_n 0, 1) := by decide +kernel
theorem dX11_digest_37 : decode cX11_digest 37 = .ok (.invokevirtual 132, 3) := by decide +kernel
theorem dX11_digest_40 : decode cX11_digest 40 = .ok (.i2l, 1) := by decide +kernel
theorem dX11_digest_41 : decode cX11_digest 41 = .ok (.ladd, 1) := by decide +kernel
theorem dX11_digest_42 : decode cX11_digest 42 = .ok (.lstore_n 1, 1) := by decide +kernel
theorem dX11_digest_43 : decode cX11_digest 43 = .ok (.ldc2_w 258, 3) := by decide +kernel
theorem dX11_digest_46 : decode cX11_digest 46 = .ok (.lload_n 1, 1) := by decide +kernel
theorem dX11_digest_47 : decode cX11_digest 47 = .ok (.lmul, 1) := by decide +kernel
theorem dX11_digest_48 : decode cX11_digest 48 = .ok (.aload_n 0, 1) := by decide +kernel
theorem dX11_digest_49 : decode cX11_digest 49 = .ok (.invokevirtual 136, 3) := by decide +kernel
theorem dX11_digest_52 : decode cX11_digest 52 = .ok (.i2l, 1) := by decide +kernel
theorem dX11_digest_53 : decode cX11_digest 53 = .ok (.ladd, 1) := by decide +kernel
theorem dX11_digest_54 : decode cX11_digest 54 = .ok (.lstore_n 1, 1) := by decide +kernel
theorem dX11_digest_55 : decode cX11_digest 55 = .ok (.iconst 0, 1) := by decide +kernel
theorem dX11_digest_56 : decode cX11_digest 56 = .ok (.istore_n 3, 1) := by decide +kernel
theorem dX11_digest_57 : decode cX11_digest 57 = .ok (.iload_n 3, 1) := by decide +kernel
theorem dX11_digest_58 : decode cX11_digest 58 = .ok (.aload_n 0, 1) := by decide +kernel
theorem dX11_digest_59 : decode cX11_digest 59 = .ok (.getfield 112, 3) := by decide +kernel
theorem dX11_digest_62 : decode cX11_digest 62 = .ok (.if_icmp .ge 43, 3) := by decide +kernel
theorem dX11_digest_65 : decode cX11_digest 65 = .ok (.iconst 0, 1) := by decide +kernel
theorem dX11_digest_66 : decode cX11_digest 66 = .ok (.istore 4, 2) := by decide +kernel
theorem dX11_digest_68 : decode cX11_digest 68 = .ok (.iload 4, 2) := by decide +kernel
theorem dX11_digest_70 : decode cX11_digest 70 = .ok (.iconst 3, 1) := by decide +kernel
theorem dX11_digest_71 : decode cX11_digest 71 = .ok (.if_icmp .ge 28, 3) := by decide +kernel
theorem dX11_digest_74 : decode cX11_digest 74 = .ok (.ldc2_w 258, 3) := by decide +kernel
theorem dX11_digest_77 : decode cX11_digest 77 = .ok (.lload_n 1, 1) := by decide +kernel
theorem dX11_digest_78 : decode cX11_digest 78 = .ok (.lmul, 1) := by decide +kernel
theorem dX11_digest_79 : decode cX11_digest 79 = .ok (.aload_n 0, 1) := by decide +kernel
theorem dX11_digest_80 : decode cX11_digest 80 = .ok (.getfield 28, 3) := by decide +kernel
theorem dX11_digest_83 : decode cX11_digest 83 = .ok (.iconst 3, 1) := by decide +kernel
theorem dX11_digest_84 : decode cX11_digest 84 = .ok (.iload_n 3, 1) := by decide +kernel
theorem dX11_digest_85 : decode cX11_digest 85 = .ok (.imul, 1) := by decide +kernel
theorem dX11_digest_86 : decode cX11_digest 86 = .ok (.iload 4, 2) := by decide +kernel
theorem dX11_digest_88 : decode cX11_digest 88 = .ok (.iadd, 1) := by decide +kernel
theorem dX11_digest_89 : decode cX11_digest 89 = .ok (.iaload, 1) := by decide +kernel
theorem dX11_digest_90 : decode cX11_digest 90 = .ok (.i2l, 1) := by decide +kernel
theorem dX11_digest_91 : decode cX11_digest 91 = .ok (.ladd, 1) := by decide +kernel
theorem dX11_digest_92 : decode cX11_digest 92 = .ok (.lstore_n 1, 1) := by decide +kernel
theorem dX11_digest_93 : decode cX11_digest 93 = .ok (.iinc 4 1, 3) := by decide +kernel
theorem dX11_digest_96 : decode cX11_digest 96 = .ok (.goto (-28), 3) := by decide +kernel
theorem dX11_digest_99 : decode cX11_digest 99 = .ok (.iinc 3 1, 3) := by decide +kernel
theorem dX11_digest_102 : decode cX11_digest 102 = .ok (.goto (-45), 3) := by decide +kernel
theorem dX11_digest_105 : decode cX11_digest 105 = .ok (.iconst 0, 1) := by decide +kernel
theorem dX11_digest_106 : decode cX11_digest 106 = .ok (.istore_n 3, 1) := by decide +kernel
theorem dX11_digest_107 : decode cX11_digest 107 = .ok (.iload_n 3, 1) := by decide +kernel
theorem dX11_digest_108 : decode cX11_digest 108 = .ok (.aload_n 0, 1) := by decide +kernel
theorem dX11_digest_109 : decode cX11_digest 109 = .ok (.getfield 122, 3) := by decide +kernel
theorem dX11_digest_112 : decode cX11_digest 112 = .ok (.if_icmp .ge 43, 3) := by decide +kernel
theorem dX11_digest_115 : decode cX11_digest 115 = .ok (.ldc2_w 258, 3) := by decide +kernel
theorem dX11_digest_118 : decode cX11_digest 118 = .ok (.lload_n 1, 1) := by decide +kernel
theorem dX11_digest_119 : decode cX11_digest 119 = .ok (.lmul, 1) := by decide +kernel
theorem dX11_digest_120 : decode cX11_digest 120 = .ok (.aload_n 0, 1) := by decide +kernel
theorem dX11_digest_121 : decode cX11_digest 121 = .ok (.getfield 31, 3) := by decide +kernel
theorem dX11_digest_124 : decode cX11_digest 124 = .ok (.iconst 2, 1) := by decide +kernel
theorem dX11_digest_125 : decode cX11_digest 125 = .ok (.iload_n 3, 1) := by decide +kernel
theorem dX11_digest_126 : decode cX11_digest 126 = .ok (.imul, 1) := by decide +kernel
theorem dX11_digest_127 : decode cX11_digest 127 = .ok (.iaload, 1) := by decide +kernel
theorem dX11_digest_128 : decode cX11_digest 128 = .ok (.i2l, 1) := by decide +kernel
theorem dX11_digest_129 : decode cX11_digest 129 = .ok (.ladd, 1) := by decide +kernel
theorem dX11_digest_130 : decode cX11_digest 130 = .ok (.lstore_n 1, 1) := by decide +kernel
theorem dX11_digest_131 : decode cX11_digest 131 = .ok (.ldc2_w 258, 3) := by decide +kernel
theorem dX11_digest_134 : decode cX11_digest 134 = .ok (.lload_n 1, 1) := by decide +kernel
theorem dX11_digest_135 : decode cX11_digest 135 = .ok (.lmul, 1) := by decide +kernel
theorem dX11_digest_136 : decode cX11_digest 136 = .ok (.aload_n 0, 1) := by decide +kernel
theorem dX11_digest_137 : decode cX11_digest 137 = .ok (.getfield 31, 3) := by decide +kernel
theorem dX11_digest_140 : decode cX11_digest 140 = .ok (.iconst 2, 1) := by decide +kernel
theorem dX11_digest_141 : decode cX11_digest 141 = .ok (.iload_n 3, 1) := by decide +kernel
theorem dX11_digest_142 : decode cX11_digest 142 = .ok (.imul, 1) := by decide +kernel
theorem dX11_digest_143 : decode cX11_digest 143 = .ok (.iconst 1, 1) := by decide +kernel
theorem dX11_digest_144 : decode cX11_digest 144 = .ok (.iadd, 1) := by decide +kernel
theorem dX11_digest_145 : decode cX11_digest 145 = .ok (.iaload, 1) := by decide +kernel
theorem dX11_digest_146 : decode cX11_digest 146 = .ok (.i2l, 1) := by decide +kernel
theorem dX11_digest_147 : decode cX11_digest 147 = .ok (.ladd, 1) := by decide +kernel
theorem dX11_digest_148 : decode cX11_digest 148 = .ok (.lstore_n 1, 1) := by decide +kernel
theorem dX11_digest_149 : decode cX11_digest 149 = .ok (.iinc 3 1, 3) := by decide +kernel
theorem dX11_digest_152 : decode cX11_digest 152 = .ok (.goto (-45), 3) := by decide +kernel
theorem dX11_digest_155 : decode cX11_digest 155 = .ok (.aload_n 0, 1) := by decide +kernel
theorem dX11_digest_156 : decode cX11_digest 156 = .ok (.invokevirtual 164, 3) := by decide +kernel
theorem dX11_digest_159 : decode cX11_digest 159 = .ok (.iconst 0, 1) := by decide +kernel
theorem dX11_digest_160 : decode cX11_digest 160 = .ok (.istore_n 3, 1) := by decide +kernel
theorem dX11_digest_161 : decode cX11_digest 161 = .ok (.iload_n 3, 1) := by decide +kernel
theorem dX11_digest_162 : decode cX11_digest 162 = .ok (.iconst 4, 1) := by decide +kernel
theorem dX11_digest_163 : decode cX11_digest 163 = .ok (.if_icmp .ge 52, 3) := by decide +kernel
theorem dX11_digest_166 : decode cX11_digest 166 = .ok (.iload_n 3, 1) := by decide +kernel
theorem dX11_digest_167 : decode cX11_digest 167 = .ok (.iconst 3, 1) := by decide +kernel
theorem dX11_digest_168 : decode cX11_digest 168 = .ok (.if_icmp .ge 7, 3) := by decide +kernel
theorem dX11_digest_171 : decode cX11_digest 171 = .ok (.iload_n 3, 1) := by decide +kernel
theorem dX11_digest_172 : decode cX11_digest 172 = .ok (.goto 5, 3) := by decide +kernel
theorem dX11_digest_175 : decode cX11_digest 175 = .ok (.bipush 9, 2) := by decide +kernel
theorem dX11_digest_177 : decode cX11_digest 177 = .ok (.istore 4, 2) := by decide +kernel
theorem dX11_digest_179 : decode cX11_digest 179 = .ok (.ldc2_w 258, 3) := by decide +kernel
theorem dX11_digest_182 : decode cX11_digest 182 = .ok (.lload_n 1, 1) := by decide +kernel
theorem dX11_digest_183 : decode cX11_digest 183 = .ok (.lmul, 1) := by decide +kernel
theorem dX11_digest_184 : decode cX11_digest 184 = .ok (.aload_n 0, 1) := by decide +kernel
theorem dX11_digest_185 : decode cX11_digest 185 = .ok (.getfield 43, 3) := by decide +kernel
theorem dX11_digest_188 : decode cX11_digest 188 = .ok (.iload 4, 2) := by decide +kernel
theorem dX11_digest_190 : decode cX11_digest 190 = .ok (.iaload, 1) := by decide +kernel
theorem dX11_digest_191 : decode cX11_digest 191 = .ok (.i2l, 1) := by decide +kernel
theorem dX11_digest_192 : decode cX11_digest 192 = .ok (.ladd, 1) := by decide +kernel
theorem dX11_digest_193 : decode cX11_digest 193 = .ok (.lstore_n 1, 1) := by decide +kernel
theorem dX11_digest_194 : decode cX11_digest 194 = .ok (.ldc2_w 258, 3) := by decide +kernel
theorem dX11_digest_197 : decode cX11_digest 197 = .ok (.lload_n 1, 1) := by decide +kernel
theorem dX11_digest_198 : decode cX11_digest 198 = .ok (.lmul, 1) := by decide +kernel
theorem dX11_digest_199 : decode cX11_digest 199 = .ok (.aload_n 0, 1) := by decide +kernel
theorem dX11_digest_200 : decode cX11_digest 200 = .ok (.getfield 46, 3) := by decide +kernel
theorem dX11_digest_203 : decode cX11_digest 203 = .ok (.iload 4, 2) := by decide +kernel
theorem dX11_digest_205 : decode cX11_digest 205 = .ok (.iaload, 1) := by decide +kernel
theorem dX11_digest_206 : decode cX11_digest 206 = .ok (.i2l, 1) := by decide +kernel
theorem dX11_digest_207 : decode cX11_digest 207 = .ok (.ladd, 1) := by decide +kernel
theorem dX11_digest_208 : decode cX11_digest 208 = .ok (.lstore_n 1, 1) := by decide +kernel
theorem dX11_digest_209 : decode cX11_digest 209 = .ok (.iinc 3 1, 3) := by decide +kernel
theorem dX11_digest_212 : decode cX11_digest 212 = .ok (.goto (-51), 3) := by decide +kernel
theorem dX11_digest_215 : decode cX11_digest 215 = .ok (.ldc2_w 258, 3) := by decide +kernel
theorem dX11_digest_218 : decode cX11_digest 218 = .ok (.lload_n 1, 1) := by decide +kernel
theorem dX11_digest_219 : decode cX11_digest 219 = .ok (.lmul, 1) := by decide +kernel
theorem dX11_digest_220 : decode cX11_digest 220 = .ok (.aload_n 0, 1) := by decide +kernel
theorem dX11_digest_221 : decode cX11_digest 221 = .ok (.invokevirtual 167, 3) := by decide +kernel
theorem dX11_digest_224 : decode cX11_digest 224 = .ok (.i2l, 1) := by decide +kernel
theorem dX11_digest_225 : decode cX11_digest 225 = .ok (.ladd, 1) := by decide +kernel
theorem dX11_digest_226 : decode cX11_digest 226 = .ok (.lstore_n 1, 1) := by decide +kernel
theorem dX11_digest_227 : decode cX11_digest 227 = .ok (.ldc2_w 258, 3) := by decide +kernel
theorem dX11_digest_230 : decode cX11_digest 230 = .ok (.lload_n 1, 1) := by decide +kernel
theorem dX11_digest_231 : decode cX11_digest 231 = .ok (.lmul, 1) := by decide +kernel
theorem dX11_digest_232 : decode cX11_digest 232 = .ok (.aload_n 0, 1) := by decide +kernel
theorem dX11_digest_233 : decode cX11_digest 233 = .ok (.invokevirtual 173, 3) := by decide +kernel
theorem dX11_digest_236 : decode cX11_digest 236 = .ok (.i2l, 1) := by decide +kernel
theorem dX11_digest_237 : decode cX11_digest 237 = .ok (.ladd, 1) := by decide +kernel
theorem dX11_digest_238 : decode cX11_digest 238 = .ok (.lstore_n 1, 1) := by decide +kernel
theorem dX11_digest_239 : decode cX11_digest 239 = .ok (.ldc2_w 258, 3) := by decide +kernel
theorem dX11_digest_242 : decode cX11_digest 242 = .ok (.lload_n 1, 1) := by decide +kernel
theorem dX11_digest_243 : decode cX11_digest 243 = .ok (.lmul, 1) := by decide +kernel
theorem dX11_digest_244 : decode cX11_digest 244 = .ok (.aload_n 0, 1) := by decide +kernel
theorem dX11_digest_245 : decode cX11_digest 245 = .ok (.iconst 3, 1) := by decide +kernel
theorem dX11_digest_246 : decode cX11_digest 246 = .ok (.invokevirtual 272, 3) := by decide +kernel
theorem dX11_digest_249 : decode cX11_digest 249 = .ok (.i2l, 1) := by decide +kernel
theorem dX11_digest_250 : decode cX11_digest 250 = .ok (.ladd, 1) := by decide +kernel
theorem dX11_digest_251 : decode cX11_digest 251 = .ok (.lstore_n 1, 1) := by decide +kernel
theorem dX11_digest_252 : decode cX11_digest 252 = .ok (.aload_n 0, 1) := by decide +kernel
theorem dX11_digest_253 : decode cX11_digest 253 = .ok (.iconst 2, 1) := by decide +kernel
theorem dX11_digest_254 : decode cX11_digest 254 = .ok (.iconst 1, 1) := by decide +kernel
theorem dX11_digest_255 : decode cX11_digest 255 = .ok (.iconst 2, 1) := by decide +kernel
theorem dX11_digest_256 : decode cX11_digest 256 = .ok (.invokevirtual 184, 3) := by decide +kernel
theorem dX11_digest_259 : decode cX11_digest 259 = .ok (.istore_n 3, 1) := by decide +kernel
theorem dX11_digest_260 : decode cX11_digest 260 = .ok (.iconst 0, 1) := by decide +kernel
theorem dX11_digest_261 : decode cX11_digest 261 = .ok (.istore 4, 2) := by decide +kernel
theorem dX11_digest_263 : decode cX11_digest 263 = .ok (.iload 4, 2) := by decide +kernel
theorem dX11_digest_265 : decode cX11_digest 265 = .ok (.iconst 2, 1) := by decide +kernel
theorem dX11_digest_266 : decode cX11_digest 266 = .ok (.if_icmp .ge 23, 3) := by decide +kernel
theorem dX11_digest_269 : decode cX11_digest 269 = .ok (.ldc2_w 258, 3) := by decide +kernel
theorem dX11_digest_272 : decode cX11_digest 272 = .ok (.lload_n 1, 1) := by decide +kernel
theorem dX11_digest_273 : decode cX11_digest 273 = .ok (.lmul, 1) := by decide +kernel
theorem dX11_digest_274 : decode cX11_digest 274 = .ok (.iload_n 3, 1) := by decide +kernel
theorem dX11_digest_275 : decode cX11_digest 275 = .ok (.iload 4, 2) := by decide +kernel
theorem dX11_digest_277 : decode cX11_digest 277 = .ok (.invokestatic 187, 3) := by decide +kernel
theorem dX11_digest_280 : decode cX11_digest 280 = .ok (.i2l, 1) := by decide +kernel
theorem dX11_digest_281 : decode cX11_digest 281 = .ok (.ladd, 1) := by decide +kernel
theorem dX11_digest_282 : decode cX11_digest 282 = .ok (.lstore_n 1, 1) := by decide +kernel
theorem dX11_digest_283 : decode cX11_digest 283 = .ok (.iinc 4 1, 3) := by decide +kernel
theorem dX11_digest_286 : decode cX11_digest 286 = .ok (.goto (-23), 3) := by decide +kernel
theorem dX11_digest_289 : decode cX11_digest 289 = .ok (.ldc2_w 258, 3) := by decide +kernel
theorem dX11_digest_292 : decode cX11_digest 292 = .ok (.lload_n 1, 1) := by decide +kernel
theorem dX11_digest_293 : decode cX11_digest 293 = .ok (.lmul, 1) := by decide +kernel
theorem dX11_digest_294 : decode cX11_digest 294 = .ok (.aload_n 0, 1) := by decide +kernel
theorem dX11_digest_295 : decode cX11_digest 295 = .ok (.iconst (-1), 1) := by decide +kernel
theorem dX11_digest_296 : decode cX11_digest 296 = .ok (.invokevirtual 211, 3) := by decide +kernel
theorem dX11_digest_299 : decode cX11_digest 299 = .ok (.i2l, 1) := by decide +kernel
theorem dX11_digest_300 : decode cX11_digest 300 = .ok (.ladd, 1) := by decide +kernel
theorem dX11_digest_301 : decode cX11_digest 301 = .ok (.lstore_n 1, 1) := by decide +kernel
theorem dX11_digest_302 : decode cX11_digest 302 = .ok (.ldc2_w 258, 3) := by decide +kernel
theorem dX11_digest_305 : decode cX11_digest 305 = .ok (.lload_n 1, 1) := by decide +kernel
theorem dX11_digest_306 : decode cX11_digest 306 = .ok (.lmul, 1) := by decide +kernel
theorem dX11_digest_307 : decode cX11_digest 307 = .ok (.aload_n 0, 1) := by decide +kernel
theorem dX11_digest_308 : decode cX11_digest 308 = .ok (.iconst 0, 1) := by decide +kernel
theorem dX11_digest_309 : decode cX11_digest 309 = .ok (.invokevirtual 211, 3) := by decide +kernel
theorem dX11_digest_312 : decode cX11_digest 312 = .ok (.i2l, 1) := by decide +kernel
theorem dX11_digest_313 : decode cX11_digest 313 = .ok (.ladd, 1) := by decide +kernel
theorem dX11_digest_314 : decode cX11_digest 314 = .ok (.lstore_n 1, 1) := by decide +kernel
theorem dX11_digest_315 : decode cX11_digest 315 = .ok (.iconst 0, 1) := by decide +kernel
theorem dX11_digest_316 : decode cX11_digest 316 = .ok (.istore 4, 2) := by decide +kernel
theorem dX11_digest_318 : decode cX11_digest 318 = .ok (.iload 4, 2) := by decide +kernel
theorem dX11_digest_320 : decode cX11_digest 320 = .ok (.iconst 2, 1) := by decide +kernel
theorem dX11_digest_321 : decode cX11_digest 321 = .ok (.if_icmp .ge 24, 3) := by decide +kernel
theorem dX11_digest_324 : decode cX11_digest 324 = .ok (.ldc2_w 258, 3) := by decide +kernel
theorem dX11_digest_327 : decode cX11_digest 327 = .ok (.lload_n 1, 1) := by decide +kernel
theorem dX11_digest_328 : decode cX11_digest 328 = .ok (.lmul, 1) := by decide +kernel
theorem dX11_digest_329 : decode cX11_digest 329 = .ok (.aload_n 0, 1) := by decide +kernel
theorem dX11_digest_330 : decode cX11_digest 330 = .ok (.iconst 5, 1) := by decide +kernel
theorem dX11_digest_331 : decode cX11_digest 331 = .ok (.iload 4, 2) := by decide +kernel
theorem dX11_digest_333 : decode cX11_digest 333 = .ok (.invokevirtual 214, 3) := by decide +kernel
theorem dX11_digest_336 : decode cX11_digest 336 = .ok (.i2l, 1) := by decide +kernel
theorem dX11_digest_337 : decode cX11_digest 337 = .ok (.ladd, 1) := by decide +kernel
theorem dX11_digest_338 : decode cX11_digest 338 = .ok (.lstore_n 1, 1) := by decide +kernel
theorem dX11_digest_339 : decode cX11_digest 339 = .ok (.iinc 4 1, 3) := by decide +kernel
theorem dX11_digest_342 : decode cX11_digest 342 = .ok (.goto (-24), 3) := by decide +kernel
theorem dX11_digest_345 : decode cX11_digest 345 = .ok (.ldc2_w 258, 3) := by decide +kernel
theorem dX11_digest_348 : decode cX11_digest 348 = .ok (.lload_n 1, 1) := by decide +kernel
theorem dX11_digest_349 : decode cX11_digest 349 = .ok (.lmul, 1) := by decide +kernel
theorem dX11_digest_350 : decode cX11_digest 350 = .ok (.aload_n 0, 1) := by decide +kernel
theorem dX11_digest_351 : decode cX11_digest 351 = .ok (.iconst 1, 1) := by decide +kernel
theorem dX11_digest_352 : decode cX11_digest 352 = .ok (.invokevirtual 231, 3) := by decide +kernel
theorem dX11_digest_355 : decode cX11_digest 355 = .ok (.i2l, 1) := by decide +kernel
theorem dX11_digest_356 : decode cX11_digest 356 = .ok (.ladd, 1) := by decide +kernel
theorem dX11_digest_357 : decode cX11_digest 357 = .ok (.lstore_n 1, 1) := by decide +kernel
theorem dX11_digest_358 : decode cX11_digest 358 = .ok (.ldc2_w 258, 3) := by decide +kernel
theorem dX11_digest_361 : decode cX11_digest 361 = .ok (.lload_n 1, 1) := by decide +kernel
theorem dX11_digest_362 : decode cX11_digest 362 = .ok (.lmul, 1) := by decide +kernel
theorem dX11_digest_363 : decode cX11_digest 363 = .ok (.aload_n 0, 1) := by decide +kernel
theorem dX11_digest_364 : decode cX11_digest 364 = .ok (.bipush 7, 2) := by decide +kernel
theorem dX11_digest_366 : decode cX11_digest 366 = .ok (.bipush 9, 2) := by decide +kernel
theorem dX11_digest_368 : decode cX11_digest 368 = .ok (.iconst (-1), 1) := by decide +kernel
theorem dX11_digest_369 : decode cX11_digest 369 = .ok (.invokevirtual 255, 3) := by decide +kernel
theorem dX11_digest_372 : decode cX11_digest 372 = .ok (.i2l, 1) := by decide +kernel
theorem dX11_digest_373 : decode cX11_digest 373 = .ok (.ladd, 1) := by decide +kernel
theorem dX11_digest_374 : decode cX11_digest 374 = .ok (.lstore_n 1, 1) := by decide +kernel
theorem dX11_digest_375 : decode cX11_digest 375 = .ok (.iconst 0, 1) := by decide +kernel
theorem dX11_digest_376 : decode cX11_digest 376 = .ok (.istore 4, 2) := by decide +kernel
theorem dX11_digest_378 : decode cX11_digest 378 = .ok (.iload 4, 2) := by decide +kernel
theorem dX11_digest_380 : decode cX11_digest 380 = .ok (.bipush 8, 2) := by decide +kernel
theorem dX11_digest_382 : decode cX11_digest 382 = .ok (.if_icmp .ge 17, 3) := by decide +kernel
theorem dX11_digest_385 : decode cX11_digest 385 = .ok (.aload_n 0, 1) := by decide +kernel
theorem dX11_digest_386 : decode cX11_digest 386 = .ok (.lload_n 1, 1) := by decide +kernel
theorem dX11_digest_387 : decode cX11_digest 387 = .ok (.iload 4, 2) := by decide +kernel
theorem dX11_digest_389 : decode cX11_digest 389 = .ok (.invokevirtual 275, 3) := by decide +kernel
theorem dX11_digest_392 : decode cX11_digest 392 = .ok (.lstore_n 1, 1) := by decide +kernel
theorem dX11_digest_393 : decode cX11_digest 393 = .ok (.iinc 4 1, 3) := by decide +kernel
theorem dX11_digest_396 : decode cX11_digest 396 = .ok (.goto (-18), 3) := by decide +kernel
theorem dX11_digest_399 : decode cX11_digest 399 = .ok (.lload_n 1, 1) := by decide +kernel
theorem dX11_digest_400 : decode cX11_digest 400 = .ok (.lreturn, 1) := by decide +kernel
theorem dJ6_bitCount_0f7a4_0 : decode cJ6_bitCount_0f7a4 0 = .ok (.iload_n 0, 1) := by decide +kernel
theorem dJ6_bitCount_0f7a4_1 : decode cJ6_bitCount_0f7a4 1 = .ok (.iload_n 0, 1) := by decide +kernel
theorem dJ6_bitCount_0f7a4_2 : decode cJ6_bitCount_0f7a4 2 = .ok (.iconst 1, 1) := by decide +kernel
theorem dJ6_bitCount_0f7a4_3 : decode cJ6_bitCount_0f7a4 3 = .ok (.iushr, 1) := by decide +kernel
theorem dJ6_bitCount_0f7a4_4 : decode cJ6_bitCount_0f7a4 4 = .ok (.ldc_w 265, 3) := by decide +kernel
theorem dJ6_bitCount_0f7a4_7 : decode cJ6_bitCount_0f7a4 7 = .ok (.iand, 1) := by decide +kernel
theorem dJ6_bitCount_0f7a4_8 : decode cJ6_bitCount_0f7a4 8 = .ok (.isub, 1) := by decide +kernel
theorem dJ6_bitCount_0f7a4_9 : decode cJ6_bitCount_0f7a4 9 = .ok (.istore_n 0, 1) := by decide +kernel
theorem dJ6_bitCount_0f7a4_10 : decode cJ6_bitCount_0f7a4 10 = .ok (.iload_n 0, 1) := by decide +kernel
theorem dJ6_bitCount_0f7a4_11 : decode cJ6_bitCount_0f7a4 11 = .ok (.ldc_w 266, 3) := by decide +kernel
theorem dJ6_bitCount_0f7a4_14 : decode cJ6_bitCount_0f7a4 14 = .ok (.iand, 1) := by decide +kernel
theorem dJ6_bitCount_0f7a4_15 : decode cJ6_bitCount_0f7a4 15 = .ok (.iload_n 0, 1) := by decide +kernel
theorem dJ6_bitCount_0f7a4_16 : decode cJ6_bitCount_0f7a4 16 = .ok (.iconst 2, 1) := by decide +kernel
theorem dJ6_bitCount_0f7a4_17 : decode cJ6_bitCount_0f7a4 17 = .ok (.iushr, 1) := by decide +kernel
theorem dJ6_bitCount_0f7a4_18 : decode cJ6_bitCount_0f7a4 18 = .ok (.ldc_w 266, 3) := by decide +kernel
theorem dJ6_bitCount_0f7a4_21 : decode cJ6_bitCount_0f7a4 21 = .ok (.iand, 1) := by decide +kernel
theorem dJ6_bitCount_0f7a4_22 : decode cJ6_bitCount_0f7a4 22 = .ok (.iadd, 1) := by decide +kernel
theorem dJ6_bitCount_0f7a4_23 : decode cJ6_bitCount_0f7a4 23 = .ok (.istore_n 0, 1) := by decide +kernel
theorem dJ6_bitCount_0f7a4_24 : decode cJ6_bitCount_0f7a4 24 = .ok (.iload_n 0, 1) := by decide +kernel
theorem dJ6_bitCount_0f7a4_25 : decode cJ6_bitCount_0f7a4 25 = .ok (.iload_n 0, 1) := by decide +kernel
theorem dJ6_bitCount_0f7a4_26 : decode cJ6_bitCount_0f7a4 26 = .ok (.iconst 4, 1) := by decide +kernel
theorem dJ6_bitCount_0f7a4_27 : decode cJ6_bitCount_0f7a4 27 = .ok (.iushr, 1) := by decide +kernel
theorem dJ6_bitCount_0f7a4_28 : decode cJ6_bitCount_0f7a4 28 = .ok (.iadd, 1) := by decide +kernel
theorem dJ6_bitCount_0f7a4_29 : decode cJ6_bitCount_0f7a4 29 = .ok (.ldc_w 267, 3) := by decide +kernel
theorem dJ6_bitCount_0f7a4_32 : decode cJ6_bitCount_0f7a4 32 = .ok (.iand, 1) := by decide +kernel
theorem dJ6_bitCount_0f7a4_33 : decode cJ6_bitCount_0f7a4 33 = .ok (.istore_n 0, 1) := by decide +kernel
theorem dJ6_bitCount_0f7a4_34 : decode cJ6_bitCount_0f7a4 34 = .ok (.iload_n 0, 1) := by decide +kernel
theorem dJ6_bitCount_0f7a4_35 : decode cJ6_bitCount_0f7a4 35 = .ok (.iload_n 0, 1) := by decide +kernel
theorem dJ6_bitCount_0f7a4_36 : decode cJ6_bitCount_0f7a4 36 = .ok (.bipush 8, 2) := by decide +kernel
theorem dJ6_bitCount_0f7a4_38 : decode cJ6_bitCount_0f7a4 38 = .ok (.iushr, 1) := by decide +kernel
theorem dJ6_bitCount_0f7a4_39 : decode cJ6_bitCount_0f7a4 39 = .ok (.iadd, 1) := by decide +kernel
theorem dJ6_bitCount_0f7a4_40 : decode cJ6_bitCount_0f7a4 40 = .ok (.istore_n 0, 1) := by decide +kernel
theorem dJ6_bitCount_0f7a4_41 : decode cJ6_bitCount_0f7a4 41 = .ok (.iload_n 0, 1) := by decide +kernel
theorem dJ6_bitCount_0f7a4_42 : decode cJ6_bitCount_0f7a4 42 = .ok (.iload_n 0, 1) := by decide +kernel
theorem dJ6_bitCount_0f7a4_43 : decode cJ6_bitCount_0f7a4 43 = .ok (.bipush 16, 2) := by decide +kernel
theorem dJ6_bitCount_0f7a4_45 : decode cJ6_bitCount_0f7a4 45 = .ok (.iushr, 1) := by decide +kernel
theorem dJ6_bitCount_0f7a4_46 : decode cJ6_bitCount_0f7a4 46 = .ok (.iadd, 1) := by decide +kernel
theorem dJ6_bitCount_0f7a4_47 : decode cJ6_bitCount_0f7a4 47 = .ok (.istore_n 0, 1) := by decide +kernel
theorem dJ6_bitCount_0f7a4_48 : decode cJ6_bitCount_0f7a4 48 = .ok (.iload_n 0, 1) := by decide +kernel
theorem dJ6_bitCount_0f7a4_49 : decode cJ6_bitCount_0f7a4 49 = .ok (.bipush 63, 2) := by decide +kernel
theorem dJ6_bitCount_0f7a4_51 : decode cJ6_bitCount_0f7a4 51 = .ok (.iand, 1) := by decide +kernel
theorem dJ6_bitCount_0f7a4_52 : decode cJ6_bitCount_0f7a4 52 = .ok (.ireturn, 1) := by decide +kernel
theorem dJ9_abs_0f7a4_0 : decode cJ9_abs_0f7a4 0 = .ok (.iload_n 0, 1) := by decide +kernel
theorem dJ9_abs_0f7a4_1 : decode cJ9_abs_0f7a4 1 = .ok (.ifCond .ge 8, 3) := by decide +kernel
theorem dJ9_abs_0f7a4_4 : decode cJ9_abs_0f7a4 4 = .ok (.iload_n 0, 1) := by decide +kernel
theorem dJ9_abs_0f7a4_5 : decode cJ9_abs_0f7a4 5 = .ok (.ineg, 1) := by decide +kernel
theorem dJ9_abs_0f7a4_6 : decode cJ9_abs_0f7a4 6 = .ok (.goto 4, 3) := by decide +kernel
theorem dJ9_abs_0f7a4_9 : decode cJ9_abs_0f7a4 9 = .ok (.iload_n 0, 1) := by decide +kernel
theorem dJ9_abs_0f7a4_10 : decode cJ9_abs_0f7a4 10 = .ok (.ireturn, 1) := by decide +kernel
theorem dJ9_max_7cf53_0 : decode cJ9_max_7cf53 0 = .ok (.iload_n 0, 1) := by decide +kernel
theorem dJ9_max_7cf53_1 : decode cJ9_max_7cf53 1 = .ok (.iload_n 1, 1) := by decide +kernel
theorem dJ9_max_7cf53_2 : decode cJ9_max_7cf53 2 = .ok (.if_icmp .lt 7, 3) := by decide +kernel
theorem dJ9_max_7cf53_5 : decode cJ9_max_7cf53 5 = .ok (.iload_n 0, 1) := by decide +kernel
theorem dJ9_max_7cf53_6 : decode cJ9_max_7cf53 6 = .ok (.goto 4, 3) := by decide +kernel
theorem dJ9_max_7cf53_9 : decode cJ9_max_7cf53 9 = .ok (.iload_n 1, 1) := by decide +kernel
theorem dJ9_max_7cf53_10 : decode cJ9_max_7cf53 10 = .ok (.ireturn, 1) := by decide +kernel
theorem dJ9_min_7cf53_0 : decode cJ9_min_7cf53 0 = .ok (.iload_n 0, 1) := by decide +kernel
theorem dJ9_min_7cf53_1 : decode cJ9_min_7cf53 1 = .ok (.iload_n 1, 1) := by decide +kernel
theorem dJ9_min_7cf53_2 : decode cJ9_min_7cf53 2 = .ok (.if_icmp .gt 7, 3) := by decide +kernel
theorem dJ9_min_7cf53_5 : decode cJ9_min_7cf53 5 = .ok (.iload_n 0, 1) := by decide +kernel
theorem dJ9_min_7cf53_6 : decode cJ9_min_7cf53 6 = .ok (.goto 4, 3) := by decide +kernel
theorem dJ9_min_7cf53_9 : decode cJ9_min_7cf53 9 = .ok (.iload_n 1, 1) := by decide +kernel
theorem dJ9_min_7cf53_10 : decode cJ9_min_7cf53 10 = .ok (.ireturn, 1) := by decide +kernel
theorem dL_law_0 : decode cL_law 0 = .ok (.new 7, 3) := by decide +kernel
theorem dL_law_3 : decode cL_law 3 = .ok (.dup, 1) := by decide +kernel
theorem dL_law_4 : decode cL_law 4 = .ok (.invokespecial 9, 3) := by decide +kernel
theorem dL_law_7 : decode cL_law 7 = .ok (.astore_n 1, 1) := by decide +kernel
theorem dL_law_8 : decode cL_law 8 = .ok (.new 10, 3) := by decide +kernel
theorem dL_law_11 : decode cL_law 11 = .ok (.dup, 1) := by decide +kernel
theorem dL_law_12 : decode cL_law 12 = .ok (.invokespecial 12, 3) := by decide +kernel
theorem dL_law_15 : decode cL_law 15 = .ok (.astore_n 2, 1) := by decide +kernel
theorem dL_law_16 : decode cL_law 16 = .ok (.iconst 0, 1) := by decide +kernel
theorem dL_law_17 : decode cL_law 17 = .ok (.istore_n 3, 1) := by decide +kernel
theorem dL_law_18 : decode cL_law 18 = .ok (.iload_n 3, 1) := by decide +kernel
theorem dL_law_19 : decode cL_law 19 = .ok (.aload_n 0, 1) := by decide +kernel
theorem dL_law_20 : decode cL_law 20 = .ok (.arraylength, 1) := by decide +kernel
theorem dL_law_21 : decode cL_law 21 = .ok (.bipush 6, 2) := by decide +kernel
theorem dL_law_23 : decode cL_law 23 = .ok (.isub, 1) := by decide +kernel
theorem dL_law_24 : decode cL_law 24 = .ok (.if_icmp .gt 1338, 3) := by decide +kernel
theorem dL_law_27 : decode cL_law 27 = .ok (.aload_n 0, 1) := by decide +kernel
theorem dL_law_28 : decode cL_law 28 = .ok (.iload_n 3, 1) := by decide +kernel
theorem dL_law_29 : decode cL_law 29 = .ok (.iaload, 1) := by decide +kernel
theorem dL_law_30 : decode cL_law 30 = .ok (.bipush 63, 2) := by decide +kernel
theorem dL_law_32 : decode cL_law 32 = .ok (.iand, 1) := by decide +kernel
theorem dL_law_33 : decode cL_law 33 = .ok (.tableswitch 1323 0 37 #[167, 200, 223, 246, 269, 302, 335, 358, 381, 404, 447, 460, 493, 506, 519, 542, 595, 638, 661, 704, 727, 760, 793, 806, 829, 862, 885, 908, 952, 985, 1028, 1071, 1094, 1147, 1190, 1253, 1286, 1309], 167) := by decide +kernel
theorem dL_law_200 : decode cL_law 200 = .ok (.aload_n 1, 1) := by decide +kernel
theorem dL_law_201 : decode cL_law 201 = .ok (.aload_n 0, 1) := by decide +kernel
theorem dL_law_202 : decode cL_law 202 = .ok (.iload_n 3, 1) := by decide +kernel
theorem dL_law_203 : decode cL_law 203 = .ok (.iconst 1, 1) := by decide +kernel
theorem dL_law_204 : decode cL_law 204 = .ok (.iadd, 1) := by decide +kernel
theorem dL_law_205 : decode cL_law 205 = .ok (.iaload, 1) := by decide +kernel
theorem dL_law_206 : decode cL_law 206 = .ok (.aload_n 0, 1) := by decide +kernel
theorem dL_law_207 : decode cL_law 207 = .ok (.iload_n 3, 1) := by decide +kernel
theorem dL_law_208 : decode cL_law 208 = .ok (.iconst 2, 1) := by decide +kernel
theorem dL_law_209 : decode cL_law 209 = .ok (.iadd, 1) := by decide +kernel
theorem dL_law_210 : decode cL_law 210 = .ok (.iaload, 1) := by decide +kernel
theorem dL_law_211 : decode cL_law 211 = .ok (.invokevirtual 13, 3) := by decide +kernel
theorem dL_law_214 : decode cL_law 214 = .ok (.aload_n 2, 1) := by decide +kernel
theorem dL_law_215 : decode cL_law 215 = .ok (.aload_n 0, 1) := by decide +kernel
theorem dL_law_216 : decode cL_law 216 = .ok (.iload_n 3, 1) := by decide +kernel
theorem dL_law_217 : decode cL_law 217 = .ok (.iconst 1, 1) := by decide +kernel
theorem dL_law_218 : decode cL_law 218 = .ok (.iadd, 1) := by decide +kernel
theorem dL_law_219 : decode cL_law 219 = .ok (.iaload, 1) := by decide +kernel
theorem dL_law_220 : decode cL_law 220 = .ok (.aload_n 0, 1) := by decide +kernel
theorem dL_law_221 : decode cL_law 221 = .ok (.iload_n 3, 1) := by decide +kernel
theorem dL_law_222 : decode cL_law 222 = .ok (.iconst 2, 1) := by decide +kernel
theorem dL_law_223 : decode cL_law 223 = .ok (.iadd, 1) := by decide +kernel
theorem dL_law_224 : decode cL_law 224 = .ok (.iaload, 1) := by decide +kernel
theorem dL_law_225 : decode cL_law 225 = .ok (.invokevirtual 17, 3) := by decide +kernel
theorem dL_law_228 : decode cL_law 228 = .ok (.if_icmp .eq 1128, 3) := by decide +kernel
theorem dL_law_231 : decode cL_law 231 = .ok (.iconst 0, 1) := by decide +kernel
theorem dL_law_232 : decode cL_law 232 = .ok (.ireturn, 1) := by decide +kernel
theorem dL_law_233 : decode cL_law 233 = .ok (.aload_n 1, 1) := by decide +kernel
theorem dL_law_234 : decode cL_law 234 = .ok (.aload_n 0, 1) := by decide +kernel
theorem dL_law_235 : decode cL_law 235 = .ok (.iload_n 3, 1) := by decide +kernel
theorem dL_law_236 : decode cL_law 236 = .ok (.iconst 1, 1) := by decide +kernel
theorem dL_law_237 : decode cL_law 237 = .ok (.iadd, 1) := by decide +kernel
theorem dL_law_238 : decode cL_law 238 = .ok (.iaload, 1) := by decide +kernel
theorem dL_law_239 : decode cL_law 239 = .ok (.invokevirtual 18, 3) := by decide +kernel
theorem dL_law_242 : decode cL_law 242 = .ok (.aload_n 2, 1) := by decide +kernel
theorem dL_law_243 : decode cL_law 243 = .ok (.aload_n 0, 1) := by decide +kernel
theorem dL_law_244 : decode cL_law 244 = .ok (.iload_n 3, 1) := by decide +kernel
theorem dL_law_245 : decode cL_law 245 = .ok (.iconst 1, 1) := by decide +kernel
theorem dL_law_246 : decode cL_law 246 = .ok (.iadd, 1) := by decide +kernel
theorem dL_law_247 : decode cL_law 247 = .ok (.iaload, 1) := by decide +kernel
theorem dL_law_248 : decode cL_law 248 = .ok (.invokevirtual 22, 3) := by decide +kernel
theorem dL_law_251 : decode cL_law 251 = .ok (.if_icmp .eq 1105, 3) := by decide +kernel
theorem dL_law_254 : decode cL_law 254 = .ok (.iconst 0, 1) := by decide +kernel
theorem dL_law_255 : decode cL_law 255 = .ok (.ireturn, 1) := by decide +kernel
theorem dL_law_256 : decode cL_law 256 = .ok (.aload_n 1, 1) := by decide +kernel
theorem dL_law_257 : decode cL_law 257 = .ok (.aload_n 0, 1) := by decide +kernel
theorem dL_law_258 : decode cL_law 258 = .ok (.iload_n 3, 1) := by decide +kernel
theorem dL_law_259 : decode cL_law 259 = .ok (.iconst 1, 1) := by decide +kernel
theorem dL_law_260 : decode cL_law 260 = .ok (.iadd, 1) := by decide +kernel
theorem dL_law_261 : decode cL_law 261 = .ok (.iaload, 1) := by decide +kernel
theorem dL_law_262 : decode cL_law 262 = .ok (.invokevirtual 23, 3) := by decide +kernel
theorem dL_law_265 : decode cL_law 265 = .ok (.aload_n 2, 1) := by decide +kernel
theorem dL_law_266 : decode cL_law 266 = .ok (.aload_n 0, 1) := by decide +kernel
theorem dL_law_267 : decode cL_law 267 = .ok (.iload_n 3, 1) := by decide +kernel
theorem dL_law_268 : decode cL_law 268 = .ok (.iconst 1, 1) := by decide +kernel
theorem dL_law_269 : decode cL_law 269 = .ok (.iadd, 1) := by decide +kernel
theorem dL_law_270 : decode cL_law 270 = .ok (.iaload, 1) := by decide +kernel
theorem dL_law_271 : decode cL_law 271 = .ok (.invokevirtual 26, 3) := by decide +kernel
theorem dL_law_274 : decode cL_law 274 = .ok (.if_icmp .eq 1082, 3) := by decide +kernel
theorem dL_law_277 : decode cL_law 277 = .ok (.iconst 0, 1) := by decide +kernel
theorem dL_law_278 : decode cL_law 278 = .ok (.ireturn, 1) := by decide +kernel
theorem dL_law_279 : decode cL_law 279 = .ok (.aload_n 1, 1) := by decide +kernel
theorem dL_law_280 : decode cL_law 280 = .ok (.aload_n 0, 1) := by decide +kernel
theorem dL_law_281 : decode cL_law 281 = .ok (.iload_n 3, 1) := by decide +kernel
theorem dL_law_282 : decode cL_law 282 = .ok (.iconst 1, 1) := by decide +kernel
theorem dL_law_283 : decode cL_law 283 = .ok (.iadd, 1) := by decide +kernel
theorem dL_law_284 : decode cL_law 284 = .ok (.iaload, 1) := by decide +kernel
theorem dL_law_285 : decode cL_law 285 = .ok (.invokevirtual 27, 3) := by decide +kernel
theorem dL_law_288 : decode cL_law 288 = .ok (.aload_n 2, 1) := by decide +kernel
theorem dL_law_289 : decode cL_law 289 = .ok (.aload_n 0, 1) := by decide +kernel
theorem dL_law_290 : decode cL_law 290 = .ok (.iload_n 3, 1) := by decide +kernel
theorem dL_law_291 : decode cL_law 291 = .ok (.iconst 1, 1) := by decide +kernel
theorem dL_law_292 : decode cL_law 292 = .ok (.iadd, 1) := by decide +kernel
theorem dL_law_293 : decode cL_law 293 = .ok (.iaload, 1) := by decide +kernel
theorem dL_law_294 : decode cL_law 294 = .ok (.invokevirtual 30, 3) := by decide +kernel
theorem dL_law_297 : decode cL_law 297 = .ok (.if_icmp .eq 1059, 3) := by decide +kernel
theorem dL_law_300 : decode cL_law 300 = .ok (.iconst 0, 1) := by decide +kernel
theorem dL_law_301 : decode cL_law 301 = .ok (.ireturn, 1) := by decide +kernel
theorem dL_law_302 : decode cL_law 302 = .ok (.aload_n 1, 1) := by decide +kernel
theorem dL_law_303 : decode cL_law 303 = .ok (.aload_n 0, 1) := by decide +kernel
theorem dL_law_304 : decode cL_law 304 = .ok (.iload_n 3, 1) := by decide +kernel
theorem dL_law_305 : decode cL_law 305 = .ok (.iconst 1, 1) := by decide +kernel
theorem dL_law_306 : decode cL_law 306 = .ok (.iadd, 1) := by decide +kernel
theorem dL_law_307 : decode cL_law 307 = .ok (.iaload, 1) := by decide +kernel
theorem dL_law_308 : decode cL_law 308 = .ok (.aload_n 0, 1) := by decide +kernel
theorem dL_law_309 : decode cL_law 309 = .ok (.iload_n 3, 1) := by decide +kernel
theorem dL_law_310 : decode cL_law 310 = .ok (.iconst 2, 1) := by decide +kernel
theorem dL_law_311 : decode cL_law 311 = .ok (.iadd, 1) := by decide +kernel
theorem dL_law_312 : decode cL_law 312 = .ok (.iaload, 1) := by decide +kernel
theorem dL_law_313 : decode cL_law 313 = .ok (.invokevirtual 31, 3) := by decide +kernel
theorem dL_law_316 : decode cL_law 316 = .ok (.aload_n 2, 1) := by decide +kernel
theorem dL_law_317 : decode cL_law 317 = .ok (.aload_n 0, 1) := by decide +kernel
theorem dL_law_318 : decode cL_law 318 = .ok (.iload_n 3, 1) := by decide +kernel
theorem dL_law_319 : decode cL_law 319 = .ok (.iconst 1, 1) := by decide +kernel
theorem dL_law_320 : decode cL_law 320 = .ok (.iadd, 1) := by decide +kernel
theorem dL_law_321 : decode cL_law 321 = .ok (.iaload, 1) := by decide +kernel
theorem dL_law_322 : decode cL_law 322 = .ok (.aload_n 0, 1) := by decide +kernel
theorem dL_law_323 : decode cL_law 323 = .ok (.iload_n 3, 1) := by decide +kernel
theorem dL_law_324 : decode cL_law 324 = .ok (.iconst 2, 1) := by decide +kernel
theorem dL_law_325 : decode cL_law 325 = .ok (.iadd, 1) := by decide +kernel
theorem dL_law_326 : decode cL_law 326 = .ok (.iaload, 1) := by decide +kernel
theorem dL_law_327 : decode cL_law 327 = .ok (.invokevirtual 34, 3) := by decide +kernel
theorem dL_law_330 : decode cL_law 330 = .ok (.if_icmp .eq 1026, 3) := by decide +kernel
theorem dL_law_333 : decode cL_law 333 = .ok (.iconst 0, 1) := by decide +kernel
theorem dL_law_334 : decode cL_law 334 = .ok (.ireturn, 1) := by decide +kernel
theorem dL_law_335 : decode cL_law 335 = .ok (.aload_n 1, 1) := by decide +kernel
theorem dL_law_336 : decode cL_law 336 = .ok (.aload_n 0, 1) := by decide +kernel
theorem dL_law_337 : decode cL_law 337 = .ok (.iload_n 3, 1) := by decide +kernel
theorem dL_law_338 : decode cL_law 338 = .ok (.iconst 1, 1) := by decide +kernel
theorem dL_law_339 : decode cL_law 339 = .ok (.iadd, 1) := by decide +kernel
theorem dL_law_340 : decode cL_law 340 = .ok (.iaload, 1) := by decide +kernel
theorem dL_law_341 : decode cL_law 341 = .ok (.aload_n 0, 1) := by decide +kernel
theorem dL_law_342 : decode cL_law 342 = .ok (.iload_n 3, 1) := by decide +kernel
theorem dL_law_343 : decode cL_law 343 = .ok (.iconst 2, 1) := by decide +kernel
theorem dL_law_344 : decode cL_law 344 = .ok (.iadd, 1) := by decide +kernel
theorem dL_law_345 : decode cL_law 345 = .ok (.iaload, 1) := by decide +kernel
theorem dL_law_346 : decode cL_law 346 = .ok (.invokevirtual 35, 3) := by decide +kernel
theorem dL_law_349 : decode cL_law 349 = .ok (.aload_n 2, 1) := by decide +kernel
theorem dL_law_350 : decode cL_law 350 = .ok (.aload_n 0, 1) := by decide +kernel
theorem dL_law_351 : decode cL_law 351 = .ok (.iload_n 3, 1) := by decide +kernel
theorem dL_law_352 : decode cL_law 352 = .ok (.iconst 1, 1) := by decide +kernel
theorem dL_law_353 : decode cL_law 353 = .ok (.iadd, 1) := by decide +kernel
theorem dL_law_354 : decode cL_law 354 = .ok (.iaload, 1) := by decide +kernel
theorem dL_law_355 : decode cL_law 355 = .ok (.aload_n 0, 1) := by decide +kernel
theorem dL_law_356 : decode cL_law 356 = .ok (.iload_n 3, 1) := by decide +kernel
theorem dL_law_357 : decode cL_law 357 = .ok (.iconst 2, 1) := by decide +kernel
theorem dL_law_358 : decode cL_law 358 = .ok (.iadd, 1) := by decide +kernel
theorem dL_law_359 : decode cL_law 359 = .ok (.iaload, 1) := by decide +kernel
theorem dL_law_360 : decode cL_law 360 = .ok (.invokevirtual 38, 3) := by decide +kernel
theorem dL_law_363 : decode cL_law 363 = .ok (.if_icmp .eq 993, 3) := by decide +kernel
theorem dL_law_366 : decode cL_law 366 = .ok (.iconst 0, 1) := by decide +kernel
theorem dL_law_367 : decode cL_law 367 = .ok (.ireturn, 1) := by decide +kernel
theorem dL_law_368 : decode cL_law 368 = .ok (.aload_n 1, 1) := by decide +kernel
theorem dL_law_369 : decode cL_law 369 = .ok (.aload_n 0, 1) := by decide +kernel
theorem dL_law_370 : decode cL_law 370 = .ok (.iload_n 3, 1) := by decide +kernel
theorem dL_law_371 : decode cL_law 371 = .ok (.iconst 1, 1) := by decide +kernel
theorem dL_law_372 : decode cL_law 372 = .ok (.iadd, 1) := by decide +kernel
theorem dL_law_373 : decode cL_law 373 = .ok (.iaload, 1) := by decide +kernel
theorem dL_law_374 : decode cL_law 374 = .ok (.invokevirtual 39, 3) := by decide +kernel
theorem dL_law_377 : decode cL_law 377 = .ok (.aload_n 2, 1) := by decide +kernel
theorem dL_law_378 : decode cL_law 378 = .ok (.aload_n 0, 1) := by decide +kernel
theorem dL_law_379 : decode cL_law 379 = .ok (.iload_n 3, 1) := by decide +kernel
theorem dL_law_380 : decode cL_law 380 = .ok (.iconst 1, 1) := by decide +kernel
theorem dL_law_381 : decode cL_law 381 = .ok (.iadd, 1) := by decide +kernel
theorem dL_law_382 : decode cL_law 382 = .ok (.iaload, 1) := by decide +kernel
theorem dL_law_383 : decode cL_law 383 = .ok (.invokevirtual 42, 3) := by decide +kernel
theorem dL_law_386 : decode cL_law 386 = .ok (.if_icmp .eq 970, 3) := by decide +kernel
theorem dL_law_389 : decode cL_law 389 = .ok (.iconst 0, 1) := by decide +kernel
theorem dL_law_390 : decode cL_law 390 = .ok (.ireturn, 1) := by decide +kernel
theorem dL_law_391 : decode cL_law 391 = .ok (.aload_n 1, 1) := by decide +kernel
theorem dL_law_392 : decode cL_law 392 = .ok (.aload_n 0, 1) := by decide +kernel
theorem dL_law_393 : decode cL_law 393 = .ok (.iload_n 3, 1) := by decide +kernel
theorem dL_law_394 : decode cL_law 394 = .ok (.iconst 1, 1) := by decide +kernel
theorem dL_law_395 : decode cL_law 395 = .ok (.iadd, 1) := by decide +kernel
theorem dL_law_396 : decode cL_law 396 = .ok (.iaload, 1) := by decide +kernel
theorem dL_law_397 : decode cL_law 397 = .ok (.invokevirtual 43, 3) := by decide +kernel
theorem dL_law_400 : decode cL_law 400 = .ok (.aload_n 2, 1) := by decide +kernel
theorem dL_law_401 : decode cL_law 401 = .ok (.aload_n 0, 1) := by decide +kernel
theorem dL_law_402 : decode cL_law 402 = .ok (.iload_n 3, 1) := by decide +kernel
theorem dL_law_403 : decode cL_law 403 = .ok (.iconst 1, 1) := by decide +kernel
theorem dL_law_404 : decode cL_law 404 = .ok (.iadd, 1) := by decide +kernel
theorem dL_law_405 : decode cL_law 405 = .ok (.iaload, 1) := by decide +kernel
theorem dL_law_406 : decode cL_law 406 = .ok (.invokevirtual 46, 3) := by decide +kernel
theorem dL_law_409 : decode cL_law 409 = .ok (.if_icmp .eq 947, 3) := by decide +kernel
theorem dL_law_412 : decode cL_law 412 = .ok (.iconst 0, 1) := by decide +kernel
theorem dL_law_413 : decode cL_law 413 = .ok (.ireturn, 1) := by decide +kernel
theorem dL_law_414 : decode cL_law 414 = .ok (.aload_n 1, 1) := by decide +kernel
theorem dL_law_415 : decode cL_law 415 = .ok (.aload_n 0, 1) := by decide +kernel
theorem dL_law_416 : decode cL_law 416 = .ok (.iload_n 3, 1) := by decide +kernel
theorem dL_law_417 : decode cL_law 417 = .ok (.iconst 1, 1) := by decide +kernel
theorem dL_law_418 : decode cL_law 418 = .ok (.iadd, 1) := by decide +kernel
theorem dL_law_419 : decode cL_law 419 = .ok (.iaload, 1) := by decide +kernel
theorem dL_law_420 : decode cL_law 420 = .ok (.invokevirtual 47, 3) := by decide +kernel
theorem dL_law_423 : decode cL_law 423 = .ok (.aload_n 2, 1) := by decide +kernel
theorem dL_law_424 : decode cL_law 424 = .ok (.aload_n 0, 1) := by decide +kernel
theorem dL_law_425 : decode cL_law 425 = .ok (.iload_n 3, 1) := by decide +kernel
theorem dL_law_426 : decode cL_law 426 = .ok (.iconst 1, 1) := by decide +kernel
theorem dL_law_427 : decode cL_law 427 = .ok (.iadd, 1) := by decide +kernel
theorem dL_law_428 : decode cL_law 428 = .ok (.iaload, 1) := by decide +kernel
theorem dL_law_429 : decode cL_law 429 = .ok (.invokevirtual 50, 3) := by decide +kernel
theorem dL_law_432 : decode cL_law 432 = .ok (.if_icmp .eq 924, 3) := by decide +kernel
theorem dL_law_435 : decode cL_law 435 = .ok (.iconst 0, 1) := by decide +kernel
theorem dL_law_436 : decode cL_law 436 = .ok (.ireturn, 1) := by decide +kernel
theorem dL_law_437 : decode cL_law 437 = .ok (.aload_n 1, 1) := by decide +kernel
theorem dL_law_438 : decode cL_law 438 = .ok (.aload_n 0, 1) := by decide +kernel
theorem dL_law_439 : decode cL_law 439 = .ok (.iload_n 3, 1) := by decide +kernel
theorem dL_law_440 : decode cL_law 440 = .ok (.iconst 1, 1) := by decide +kernel
theorem dL_law_441 : decode cL_law 441 = .ok (.iadd, 1) := by decide +kernel
theorem dL_law_442 : decode cL_law 442 = .ok (.iaload, 1) := by decide +kernel
theorem dL_law_443 : decode cL_law 443 = .ok (.aload_n 0, 1) := by decide +kernel
theorem dL_law_444 : decode cL_law 444 = .ok (.iload_n 3, 1) := by decide +kernel
theorem dL_law_445 : decode cL_law 445 = .ok (.iconst 2, 1) := by decide +kernel
theorem dL_law_446 : decode cL_law 446 = .ok (.iadd, 1) := by decide +kernel
theorem dL_law_447 : decode cL_law 447 = .ok (.iaload, 1) := by decide +kernel
theorem dL_law_448 : decode cL_law 448 = .ok (.aload_n 0, 1) := by decide +kernel
theorem dL_law_449 : decode cL_law 449 = .ok (.iload_n 3, 1) := by decide +kernel
theorem dL_law_450 : decode cL_law 450 = .ok (.iconst 3, 1) := by decide +kernel
theorem dL_law_451 : decode cL_law 451 = .ok (.iadd, 1) := by decide +kernel
theorem dL_law_452 : decode cL_law 452 = .ok (.iaload, 1) := by decide +kernel
theorem dL_law_453 : decode cL_law 453 = .ok (.invokevirtual 51, 3) := by decide +kernel
theorem dL_law_456 : decode cL_law 456 = .ok (.aload_n 2, 1) := by decide +kernel
theorem dL_law_457 : decode cL_law 457 = .ok (.aload_n 0, 1) := by decide +kernel
theorem dL_law_458 : decode cL_law 458 = .ok (.iload_n 3, 1) := by decide +kernel
theorem dL_law_459 : decode cL_law 459 = .ok (.iconst 1, 1) := by decide +kernel
theorem dL_law_460 : decode cL_law 460 = .ok (.iadd, 1) := by decide +kernel
theorem dL_law_461 : decode cL_law 461 = .ok (.iaload, 1) := by decide +kernel
theorem dL_law_462 : decode cL_law 462 = .ok (.aload_n 0, 1) := by decide +kernel
theorem dL_law_463 : decode cL_law 463 = .ok (.iload_n 3, 1) := by decide +kernel
theorem dL_law_464 : decode cL_law 464 = .ok (.iconst 2, 1) := by decide +kernel
theorem dL_law_465 : decode cL_law 465 = .ok (.iadd, 1) := by decide +kernel
theorem dL_law_466 : decode cL_law 466 = .ok (.iaload, 1) := by decide +kernel
theorem dL_law_467 : decode cL_law 467 = .ok (.aload_n 0, 1) := by decide +kernel
theorem dL_law_468 : decode cL_law 468 = .ok (.iload_n 3, 1) := by decide +kernel
theorem dL_law_469 : decode cL_law 469 = .ok (.iconst 3, 1) := by decide +kernel
theorem dL_law_470 : decode cL_law 470 = .ok (.iadd, 1) := by decide +kernel
theorem dL_law_471 : decode cL_law 471 = .ok (.iaload, 1) := by decide +kernel
theorem dL_law_472 : decode cL_law 472 = .ok (.invokevirtual 55, 3) := by decide +kernel
theorem dL_law_475 : decode cL_law 475 = .ok (.if_icmp .eq 881, 3) := by decide +kernel
theorem dL_law_478 : decode cL_law 478 = .ok (.iconst 0, 1) := by decide +kernel
theorem dL_law_479 : decode cL_law 479 = .ok (.ireturn, 1) := by decide +kernel
theorem dL_law_480 : decode cL_law 480 = .ok (.aload_n 1, 1) := by decide +kernel
theorem dL_law_481 : decode cL_law 481 = .ok (.invokevirtual 56, 3) := by decide +kernel
theorem dL_law_484 : decode cL_law 484 = .ok (.aload_n 2, 1) := by decide +kernel
theorem dL_law_485 : decode cL_law 485 = .ok (.invokevirtual 60, 3) := by decide +kernel
theorem dL_law_488 : decode cL_law 488 = .ok (.if_icmp .eq 868, 3) := by decide +kernel
theorem dL_law_491 : decode cL_law 491 = .ok (.iconst 0, 1) := by decide +kernel
theorem dL_law_492 : decode cL_law 492 = .ok (.ireturn, 1) := by decide +kernel
theorem dL_law_493 : decode cL_law 493 = .ok (.aload_n 1, 1) := by decide +kernel
theorem dL_law_494 : decode cL_law 494 = .ok (.aload_n 0, 1) := by decide +kernel
theorem dL_law_495 : decode cL_law 495 = .ok (.iload_n 3, 1) := by decide +kernel
theorem dL_law_496 : decode cL_law 496 = .ok (.iconst 1, 1) := by decide +kernel
theorem dL_law_497 : decode cL_law 497 = .ok (.iadd, 1) := by decide +kernel
theorem dL_law_498 : decode cL_law 498 = .ok (.iaload, 1) := by decide +kernel
theorem dL_law_499 : decode cL_law 499 = .ok (.aload_n 0, 1) := by decide +kernel
theorem dL_law_500 : decode cL_law 500 = .ok (.iload_n 3, 1) := by decide +kernel
theorem dL_law_501 : decode cL_law 501 = .ok (.iconst 2, 1) := by decide +kernel
theorem dL_law_502 : decode cL_law 502 = .ok (.iadd, 1) := by decide +kernel
theorem dL_law_503 : decode cL_law 503 = .ok (.iaload, 1) := by decide +kernel
theorem dL_law_504 : decode cL_law 504 = .ok (.invokevirtual 61, 3) := by decide +kernel
theorem dL_law_507 : decode cL_law 507 = .ok (.aload_n 2, 1) := by decide +kernel
theorem dL_law_508 : decode cL_law 508 = .ok (.aload_n 0, 1) := by decide +kernel
theorem dL_law_509 : decode cL_law 509 = .ok (.iload_n 3, 1) := by decide +kernel
theorem dL_law_510 : decode cL_law 510 = .ok (.iconst 1, 1) := by decide +kernel
theorem dL_law_511 : decode cL_law 511 = .ok (.iadd, 1) := by decide +kernel
theorem dL_law_512 : decode cL_law 512 = .ok (.iaload, 1) := by decide +kernel
theorem dL_law_513 : decode cL_law 513 = .ok (.aload_n 0, 1) := by decide +kernel
theorem dL_law_514 : decode cL_law 514 = .ok (.iload_n 3, 1) := by decide +kernel
theorem dL_law_515 : decode cL_law 515 = .ok (.iconst 2, 1) := by decide +kernel
theorem dL_law_516 : decode cL_law 516 = .ok (.iadd, 1) := by decide +kernel
theorem dL_law_517 : decode cL_law 517 = .ok (.iaload, 1) := by decide +kernel
theorem dL_law_518 : decode cL_law 518 = .ok (.invokevirtual 64, 3) := by decide +kernel
theorem dL_law_521 : decode cL_law 521 = .ok (.if_icmp .eq 835, 3) := by decide +kernel
theorem dL_law_524 : decode cL_law 524 = .ok (.iconst 0, 1) := by decide +kernel
theorem dL_law_525 : decode cL_law 525 = .ok (.ireturn, 1) := by decide +kernel
theorem dL_law_526 : decode cL_law 526 = .ok (.aload_n 1, 1) := by decide +kernel
theorem dL_law_527 : decode cL_law 527 = .ok (.invokevirtual 65, 3) := by decide +kernel
theorem dL_law_530 : decode cL_law 530 = .ok (.aload_n 2, 1) := by decide +kernel
theorem dL_law_531 : decode cL_law 531 = .ok (.invokevirtual 68, 3) := by decide +kernel
theorem dL_law_534 : decode cL_law 534 = .ok (.if_icmp .eq 822, 3) := by decide +kernel
theorem dL_law_537 : decode cL_law 537 = .ok (.iconst 0, 1) := by decide +kernel
theorem dL_law_538 : decode cL_law 538 = .ok (.ireturn, 1) := by decide +kernel
theorem dL_law_539 : decode cL_law 539 = .ok (.aload_n 1, 1) := by decide +kernel
theorem dL_law_540 : decode cL_law 540 = .ok (.invokevirtual 69, 3) := by decide +kernel
theorem dL_law_543 : decode cL_law 543 = .ok (.aload_n 2, 1) := by decide +kernel
theorem dL_law_544 : decode cL_law 544 = .ok (.invokevirtual 72, 3) := by decide +kernel
theorem dL_law_547 : decode cL_law 547 = .ok (.if_icmp .eq 809, 3) := by decide +kernel
theorem dL_law_550 : decode cL_law 550 = .ok (.iconst 0, 1) := by decide +kernel
theorem dL_law_551 : decode cL_law 551 = .ok (.ireturn, 1) := by decide +kernel
theorem dL_law_552 : decode cL_law 552 = .ok (.aload_n 1, 1) := by decide +kernel
theorem dL_law_553 : decode cL_law 553 = .ok (.aload_n 0, 1) := by decide +kernel
theorem dL_law_554 : decode cL_law 554 = .ok (.iload_n 3, 1) := by decide +kernel
theorem dL_law_555 : decode cL_law 555 = .ok (.iconst 1, 1) := by decide +kernel
theorem dL_law_556 : decode cL_law 556 = .ok (.iadd, 1) := by decide +kernel
theorem dL_law_557 : decode cL_law 557 = .ok (.iaload, 1) := by decide +kernel
theorem dL_law_558 : decode cL_law 558 = .ok (.invokevirtual 73, 3) := by decide +kernel
theorem dL_law_561 : decode cL_law 561 = .ok (.aload_n 2, 1) := by decide +kernel
theorem dL_law_562 : decode cL_law 562 = .ok (.aload_n 0, 1) := by decide +kernel
theorem dL_law_563 : decode cL_law 563 = .ok (.iload_n 3, 1) := by decide +kernel
theorem dL_law_564 : decode cL_law 564 = .ok (.iconst 1, 1) := by decide +kernel
theorem dL_law_565 : decode cL_law 565 = .ok (.iadd, 1) := by decide +kernel
theorem dL_law_566 : decode cL_law 566 = .ok (.iaload, 1) := by decide +kernel
theorem dL_law_567 : decode cL_law 567 = .ok (.invokevirtual 76, 3) := by decide +kernel
theorem dL_law_570 : decode cL_law 570 = .ok (.if_icmp .eq 786, 3) := by decide +kernel
theorem dL_law_573 : decode cL_law 573 = .ok (.iconst 0, 1) := by decide +kernel
theorem dL_law_574 : decode cL_law 574 = .ok (.ireturn, 1) := by decide +kernel
theorem dL_law_575 : decode cL_law 575 = .ok (.aload_n 1, 1) := by decide +kernel
theorem dL_law_576 : decode cL_law 576 = .ok (.aload_n 0, 1) := by decide +kernel
theorem dL_law_577 : decode cL_law 577 = .ok (.iload_n 3, 1) := by decide +kernel
theorem dL_law_578 : decode cL_law 578 = .ok (.iconst 1, 1) := by decide +kernel
theorem dL_law_579 : decode cL_law 579 = .ok (.iadd, 1) := by decide +kernel
theorem dL_law_580 : decode cL_law 580 = .ok (.iaload, 1) := by decide +kernel
theorem dL_law_581 : decode cL_law 581 = .ok (.aload_n 0, 1) := by decide +kernel
theorem dL_law_582 : decode cL_law 582 = .ok (.iload_n 3, 1) := by decide +kernel
theorem dL_law_583 : decode cL_law 583 = .ok (.iconst 2, 1) := by decide +kernel
theorem dL_law_584 : decode cL_law 584 = .ok (.iadd, 1) := by decide +kernel
theorem dL_law_585 : decode cL_law 585 = .ok (.iaload, 1) := by decide +kernel
theorem dL_law_586 : decode cL_law 586 = .ok (.aload_n 0, 1) := by decide +kernel
theorem dL_law_587 : decode cL_law 587 = .ok (.iload_n 3, 1) := by decide +kernel
theorem dL_law_588 : decode cL_law 588 = .ok (.iconst 3, 1) := by decide +kernel
theorem dL_law_589 : decode cL_law 589 = .ok (.iadd, 1) := by decide +kernel
theorem dL_law_590 : decode cL_law 590 = .ok (.iaload, 1) := by decide +kernel
theorem dL_law_591 : decode cL_law 591 = .ok (.aload_n 0, 1) := by decide +kernel
theorem dL_law_592 : decode cL_law 592 = .ok (.iload_n 3, 1) := by decide +kernel
theorem dL_law_593 : decode cL_law 593 = .ok (.iconst 4, 1) := by decide +kernel
theorem dL_law_594 : decode cL_law 594 = .ok (.iadd, 1) := by decide +kernel
theorem dL_law_595 : decode cL_law 595 = .ok (.iaload, 1) := by decide +kernel
theorem dL_law_596 : decode cL_law 596 = .ok (.invokevirtual 77, 3) := by decide +kernel
theorem dL_law_599 : decode cL_law 599 = .ok (.aload_n 2, 1) := by decide +kernel
theorem dL_law_600 : decode cL_law 600 = .ok (.aload_n 0, 1) := by decide +kernel
theorem dL_law_601 : decode cL_law 601 = .ok (.iload_n 3, 1) := by decide +kernel
theorem dL_law_602 : decode cL_law 602 = .ok (.iconst 1, 1) := by decide +kernel
theorem dL_law_603 : decode cL_law 603 = .ok (.iadd, 1) := by decide +kernel
theorem dL_law_604 : decode cL_law 604 = .ok (.iaload, 1) := by decide +kernel
theorem dL_law_605 : decode cL_law 605 = .ok (.aload_n 0, 1) := by decide +kernel
theorem dL_law_606 : decode cL_law 606 = .ok (.iload_n 3, 1) := by decide +kernel
theorem dL_law_607 : decode cL_law 607 = .ok (.iconst 2, 1) := by decide +kernel
theorem dL_law_608 : decode cL_law 608 = .ok (.iadd, 1) := by decide +kernel
theorem dL_law_609 : decode cL_law 609 = .ok (.iaload, 1) := by decide +kernel
theorem dL_law_610 : decode cL_law 610 = .ok (.aload_n 0, 1) := by decide +kernel
theorem dL_law_611 : decode cL_law 611 = .ok (.iload_n 3, 1) := by decide +kernel
theorem dL_law_612 : decode cL_law 612 = .ok (.iconst 3, 1) := by decide +kernel
theorem dL_law_613 : decode cL_law 613 = .ok (.iadd, 1) := by decide +kernel
theorem dL_law_614 : decode cL_law 614 = .ok (.iaload, 1) := by decide +kernel
theorem dL_law_615 : decode cL_law 615 = .ok (.aload_n 0, 1) := by decide +kernel
theorem dL_law_616 : decode cL_law 616 = .ok (.iload_n 3, 1) := by decide +kernel
theorem dL_law_617 : decode cL_law 617 = .ok (.iconst 4, 1) := by decide +kernel
theorem dL_law_618 : decode cL_law 618 = .ok (.iadd, 1) := by decide +kernel
theorem dL_law_619 : decode cL_law 619 = .ok (.iaload, 1) := by decide +kernel
theorem dL_law_620 : decode cL_law 620 = .ok (.invokevirtual 81, 3) := by decide +kernel
theorem dL_law_623 : decode cL_law 623 = .ok (.if_icmp .eq 733, 3) := by decide +kernel
theorem dL_law_626 : decode cL_law 626 = .ok (.iconst 0, 1) := by decide +kernel
theorem dL_law_627 : decode cL_law 627 = .ok (.ireturn, 1) := by decide +kernel
theorem dL_law_628 : decode cL_law 628 = .ok (.aload_n 1, 1) := by decide +kernel
theorem dL_law_629 : decode cL_law 629 = .ok (.aload_n 0, 1) := by decide +kernel
theorem dL_law_630 : decode cL_law 630 = .ok (.iload_n 3, 1) := by decide +kernel
theorem dL_law_631 : decode cL_law 631 = .ok (.iconst 1, 1) := by decide +kernel
theorem dL_law_632 : decode cL_law 632 = .ok (.iadd, 1) := by decide +kernel
theorem dL_law_633 : decode cL_law 633 = .ok (.iaload, 1) := by decide +kernel
theorem dL_law_634 : decode cL_law 634 = .ok (.aload_n 0, 1) := by decide +kernel
theorem dL_law_635 : decode cL_law 635 = .ok (.iload_n 3, 1) := by decide +kernel
theorem dL_law_636 : decode cL_law 636 = .ok (.iconst 2, 1) := by decide +kernel
theorem dL_law_637 : decode cL_law 637 = .ok (.iadd, 1) := by decide +kernel
theorem dL_law_638 : decode cL_law 638 = .ok (.iaload, 1) := by decide +kernel
theorem dL_law_639 : decode cL_law 639 = .ok (.aload_n 0, 1) := by decide +kernel
theorem dL_law_640 : decode cL_law 640 = .ok (.iload_n 3, 1) := by decide +kernel
theorem dL_law_641 : decode cL_law 641 = .ok (.iconst 3, 1) := by decide +kernel
theorem dL_law_642 : decode cL_law 642 = .ok (.iadd, 1) := by decide +kernel
theorem dL_law_643 : decode cL_law 643 = .ok (.iaload, 1) := by decide +kernel
theorem dL_law_644 : decode cL_law 644 = .ok (.invokevirtual 82, 3) := by decide +kernel
theorem dL_law_647 : decode cL_law 647 = .ok (.aload_n 2, 1) := by decide +kernel
theorem dL_law_648 : decode cL_law 648 = .ok (.aload_n 0, 1) := by decide +kernel
theorem dL_law_649 : decode cL_law 649 = .ok (.iload_n 3, 1) := by decide +kernel
theorem dL_law_650 : decode cL_law 650 = .ok (.iconst 1, 1) := by decide +kernel
theorem dL_law_651 : decode cL_law 651 = .ok (.iadd, 1) := by decide +kernel
theorem dL_law_652 : decode cL_law 652 = .ok (.iaload, 1) := by decide +kernel
theorem dL_law_653 : decode cL_law 653 = .ok (.aload_n 0, 1) := by decide +kernel
theorem dL_law_654 : decode cL_law 654 = .ok (.iload_n 3, 1) := by decide +kernel
theorem dL_law_655 : decode cL_law 655 = .ok (.iconst 2, 1) := by decide +kernel
theorem dL_law_656 : decode cL_law 656 = .ok (.iadd, 1) := by decide +kernel
theorem dL_law_657 : decode cL_law 657 = .ok (.iaload, 1) := by decide +kernel
theorem dL_law_658 : decode cL_law 658 = .ok (.aload_n 0, 1) := by decide +kernel
theorem dL_law_659 : decode cL_law 659 = .ok (.iload_n 3, 1) := by decide +kernel
theorem dL_law_660 : decode cL_law 660 = .ok (.iconst 3, 1) := by decide +kernel
theorem dL_law_661 : decode cL_law 661 = .ok (.iadd, 1) := by decide +kernel
theorem dL_law_662 : decode cL_law 662 = .ok (.iaload, 1) := by decide +kernel
theorem dL_law_663 : decode cL_law 663 = .ok (.invokevirtual 85, 3) := by decide +kernel
theorem dL_law_666 : decode cL_law 666 = .ok (.if_icmp .eq 690, 3) := by decide +kernel
theorem dL_law_669 : decode cL_law 669 = .ok (.iconst 0, 1) := by decide +kernel
theorem dL_law_670 : decode cL_law 670 = .ok (.ireturn, 1) := by decide +kernel
theorem dL_law_671 : decode cL_law 671 = .ok (.aload_n 1, 1) := by decide +kernel
theorem dL_law_672 : decode cL_law 672 = .ok (.aload_n 0, 1) := by decide +kernel
theorem dL_law_673 : decode cL_law 673 = .ok (.iload_n 3, 1) := by decide +kernel
theorem dL_law_674 : decode cL_law 674 = .ok (.iconst 1, 1) := by decide +kernel
theorem dL_law_675 : decode cL_law 675 = .ok (.iadd, 1) := by decide +kernel
theorem dL_law_676 : decode cL_law 676 = .ok (.iaload, 1) := by decide +kernel
theorem dL_law_677 : decode cL_law 677 = .ok (.invokevirtual 86, 3) := by decide +kernel
theorem dL_law_680 : decode cL_law 680 = .ok (.aload_n 2, 1) := by decide +kernel
theorem dL_law_681 : decode cL_law 681 = .ok (.aload_n 0, 1) := by decide +kernel
theorem dL_law_682 : decode cL_law 682 = .ok (.iload_n 3, 1) := by decide +kernel
theorem dL_law_683 : decode cL_law 683 = .ok (.iconst 1, 1) := by decide +kernel
theorem dL_law_684 : decode cL_law 684 = .ok (.iadd, 1) := by decide +kernel
theorem dL_law_685 : decode cL_law 685 = .ok (.iaload, 1) := by decide +kernel
theorem dL_law_686 : decode cL_law 686 = .ok (.invokevirtual 89, 3) := by decide +kernel
theorem dL_law_689 : decode cL_law 689 = .ok (.if_icmp .eq 667, 3) := by decide +kernel
theorem dL_law_692 : decode cL_law 692 = .ok (.iconst 0, 1) := by decide +kernel
theorem dL_law_693 : decode cL_law 693 = .ok (.ireturn, 1) := by decide +kernel
theorem dL_law_694 : decode cL_law 694 = .ok (.aload_n 1, 1) := by decide +kernel
theorem dL_law_695 : decode cL_law 695 = .ok (.aload_n 0, 1) := by decide +kernel
theorem dL_law_696 : decode cL_law 696 = .ok (.iload_n 3, 1) := by decide +kernel
theorem dL_law_697 : decode cL_law 697 = .ok (.iconst 1, 1) := by decide +kernel
theorem dL_law_698 : decode cL_law 698 = .ok (.iadd, 1) := by decide +kernel
theorem dL_law_699 : decode cL_law 699 = .ok (.iaload, 1) := by decide +kernel
theorem dL_law_700 : decode cL_law 700 = .ok (.aload_n 0, 1) := by decide +kernel
theorem dL_law_701 : decode cL_law 701 = .ok (.iload_n 3, 1) := by decide +kernel
theorem dL_law_702 : decode cL_law 702 = .ok (.iconst 2, 1) := by decide +kernel
theorem dL_law_703 : decode cL_law 703 = .ok (.iadd, 1) := by decide +kernel
theorem dL_law_704 : decode cL_law 704 = .ok (.iaload, 1) := by decide +kernel
theorem dL_law_705 : decode cL_law 705 = .ok (.aload_n 0, 1) := by decide +kernel
theorem dL_law_706 : decode cL_law 706 = .ok (.iload_n 3, 1) := by decide +kernel
theorem dL_law_707 : decode cL_law 707 = .ok (.iconst 3, 1) := by decide +kernel
theorem dL_law_708 : decode cL_law 708 = .ok (.iadd, 1) := by decide +kernel
theorem dL_law_709 : decode cL_law 709 = .ok (.iaload, 1) := by decide +kernel
theorem dL_law_710 : decode cL_law 710 = .ok (.invokevirtual 90, 3) := by decide +kernel
theorem dL_law_713 : decode cL_law 713 = .ok (.aload_n 2, 1) := by decide +kernel
theorem dL_law_714 : decode cL_law 714 = .ok (.aload_n 0, 1) := by decide +kernel
theorem dL_law_715 : decode cL_law 715 = .ok (.iload_n 3, 1) := by decide +kernel
theorem dL_law_716 : decode cL_law 716 = .ok (.iconst 1, 1) := by decide +kernel
theorem dL_law_717 : decode cL_law 717 = .ok (.iadd, 1) := by decide +kernel
theorem dL_law_718 : decode cL_law 718 = .ok (.iaload, 1) := by decide +kernel
theorem dL_law_719 : decode cL_law 719 = .ok (.aload_n 0, 1) := by decide +kernel
theorem dL_law_720 : decode cL_law 720 = .ok (.iload_n 3, 1) := by decide +kernel
theorem dL_law_721 : decode cL_law 721 = .ok (.iconst 2, 1) := by decide +kernel
theorem dL_law_722 : decode cL_law 722 = .ok (.iadd, 1) := by decide +kernel
theorem dL_law_723 : decode cL_law 723 = .ok (.iaload, 1) := by decide +kernel
theorem dL_law_724 : decode cL_law 724 = .ok (.aload_n 0, 1) := by decide +kernel
theorem dL_law_725 : decode cL_law 725 = .ok (.iload_n 3, 1) := by decide +kernel
theorem dL_law_726 : decode cL_law 726 = .ok (.iconst 3, 1) := by decide +kernel
theorem dL_law_727 : decode cL_law 727 = .ok (.iadd, 1) := by decide +kernel
theorem dL_law_728 : decode cL_law 728 = .ok (.iaload, 1) := by decide +kernel
theorem dL_law_729 : decode cL_law 729 = .ok (.invokevirtual 93, 3) := by decide +kernel
theorem dL_law_732 : decode cL_law 732 = .ok (.if_icmp .eq 624, 3) := by decide +kernel
theorem dL_law_735 : decode cL_law 735 = .ok (.iconst 0, 1) := by decide +kernel
theorem dL_law_736 : decode cL_law 736 = .ok (.ireturn, 1) := by decide +kernel
theorem dL_law_737 : decode cL_law 737 = .ok (.aload_n 1, 1) := by decide +kernel
theorem dL_law_738 : decode cL_law 738 = .ok (.aload_n 0, 1) := by decide +kernel
theorem dL_law_739 : decode cL_law 739 = .ok (.iload_n 3, 1) := by decide +kernel
theorem dL_law_740 : decode cL_law 740 = .ok (.iconst 1, 1) := by decide +kernel
theorem dL_law_741 : decode cL_law 741 = .ok (.iadd, 1) := by decide +kernel
theorem dL_law_742 : decode cL_law 742 = .ok (.iaload, 1) := by decide +kernel
theorem dL_law_743 : decode cL_law 743 = .ok (.invokevirtual 94, 3) := by decide +kernel
theorem dL_law_746 : decode cL_law 746 = .ok (.aload_n 2, 1) := by decide +kernel
theorem dL_law_747 : decode cL_law 747 = .ok (.aload_n 0, 1) := by decide +kernel
theorem dL_law_748 : decode cL_law 748 = .ok (.iload_n 3, 1) := by decide +kernel
theorem dL_law_749 : decode cL_law 749 = .ok (.iconst 1, 1) := by decide +kernel
theorem dL_law_750 : decode cL_law 750 = .ok (.iadd, 1) := by decide +kernel
theorem dL_law_751 : decode cL_law 751 = .ok (.iaload, 1) := by decide +kernel
theorem dL_law_752 : decode cL_law 752 = .ok (.invokevirtual 97, 3) := by decide +kernel
theorem dL_law_755 : decode cL_law 755 = .ok (.if_icmp .eq 601, 3) := by decide +kernel
theorem dL_law_758 : decode cL_law 758 = .ok (.iconst 0, 1) := by decide +kernel
theorem dL_law_759 : decode cL_law 759 = .ok (.ireturn, 1) := by decide +kernel
theorem dL_law_760 : decode cL_law 760 = .ok (.aload_n 1, 1) := by decide +kernel
theorem dL_law_761 : decode cL_law 761 = .ok (.aload_n 0, 1) := by decide +kernel
theorem dL_law_762 : decode cL_law 762 = .ok (.iload_n 3, 1) := by decide +kernel
theorem dL_law_763 : decode cL_law 763 = .ok (.iconst 1, 1) := by decide +kernel
theorem dL_law_764 : decode cL_law 764 = .ok (.iadd, 1) := by decide +kernel
theorem dL_law_765 : decode cL_law 765 = .ok (.iaload, 1) := by decide +kernel
theorem dL_law_766 : decode cL_law 766 = .ok (.aload_n 0, 1) := by decide +kernel
theorem dL_law_767 : decode cL_law 767 = .ok (.iload_n 3, 1) := by decide +kernel
theorem dL_law_768 : decode cL_law 768 = .ok (.iconst 2, 1) := by decide +kernel
theorem dL_law_769 : decode cL_law 769 = .ok (.iadd, 1) := by decide +kernel
theorem dL_law_770 : decode cL_law 770 = .ok (.iaload, 1) := by decide +kernel
theorem dL_law_771 : decode cL_law 771 = .ok (.invokevirtual 98, 3) := by decide +kernel
theorem dL_law_774 : decode cL_law 774 = .ok (.aload_n 2, 1) := by decide +kernel
theorem dL_law_775 : decode cL_law 775 = .ok (.aload_n 0, 1) := by decide +kernel
theorem dL_law_776 : decode cL_law 776 = .ok (.iload_n 3, 1) := by decide +kernel
theorem dL_law_777 : decode cL_law 777 = .ok (.iconst 1, 1) := by decide +kernel
theorem dL_law_778 : decode cL_law 778 = .ok (.iadd, 1) := by decide +kernel
theorem dL_law_779 : decode cL_law 779 = .ok (.iaload, 1) := by decide +kernel
theorem dL_law_780 : decode cL_law 780 = .ok (.aload_n 0, 1) := by decide +kernel
theorem dL_law_781 : decode cL_law 781 = .ok (.iload_n 3, 1) := by decide +kernel
theorem dL_law_782 : decode cL_law 782 = .ok (.iconst 2, 1) := by decide +kernel
theorem dL_law_783 : decode cL_law 783 = .ok (.iadd, 1) := by decide +kernel
theorem dL_law_784 : decode cL_law 784 = .ok (.iaload, 1) := by decide +kernel
theorem dL_law_785 : decode cL_law 785 = .ok (.invokevirtual 101, 3) := by decide +kernel
theorem dL_law_788 : decode cL_law 788 = .ok (.if_icmp .eq 568, 3) := by decide +kernel
theorem dL_law_791 : decode cL_law 791 = .ok (.iconst 0, 1) := by decide +kernel
theorem dL_law_792 : decode cL_law 792 = .ok (.ireturn, 1) := by decide +kernel
theorem dL_law_793 : decode cL_law 793 = .ok (.aload_n 1, 1) := by decide +kernel
theorem dL_law_794 : decode cL_law 794 = .ok (.aload_n 0, 1) := by decide +kernel
theorem dL_law_795 : decode cL_law 795 = .ok (.iload_n 3, 1) := by decide +kernel
theorem dL_law_796 : decode cL_law 796 = .ok (.iconst 1, 1) := by decide +kernel
theorem dL_law_797 : decode cL_law 797 = .ok (.iadd, 1) := by decide +kernel
theorem dL_law_798 : decode cL_law 798 = .ok (.iaload, 1) := by decide +kernel
theorem dL_law_799 : decode cL_law 799 = .ok (.aload_n 0, 1) := by decide +kernel
theorem dL_law_800 : decode cL_law 800 = .ok (.iload_n 3, 1) := by decide +kernel
theorem dL_law_801 : decode cL_law 801 = .ok (.iconst 2, 1) := by decide +kernel
theorem dL_law_802 : decode cL_law 802 = .ok (.iadd, 1) := by decide +kernel
theorem dL_law_803 : decode cL_law 803 = .ok (.iaload, 1) := by decide +kernel
theorem dL_law_804 : decode cL_law 804 = .ok (.invokevirtual 102, 3) := by decide +kernel
theorem dL_law_807 : decode cL_law 807 = .ok (.aload_n 2, 1) := by decide +kernel
theorem dL_law_808 : decode cL_law 808 = .ok (.aload_n 0, 1) := by decide +kernel
theorem dL_law_809 : decode cL_law 809 = .ok (.iload_n 3, 1) := by decide +kernel
theorem dL_law_810 : decode cL_law 810 = .ok (.iconst 1, 1) := by decide +kernel
theorem dL_law_811 : decode cL_law 811 = .ok (.iadd, 1) := by decide +kernel
theorem dL_law_812 : decode cL_law 812 = .ok (.iaload, 1) := by decide +kernel
theorem dL_law_813 : decode cL_law 813 = .ok (.aload_n 0, 1) := by decide +kernel
theorem dL_law_814 : decode cL_law 814 = .ok (.iload_n 3, 1) := by decide +kernel
theorem dL_law_815 : decode cL_law 815 = .ok (.iconst 2, 1) := by decide +kernel
theorem dL_law_816 : decode cL_law 816 = .ok (.iadd, 1) := by decide +kernel
theorem dL_law_817 : decode cL_law 817 = .ok (.iaload, 1) := by decide +kernel
theorem dL_law_818 : decode cL_law 818 = .ok (.invokevirtual 105, 3) := by decide +kernel
theorem dL_law_821 : decode cL_law 821 = .ok (.if_icmp .eq 535, 3) := by decide +kernel
theorem dL_law_824 : decode cL_law 824 = .ok (.iconst 0, 1) := by decide +kernel
theorem dL_law_825 : decode cL_law 825 = .ok (.ireturn, 1) := by decide +kernel
theorem dL_law_826 : decode cL_law 826 = .ok (.aload_n 1, 1) := by decide +kernel
theorem dL_law_827 : decode cL_law 827 = .ok (.invokevirtual 106, 3) := by decide +kernel
theorem dL_law_830 : decode cL_law 830 = .ok (.aload_n 2, 1) := by decide +kernel
theorem dL_law_831 : decode cL_law 831 = .ok (.invokevirtual 109, 3) := by decide +kernel
theorem dL_law_834 : decode cL_law 834 = .ok (.if_icmp .eq 522, 3) := by decide +kernel
theorem dL_law_837 : decode cL_law 837 = .ok (.iconst 0, 1) := by decide +kernel
theorem dL_law_838 : decode cL_law 838 = .ok (.ireturn, 1) := by decide +kernel
theorem dL_law_839 : decode cL_law 839 = .ok (.aload_n 1, 1) := by decide +kernel
theorem dL_law_840 : decode cL_law 840 = .ok (.aload_n 0, 1) := by decide +kernel
theorem dL_law_841 : decode cL_law 841 = .ok (.iload_n 3, 1) := by decide +kernel
theorem dL_law_842 : decode cL_law 842 = .ok (.iconst 1, 1) := by decide +kernel
theorem dL_law_843 : decode cL_law 843 = .ok (.iadd, 1) := by decide +kernel
theorem dL_law_844 : decode cL_law 844 = .ok (.iaload, 1) := by decide +kernel
theorem dL_law_845 : decode cL_law 845 = .ok (.invokevirtual 110, 3) := by decide +kernel
theorem dL_law_848 : decode cL_law 848 = .ok (.aload_n 2, 1) := by decide +kernel
theorem dL_law_849 : decode cL_law 849 = .ok (.aload_n 0, 1) := by decide +kernel
theorem dL_law_850 : decode cL_law 850 = .ok (.iload_n 3, 1) := by decide +kernel
theorem dL_law_851 : decode cL_law 851 = .ok (.iconst 1, 1) := by decide +kernel
theorem dL_law_852 : decode cL_law 852 = .ok (.iadd, 1) := by decide +kernel
theorem dL_law_853 : decode cL_law 853 = .ok (.iaload, 1) := by decide +kernel
theorem dL_law_854 : decode cL_law 854 = .ok (.invokevirtual 113, 3) := by decide +kernel
theorem dL_law_857 : decode cL_law 857 = .ok (.if_icmp .eq 499, 3) := by decide +kernel
theorem dL_law_860 : decode cL_law 860 = .ok (.iconst 0, 1) := by decide +kernel
theorem dL_law_861 : decode cL_law 861 = .ok (.ireturn, 1) := by decide +kernel
theorem dL_law_862 : decode cL_law 862 = .ok (.aload_n 1, 1) := by decide +kernel
theorem dL_law_863 : decode cL_law 863 = .ok (.aload_n 0, 1) := by decide +kernel
theorem dL_law_864 : decode cL_law 864 = .ok (.iload_n 3, 1) := by decide +kernel
theorem dL_law_865 : decode cL_law 865 = .ok (.iconst 1, 1) := by decide +kernel
theorem dL_law_866 : decode cL_law 866 = .ok (.iadd, 1) := by decide +kernel
theorem dL_law_867 : decode cL_law 867 = .ok (.iaload, 1) := by decide +kernel
theorem dL_law_868 : decode cL_law 868 = .ok (.aload_n 0, 1) := by decide +kernel
theorem dL_law_869 : decode cL_law 869 = .ok (.iload_n 3, 1) := by decide +kernel
theorem dL_law_870 : decode cL_law 870 = .ok (.iconst 2, 1) := by decide +kernel
theorem dL_law_871 : decode cL_law 871 = .ok (.iadd, 1) := by decide +kernel
theorem dL_law_872 : decode cL_law 872 = .ok (.iaload, 1) := by decide +kernel
theorem dL_law_873 : decode cL_law 873 = .ok (.invokevirtual 114, 3) := by decide +kernel
theorem dL_law_876 : decode cL_law 876 = .ok (.aload_n 2, 1) := by decide +kernel
theorem dL_law_877 : decode cL_law 877 = .ok (.aload_n 0, 1) := by decide +kernel
theorem dL_law_878 : decode cL_law 878 = .ok (.iload_n 3, 1) := by decide +kernel
theorem dL_law_879 : decode cL_law 879 = .ok (.iconst 1, 1) := by decide +kernel
theorem dL_law_880 : decode cL_law 880 = .ok (.iadd, 1) := by decide +kernel
theorem dL_law_881 : decode cL_law 881 = .ok (.iaload, 1) := by decide +kernel
theorem dL_law_882 : decode cL_law 882 = .ok (.aload_n 0, 1) := by decide +kernel
theorem dL_law_883 : decode cL_law 883 = .ok (.iload_n 3, 1) := by decide +kernel
theorem dL_law_884 : decode cL_law 884 = .ok (.iconst 2, 1) := by decide +kernel
theorem dL_law_885 : decode cL_law 885 = .ok (.iadd, 1) := by decide +kernel
theorem dL_law_886 : decode cL_law 886 = .ok (.iaload, 1) := by decide +kernel
theorem dL_law_887 : decode cL_law 887 = .ok (.invokevirtual 117, 3) := by decide +kernel
theorem dL_law_890 : decode cL_law 890 = .ok (.if_icmp .eq 466, 3) := by decide +kernel
theorem dL_law_893 : decode cL_law 893 = .ok (.iconst 0, 1) := by decide +kernel
theorem dL_law_894 : decode cL_law 894 = .ok (.ireturn, 1) := by decide +kernel
theorem dL_law_895 : decode cL_law 895 = .ok (.aload_n 1, 1) := by decide +kernel
theorem dL_law_896 : decode cL_law 896 = .ok (.aload_n 0, 1) := by decide +kernel
theorem dL_law_897 : decode cL_law 897 = .ok (.iload_n 3, 1) := by decide +kernel
theorem dL_law_898 : decode cL_law 898 = .ok (.iconst 1, 1) := by decide +kernel
theorem dL_law_899 : decode cL_law 899 = .ok (.iadd, 1) := by decide +kernel
theorem dL_law_900 : decode cL_law 900 = .ok (.iaload, 1) := by decide +kernel
theorem dL_law_901 : decode cL_law 901 = .ok (.invokevirtual 118, 3) := by decide +kernel
theorem dL_law_904 : decode cL_law 904 = .ok (.aload_n 2, 1) := by decide +kernel
theorem dL_law_905 : decode cL_law 905 = .ok (.aload_n 0, 1) := by decide +kernel
theorem dL_law_906 : decode cL_law 906 = .ok (.iload_n 3, 1) := by decide +kernel
theorem dL_law_907 : decode cL_law 907 = .ok (.iconst 1, 1) := by decide +kernel
theorem dL_law_908 : decode cL_law 908 = .ok (.iadd, 1) := by decide +kernel
theorem dL_law_909 : decode cL_law 909 = .ok (.iaload, 1) := by decide +kernel
theorem dL_law_910 : decode cL_law 910 = .ok (.invokevirtual 121, 3) := by decide +kernel
theorem dL_law_913 : decode cL_law 913 = .ok (.if_icmp .eq 443, 3) := by decide +kernel
theorem dL_law_916 : decode cL_law 916 = .ok (.iconst 0, 1) := by decide +kernel
theorem dL_law_917 : decode cL_law 917 = .ok (.ireturn, 1) := by decide +kernel
theorem dL_law_918 : decode cL_law 918 = .ok (.aload_n 1, 1) := by decide +kernel
theorem dL_law_919 : decode cL_law 919 = .ok (.aload_n 0, 1) := by decide +kernel
theorem dL_law_920 : decode cL_law 920 = .ok (.iload_n 3, 1) := by decide +kernel
theorem dL_law_921 : decode cL_law 921 = .ok (.iconst 1, 1) := by decide +kernel
theorem dL_law_922 : decode cL_law 922 = .ok (.iadd, 1) := by decide +kernel
theorem dL_law_923 : decode cL_law 923 = .ok (.iaload, 1) := by decide +kernel
theorem dL_law_924 : decode cL_law 924 = .ok (.invokevirtual 122, 3) := by decide +kernel
theorem dL_law_927 : decode cL_law 927 = .ok (.aload_n 2, 1) := by decide +kernel
theorem dL_law_928 : decode cL_law 928 = .ok (.aload_n 0, 1) := by decide +kernel
theorem dL_law_929 : decode cL_law 929 = .ok (.iload_n 3, 1) := by decide +kernel
theorem dL_law_930 : decode cL_law 930 = .ok (.iconst 1, 1) := by decide +kernel
theorem dL_law_931 : decode cL_law 931 = .ok (.iadd, 1) := by decide +kernel
theorem dL_law_932 : decode cL_law 932 = .ok (.iaload, 1) := by decide +kernel
theorem dL_law_933 : decode cL_law 933 = .ok (.invokevirtual 125, 3) := by decide +kernel
theorem dL_law_936 : decode cL_law 936 = .ok (.if_icmp .eq 420, 3) := by decide +kernel
theorem dL_law_939 : decode cL_law 939 = .ok (.iconst 0, 1) := by decide +kernel
theorem dL_law_940 : decode cL_law 940 = .ok (.ireturn, 1) := by decide +kernel
theorem dL_law_941 : decode cL_law 941 = .ok (.aload_n 1, 1) := by decide +kernel
theorem dL_law_942 : decode cL_law 942 = .ok (.aload_n 0, 1) := by decide +kernel
theorem dL_law_943 : decode cL_law 943 = .ok (.iload_n 3, 1) := by decide +kernel
theorem dL_law_944 : decode cL_law 944 = .ok (.iconst 1, 1) := by decide +kernel
theorem dL_law_945 : decode cL_law 945 = .ok (.iadd, 1) := by decide +kernel
theorem dL_law_946 : decode cL_law 946 = .ok (.iaload, 1) := by decide +kernel
theorem dL_law_947 : decode cL_law 947 = .ok (.aload_n 0, 1) := by decide +kernel
theorem dL_law_948 : decode cL_law 948 = .ok (.iload_n 3, 1) := by decide +kernel
theorem dL_law_949 : decode cL_law 949 = .ok (.iconst 2, 1) := by decide +kernel
theorem dL_law_950 : decode cL_law 950 = .ok (.iadd, 1) := by decide +kernel
theorem dL_law_951 : decode cL_law 951 = .ok (.iaload, 1) := by decide +kernel
theorem dL_law_952 : decode cL_law 952 = .ok (.aload_n 0, 1) := by decide +kernel
theorem dL_law_953 : decode cL_law 953 = .ok (.iload_n 3, 1) := by decide +kernel
theorem dL_law_954 : decode cL_law 954 = .ok (.iconst 3, 1) := by decide +kernel
theorem dL_law_955 : decode cL_law 955 = .ok (.iadd, 1) := by decide +kernel
theorem dL_law_956 : decode cL_law 956 = .ok (.iaload, 1) := by decide +kernel
theorem dL_law_957 : decode cL_law 957 = .ok (.invokevirtual 126, 3) := by decide +kernel
theorem dL_law_960 : decode cL_law 960 = .ok (.aload_n 2, 1) := by decide +kernel
theorem dL_law_961 : decode cL_law 961 = .ok (.aload_n 0, 1) := by decide +kernel
theorem dL_law_962 : decode cL_law 962 = .ok (.iload_n 3, 1) := by decide +kernel
theorem dL_law_963 : decode cL_law 963 = .ok (.iconst 1, 1) := by decide +kernel
theorem dL_law_964 : decode cL_law 964 = .ok (.iadd, 1) := by decide +kernel
theorem dL_law_965 : decode cL_law 965 = .ok (.iaload, 1) := by decide +kernel
theorem dL_law_966 : decode cL_law 966 = .ok (.aload_n 0, 1) := by decide +kernel
theorem dL_law_967 : decode cL_law 967 = .ok (.iload_n 3, 1) := by decide +kernel
theorem dL_law_968 : decode cL_law 968 = .ok (.iconst 2, 1) := by decide +kernel
theorem dL_law_969 : decode cL_law 969 = .ok (.iadd, 1) := by decide +kernel
theorem dL_law_970 : decode cL_law 970 = .ok (.iaload, 1) := by decide +kernel
theorem dL_law_971 : decode cL_law 971 = .ok (.aload_n 0, 1) := by decide +kernel
theorem dL_law_972 : decode cL_law 972 = .ok (.iload_n 3, 1) := by decide +kernel
theorem dL_law_973 : decode cL_law 973 = .ok (.iconst 3, 1) := by decide +kernel
theorem dL_law_974 : decode cL_law 974 = .ok (.iadd, 1) := by decide +kernel
theorem dL_law_975 : decode cL_law 975 = .ok (.iaload, 1) := by decide +kernel
theorem dL_law_976 : decode cL_law 976 = .ok (.invokevirtual 130, 3) := by decide +kernel
theorem dL_law_979 : decode cL_law 979 = .ok (.lcmp, 1) := by decide +kernel
theorem dL_law_980 : decode cL_law 980 = .ok (.ifCond .eq 376, 3) := by decide +kernel
theorem dL_law_983 : decode cL_law 983 = .ok (.iconst 0, 1) := by decide +kernel
theorem dL_law_984 : decode cL_law 984 = .ok (.ireturn, 1) := by decide +kernel
theorem dL_law_985 : decode cL_law 985 = .ok (.aload_n 1, 1) := by decide +kernel
theorem dL_law_986 : decode cL_law 986 = .ok (.aload_n 0, 1) := by decide +kernel
theorem dL_law_987 : decode cL_law 987 = .ok (.iload_n 3, 1) := by decide +kernel
theorem dL_law_988 : decode cL_law 988 = .ok (.iconst 1, 1) := by decide +kernel
theorem dL_law_989 : decode cL_law 989 = .ok (.iadd, 1) := by decide +kernel
theorem dL_law_990 : decode cL_law 990 = .ok (.iaload, 1) := by decide +kernel
theorem dL_law_991 : decode cL_law 991 = .ok (.aload_n 0, 1) := by decide +kernel
theorem dL_law_992 : decode cL_law 992 = .ok (.iload_n 3, 1) := by decide +kernel
theorem dL_law_993 : decode cL_law 993 = .ok (.iconst 2, 1) := by decide +kernel
theorem dL_law_994 : decode cL_law 994 = .ok (.iadd, 1) := by decide +kernel
theorem dL_law_995 : decode cL_law 995 = .ok (.iaload, 1) := by decide +kernel
theorem dL_law_996 : decode cL_law 996 = .ok (.invokevirtual 131, 3) := by decide +kernel
theorem dL_law_999 : decode cL_law 999 = .ok (.aload_n 2, 1) := by decide +kernel
theorem dL_law_1000 : decode cL_law 1000 = .ok (.aload_n 0, 1) := by decide +kernel
theorem dL_law_1001 : decode cL_law 1001 = .ok (.iload_n 3, 1) := by decide +kernel
theorem dL_law_1002 : decode cL_law 1002 = .ok (.iconst 1, 1) := by decide +kernel
theorem dL_law_1003 : decode cL_law 1003 = .ok (.iadd, 1) := by decide +kernel
theorem dL_law_1004 : decode cL_law 1004 = .ok (.iaload, 1) := by decide +kernel
theorem dL_law_1005 : decode cL_law 1005 = .ok (.aload_n 0, 1) := by decide +kernel
theorem dL_law_1006 : decode cL_law 1006 = .ok (.iload_n 3, 1) := by decide +kernel
theorem dL_law_1007 : decode cL_law 1007 = .ok (.iconst 2, 1) := by decide +kernel
theorem dL_law_1008 : decode cL_law 1008 = .ok (.iadd, 1) := by decide +kernel
theorem dL_law_1009 : decode cL_law 1009 = .ok (.iaload, 1) := by decide +kernel
theorem dL_law_1010 : decode cL_law 1010 = .ok (.invokevirtual 134, 3) := by decide +kernel
theorem dL_law_1013 : decode cL_law 1013 = .ok (.if_icmp .eq 343, 3) := by decide +kernel
theorem dL_law_1016 : decode cL_law 1016 = .ok (.iconst 0, 1) := by decide +kernel
theorem dL_law_1017 : decode cL_law 1017 = .ok (.ireturn, 1) := by decide +kernel
theorem dL_law_1018 : decode cL_law 1018 = .ok (.aload_n 1, 1) := by decide +kernel
theorem dL_law_1019 : decode cL_law 1019 = .ok (.aload_n 0, 1) := by decide +kernel
theorem dL_law_1020 : decode cL_law 1020 = .ok (.iload_n 3, 1) := by decide +kernel
theorem dL_law_1021 : decode cL_law 1021 = .ok (.iconst 1, 1) := by decide +kernel
theorem dL_law_1022 : decode cL_law 1022 = .ok (.iadd, 1) := by decide +kernel
theorem dL_law_1023 : decode cL_law 1023 = .ok (.iaload, 1) := by decide +kernel
theorem dL_law_1024 : decode cL_law 1024 = .ok (.aload_n 0, 1) := by decide +kernel
theorem dL_law_1025 : decode cL_law 1025 = .ok (.iload_n 3, 1) := by decide +kernel
theorem dL_law_1026 : decode cL_law 1026 = .ok (.iconst 2, 1) := by decide +kernel
theorem dL_law_1027 : decode cL_law 1027 = .ok (.iadd, 1) := by decide +kernel
theorem dL_law_1028 : decode cL_law 1028 = .ok (.iaload, 1) := by decide +kernel
theorem dL_law_1029 : decode cL_law 1029 = .ok (.aload_n 0, 1) := by decide +kernel
theorem dL_law_1030 : decode cL_law 1030 = .ok (.iload_n 3, 1) := by decide +kernel
theorem dL_law_1031 : decode cL_law 1031 = .ok (.iconst 3, 1) := by decide +kernel
theorem dL_law_1032 : decode cL_law 1032 = .ok (.iadd, 1) := by decide +kernel
theorem dL_law_1033 : decode cL_law 1033 = .ok (.iaload, 1) := by decide +kernel
theorem dL_law_1034 : decode cL_law 1034 = .ok (.invokevirtual 135, 3) := by decide +kernel
theorem dL_law_1037 : decode cL_law 1037 = .ok (.aload_n 2, 1) := by decide +kernel
theorem dL_law_1038 : decode cL_law 1038 = .ok (.aload_n 0, 1) := by decide +kernel
theorem dL_law_1039 : decode cL_law 1039 = .ok (.iload_n 3, 1) := by decide +kernel
theorem dL_law_1040 : decode cL_law 1040 = .ok (.iconst 1, 1) := by decide +kernel
theorem dL_law_1041 : decode cL_law 1041 = .ok (.iadd, 1) := by decide +kernel
theorem dL_law_1042 : decode cL_law 1042 = .ok (.iaload, 1) := by decide +kernel
theorem dL_law_1043 : decode cL_law 1043 = .ok (.aload_n 0, 1) := by decide +kernel
theorem dL_law_1044 : decode cL_law 1044 = .ok (.iload_n 3, 1) := by decide +kernel
theorem dL_law_1045 : decode cL_law 1045 = .ok (.iconst 2, 1) := by decide +kernel
theorem dL_law_1046 : decode cL_law 1046 = .ok (.iadd, 1) := by decide +kernel
theorem dL_law_1047 : decode cL_law 1047 = .ok (.iaload, 1) := by decide +kernel
theorem dL_law_1048 : decode cL_law 1048 = .ok (.aload_n 0, 1) := by decide +kernel
theorem dL_law_1049 : decode cL_law 1049 = .ok (.iload_n 3, 1) := by decide +kernel
theorem dL_law_1050 : decode cL_law 1050 = .ok (.iconst 3, 1) := by decide +kernel
theorem dL_law_1051 : decode cL_law 1051 = .ok (.iadd, 1) := by decide +kernel
theorem dL_law_1052 : decode cL_law 1052 = .ok (.iaload, 1) := by decide +kernel
theorem dL_law_1053 : decode cL_law 1053 = .ok (.invokevirtual 138, 3) := by decide +kernel
theorem dL_law_1056 : decode cL_law 1056 = .ok (.if_icmp .eq 300, 3) := by decide +kernel
theorem dL_law_1059 : decode cL_law 1059 = .ok (.iconst 0, 1) := by decide +kernel
theorem dL_law_1060 : decode cL_law 1060 = .ok (.ireturn, 1) := by decide +kernel
theorem dL_law_1061 : decode cL_law 1061 = .ok (.aload_n 1, 1) := by decide +kernel
theorem dL_law_1062 : decode cL_law 1062 = .ok (.aload_n 0, 1) := by decide +kernel
theorem dL_law_1063 : decode cL_law 1063 = .ok (.iload_n 3, 1) := by decide +kernel
theorem dL_law_1064 : decode cL_law 1064 = .ok (.iconst 1, 1) := by decide +kernel
theorem dL_law_1065 : decode cL_law 1065 = .ok (.iadd, 1) := by decide +kernel
theorem dL_law_1066 : decode cL_law 1066 = .ok (.iaload, 1) := by decide +kernel
theorem dL_law_1067 : decode cL_law 1067 = .ok (.aload_n 0, 1) := by decide +kernel
theorem dL_law_1068 : decode cL_law 1068 = .ok (.iload_n 3, 1) := by decide +kernel
theorem dL_law_1069 : decode cL_law 1069 = .ok (.iconst 2, 1) := by decide +kernel
theorem dL_law_1070 : decode cL_law 1070 = .ok (.iadd, 1) := by decide +kernel
theorem dL_law_1071 : decode cL_law 1071 = .ok (.iaload, 1) := by decide +kernel
theorem dL_law_1072 : decode cL_law 1072 = .ok (.aload_n 0, 1) := by decide +kernel
theorem dL_law_1073 : decode cL_law 1073 = .ok (.iload_n 3, 1) := by decide +kernel
theorem dL_law_1074 : decode cL_law 1074 = .ok (.iconst 3, 1) := by decide +kernel
theorem dL_law_1075 : decode cL_law 1075 = .ok (.iadd, 1) := by decide +kernel
theorem dL_law_1076 : decode cL_law 1076 = .ok (.iaload, 1) := by decide +kernel
theorem dL_law_1077 : decode cL_law 1077 = .ok (.invokevirtual 139, 3) := by decide +kernel
theorem dL_law_1080 : decode cL_law 1080 = .ok (.aload_n 2, 1) := by decide +kernel
theorem dL_law_1081 : decode cL_law 1081 = .ok (.aload_n 0, 1) := by decide +kernel
theorem dL_law_1082 : decode cL_law 1082 = .ok (.iload_n 3, 1) := by decide +kernel
theorem dL_law_1083 : decode cL_law 1083 = .ok (.iconst 1, 1) := by decide +kernel
theorem dL_law_1084 : decode cL_law 1084 = .ok (.iadd, 1) := by decide +kernel
theorem dL_law_1085 : decode cL_law 1085 = .ok (.iaload, 1) := by decide +kernel
theorem dL_law_1086 : decode cL_law 1086 = .ok (.aload_n 0, 1) := by decide +kernel
theorem dL_law_1087 : decode cL_law 1087 = .ok (.iload_n 3, 1) := by decide +kernel
theorem dL_law_1088 : decode cL_law 1088 = .ok (.iconst 2, 1) := by decide +kernel
theorem dL_law_1089 : decode cL_law 1089 = .ok (.iadd, 1) := by decide +kernel
theorem dL_law_1090 : decode cL_law 1090 = .ok (.iaload, 1) := by decide +kernel
theorem dL_law_1091 : decode cL_law 1091 = .ok (.aload_n 0, 1) := by decide +kernel
theorem dL_law_1092 : decode cL_law 1092 = .ok (.iload_n 3, 1) := by decide +kernel
theorem dL_law_1093 : decode cL_law 1093 = .ok (.iconst 3, 1) := by decide +kernel
theorem dL_law_1094 : decode cL_law 1094 = .ok (.iadd, 1) := by decide +kernel
theorem dL_law_1095 : decode cL_law 1095 = .ok (.iaload, 1) := by decide +kernel
theorem dL_law_1096 : decode cL_law 1096 = .ok (.invokevirtual 142, 3) := by decide +kernel
theorem dL_law_1099 : decode cL_law 1099 = .ok (.if_icmp .eq 257, 3) := by decide +kernel
theorem dL_law_1102 : decode cL_law 1102 = .ok (.iconst 0, 1) := by decide +kernel
theorem dL_law_1103 : decode cL_law 1103 = .ok (.ireturn, 1) := by decide +kernel
theorem dL_law_1104 : decode cL_law 1104 = .ok (.aload_n 1, 1) := by decide +kernel
theorem dL_law_1105 : decode cL_law 1105 = .ok (.aload_n 0, 1) := by decide +kernel
theorem dL_law_1106 : decode cL_law 1106 = .ok (.iload_n 3, 1) := by decide +kernel
theorem dL_law_1107 : decode cL_law 1107 = .ok (.iconst 1, 1) := by decide +kernel
theorem dL_law_1108 : decode cL_law 1108 = .ok (.iadd, 1) := by decide +kernel
theorem dL_law_1109 : decode cL_law 1109 = .ok (.iaload, 1) := by decide +kernel
theorem dL_law_1110 : decode cL_law 1110 = .ok (.invokevirtual 143, 3) := by decide +kernel
theorem dL_law_1113 : decode cL_law 1113 = .ok (.aload_n 2, 1) := by decide +kernel
theorem dL_law_1114 : decode cL_law 1114 = .ok (.aload_n 0, 1) := by decide +kernel
theorem dL_law_1115 : decode cL_law 1115 = .ok (.iload_n 3, 1) := by decide +kernel
theorem dL_law_1116 : decode cL_law 1116 = .ok (.iconst 1, 1) := by decide +kernel
theorem dL_law_1117 : decode cL_law 1117 = .ok (.iadd, 1) := by decide +kernel
theorem dL_law_1118 : decode cL_law 1118 = .ok (.iaload, 1) := by decide +kernel
theorem dL_law_1119 : decode cL_law 1119 = .ok (.invokevirtual 146, 3) := by decide +kernel
theorem dL_law_1122 : decode cL_law 1122 = .ok (.if_icmp .eq 234, 3) := by decide +kernel
theorem dL_law_1125 : decode cL_law 1125 = .ok (.iconst 0, 1) := by decide +kernel
theorem dL_law_1126 : decode cL_law 1126 = .ok (.ireturn, 1) := by decide +kernel
theorem dL_law_1127 : decode cL_law 1127 = .ok (.aload_n 1, 1) := by decide +kernel
theorem dL_law_1128 : decode cL_law 1128 = .ok (.aload_n 0, 1) := by decide +kernel
theorem dL_law_1129 : decode cL_law 1129 = .ok (.iload_n 3, 1) := by decide +kernel
theorem dL_law_1130 : decode cL_law 1130 = .ok (.iconst 1, 1) := by decide +kernel
theorem dL_law_1131 : decode cL_law 1131 = .ok (.iadd, 1) := by decide +kernel
theorem dL_law_1132 : decode cL_law 1132 = .ok (.iaload, 1) := by decide +kernel
theorem dL_law_1133 : decode cL_law 1133 = .ok (.aload_n 0, 1) := by decide +kernel
theorem dL_law_1134 : decode cL_law 1134 = .ok (.iload_n 3, 1) := by decide +kernel
theorem dL_law_1135 : decode cL_law 1135 = .ok (.iconst 2, 1) := by decide +kernel
theorem dL_law_1136 : decode cL_law 1136 = .ok (.iadd, 1) := by decide +kernel
theorem dL_law_1137 : decode cL_law 1137 = .ok (.iaload, 1) := by decide +kernel
theorem dL_law_1138 : decode cL_law 1138 = .ok (.aload_n 0, 1) := by decide +kernel
theorem dL_law_1139 : decode cL_law 1139 = .ok (.iload_n 3, 1) := by decide +kernel
theorem dL_law_1140 : decode cL_law 1140 = .ok (.iconst 3, 1) := by decide +kernel
theorem dL_law_1141 : decode cL_law 1141 = .ok (.iadd, 1) := by decide +kernel
theorem dL_law_1142 : decode cL_law 1142 = .ok (.iaload, 1) := by decide +kernel
theorem dL_law_1143 : decode cL_law 1143 = .ok (.aload_n 0, 1) := by decide +kernel
theorem dL_law_1144 : decode cL_law 1144 = .ok (.iload_n 3, 1) := by decide +kernel
theorem dL_law_1145 : decode cL_law 1145 = .ok (.iconst 4, 1) := by decide +kernel
theorem dL_law_1146 : decode cL_law 1146 = .ok (.iadd, 1) := by decide +kernel
theorem dL_law_1147 : decode cL_law 1147 = .ok (.iaload, 1) := by decide +kernel
theorem dL_law_1148 : decode cL_law 1148 = .ok (.invokevirtual 147, 3) := by decide +kernel
theorem dL_law_1151 : decode cL_law 1151 = .ok (.aload_n 2, 1) := by decide +kernel
theorem dL_law_1152 : decode cL_law 1152 = .ok (.aload_n 0, 1) := by decide +kernel
theorem dL_law_1153 : decode cL_law 1153 = .ok (.iload_n 3, 1) := by decide +kernel
theorem dL_law_1154 : decode cL_law 1154 = .ok (.iconst 1, 1) := by decide +kernel
theorem dL_law_1155 : decode cL_law 1155 = .ok (.iadd, 1) := by decide +kernel
theorem dL_law_1156 : decode cL_law 1156 = .ok (.iaload, 1) := by decide +kernel
theorem dL_law_1157 : decode cL_law 1157 = .ok (.aload_n 0, 1) := by decide +kernel
theorem dL_law_1158 : decode cL_law 1158 = .ok (.iload_n 3, 1) := by decide +kernel
theorem dL_law_1159 : decode cL_law 1159 = .ok (.iconst 2, 1) := by decide +kernel
theorem dL_law_1160 : decode cL_law 1160 = .ok (.iadd, 1) := by decide +kernel
theorem dL_law_1161 : decode cL_law 1161 = .ok (.iaload, 1) := by decide +kernel
theorem dL_law_1162 : decode cL_law 1162 = .ok (.aload_n 0, 1) := by decide +kernel
theorem dL_law_1163 : decode cL_law 1163 = .ok (.iload_n 3, 1) := by decide +kernel
theorem dL_law_1164 : decode cL_law 1164 = .ok (.iconst 3, 1) := by decide +kernel
theorem dL_law_1165 : decode cL_law 1165 = .ok (.iadd, 1) := by decide +kernel
theorem dL_law_1166 : decode cL_law 1166 = .ok (.iaload, 1) := by decide +kernel
theorem dL_law_1167 : decode cL_law 1167 = .ok (.aload_n 0, 1) := by decide +kernel
theorem dL_law_1168 : decode cL_law 1168 = .ok (.iload_n 3, 1) := by decide +kernel
theorem dL_law_1169 : decode cL_law 1169 = .ok (.iconst 4, 1) := by decide +kernel
theorem dL_law_1170 : decode cL_law 1170 = .ok (.iadd, 1) := by decide +kernel
theorem dL_law_1171 : decode cL_law 1171 = .ok (.iaload, 1) := by decide +kernel
theorem dL_law_1172 : decode cL_law 1172 = .ok (.invokevirtual 150, 3) := by decide +kernel
theorem dL_law_1175 : decode cL_law 1175 = .ok (.if_icmp .eq 181, 3) := by decide +kernel
theorem dL_law_1178 : decode cL_law 1178 = .ok (.iconst 0, 1) := by decide +kernel
theorem dL_law_1179 : decode cL_law 1179 = .ok (.ireturn, 1) := by decide +kernel
theorem dL_law_1180 : decode cL_law 1180 = .ok (.aload_n 1, 1) := by decide +kernel
theorem dL_law_1181 : decode cL_law 1181 = .ok (.aload_n 0, 1) := by decide +kernel
theorem dL_law_1182 : decode cL_law 1182 = .ok (.iload_n 3, 1) := by decide +kernel
theorem dL_law_1183 : decode cL_law 1183 = .ok (.iconst 1, 1) := by decide +kernel
theorem dL_law_1184 : decode cL_law 1184 = .ok (.iadd, 1) := by decide +kernel
theorem dL_law_1185 : decode cL_law 1185 = .ok (.iaload, 1) := by decide +kernel
theorem dL_law_1186 : decode cL_law 1186 = .ok (.aload_n 0, 1) := by decide +kernel
theorem dL_law_1187 : decode cL_law 1187 = .ok (.iload_n 3, 1) := by decide +kernel
theorem dL_law_1188 : decode cL_law 1188 = .ok (.iconst 2, 1) := by decide +kernel
theorem dL_law_1189 : decode cL_law 1189 = .ok (.iadd, 1) := by decide +kernel
theorem dL_law_1190 : decode cL_law 1190 = .ok (.iaload, 1) := by decide +kernel
theorem dL_law_1191 : decode cL_law 1191 = .ok (.aload_n 0, 1) := by decide +kernel
theorem dL_law_1192 : decode cL_law 1192 = .ok (.iload_n 3, 1) := by decide +kernel
theorem dL_law_1193 : decode cL_law 1193 = .ok (.iconst 3, 1) := by decide +kernel
theorem dL_law_1194 : decode cL_law 1194 = .ok (.iadd, 1) := by decide +kernel
theorem dL_law_1195 : decode cL_law 1195 = .ok (.iaload, 1) := by decide +kernel
theorem dL_law_1196 : decode cL_law 1196 = .ok (.invokevirtual 151, 3) := by decide +kernel
theorem dL_law_1199 : decode cL_law 1199 = .ok (.aload_n 2, 1) := by decide +kernel
theorem dL_law_1200 : decode cL_law 1200 = .ok (.aload_n 0, 1) := by decide +kernel
theorem dL_law_1201 : decode cL_law 1201 = .ok (.iload_n 3, 1) := by decide +kernel
theorem dL_law_1202 : decode cL_law 1202 = .ok (.iconst 1, 1) := by decide +kernel
theorem dL_law_1203 : decode cL_law 1203 = .ok (.iadd, 1) := by decide +kernel
theorem dL_law_1204 : decode cL_law 1204 = .ok (.iaload, 1) := by decide +kernel
theorem dL_law_1205 : decode cL_law 1205 = .ok (.aload_n 0, 1) := by decide +kernel
theorem dL_law_1206 : decode cL_law 1206 = .ok (.iload_n 3, 1) := by decide +kernel
theorem dL_law_1207 : decode cL_law 1207 = .ok (.iconst 2, 1) := by decide +kernel
theorem dL_law_1208 : decode cL_law 1208 = .ok (.iadd, 1) := by decide +kernel
theorem dL_law_1209 : decode cL_law 1209 = .ok (.iaload, 1) := by decide +kernel
theorem dL_law_1210 : decode cL_law 1210 = .ok (.aload_n 0, 1) := by decide +kernel
theorem dL_law_1211 : decode cL_law 1211 = .ok (.iload_n 3, 1) := by decide +kernel
theorem dL_law_1212 : decode cL_law 1212 = .ok (.iconst 3, 1) := by decide +kernel
theorem dL_law_1213 : decode cL_law 1213 = .ok (.iadd, 1) := by decide +kernel
theorem dL_law_1214 : decode cL_law 1214 = .ok (.iaload, 1) := by decide +kernel
theorem dL_law_1215 : decode cL_law 1215 = .ok (.invokevirtual 154, 3) := by decide +kernel
theorem dL_law_1218 : decode cL_law 1218 = .ok (.if_icmp .eq 138, 3) := by decide +kernel
theorem dL_law_1221 : decode cL_law 1221 = .ok (.iconst 0, 1) := by decide +kernel
theorem dL_law_1222 : decode cL_law 1222 = .ok (.ireturn, 1) := by decide +kernel
theorem dL_law_1223 : decode cL_law 1223 = .ok (.aload_n 1, 1) := by decide +kernel
theorem dL_law_1224 : decode cL_law 1224 = .ok (.aload_n 0, 1) := by decide +kernel
theorem dL_law_1225 : decode cL_law 1225 = .ok (.iload_n 3, 1) := by decide +kernel
theorem dL_law_1226 : decode cL_law 1226 = .ok (.iconst 1, 1) := by decide +kernel
theorem dL_law_1227 : decode cL_law 1227 = .ok (.iadd, 1) := by decide +kernel
theorem dL_law_1228 : decode cL_law 1228 = .ok (.iaload, 1) := by decide +kernel
theorem dL_law_1229 : decode cL_law 1229 = .ok (.aload_n 0, 1) := by decide +kernel
theorem dL_law_1230 : decode cL_law 1230 = .ok (.iload_n 3, 1) := by decide +kernel
theorem dL_law_1231 : decode cL_law 1231 = .ok (.iconst 2, 1) := by decide +kernel
theorem dL_law_1232 : decode cL_law 1232 = .ok (.iadd, 1) := by decide +kernel
theorem dL_law_1233 : decode cL_law 1233 = .ok (.iaload, 1) := by decide +kernel
theorem dL_law_1234 : decode cL_law 1234 = .ok (.aload_n 0, 1) := by decide +kernel
theorem dL_law_1235 : decode cL_law 1235 = .ok (.iload_n 3, 1) := by decide +kernel
theorem dL_law_1236 : decode cL_law 1236 = .ok (.iconst 3, 1) := by decide +kernel
theorem dL_law_1237 : decode cL_law 1237 = .ok (.iadd, 1) := by decide +kernel
theorem dL_law_1238 : decode cL_law 1238 = .ok (.iaload, 1) := by decide +kernel
theorem dL_law_1239 : decode cL_law 1239 = .ok (.aload_n 0, 1) := by decide +kernel
theorem dL_law_1240 : decode cL_law 1240 = .ok (.iload_n 3, 1) := by decide +kernel
theorem dL_law_1241 : decode cL_law 1241 = .ok (.iconst 4, 1) := by decide +kernel
theorem dL_law_1242 : decode cL_law 1242 = .ok (.iadd, 1) := by decide +kernel
theorem dL_law_1243 : decode cL_law 1243 = .ok (.iaload, 1) := by decide +kernel
theorem dL_law_1244 : decode cL_law 1244 = .ok (.aload_n 0, 1) := by decide +kernel
theorem dL_law_1245 : decode cL_law 1245 = .ok (.iload_n 3, 1) := by decide +kernel
theorem dL_law_1246 : decode cL_law 1246 = .ok (.iconst 5, 1) := by decide +kernel
theorem dL_law_1247 : decode cL_law 1247 = .ok (.iadd, 1) := by decide +kernel
theorem dL_law_1248 : decode cL_law 1248 = .ok (.iaload, 1) := by decide +kernel
theorem dL_law_1249 : decode cL_law 1249 = .ok (.invokevirtual 155, 3) := by decide +kernel
theorem dL_law_1252 : decode cL_law 1252 = .ok (.aload_n 2, 1) := by decide +kernel
theorem dL_law_1253 : decode cL_law 1253 = .ok (.aload_n 0, 1) := by decide +kernel
theorem dL_law_1254 : decode cL_law 1254 = .ok (.iload_n 3, 1) := by decide +kernel
theorem dL_law_1255 : decode cL_law 1255 = .ok (.iconst 1, 1) := by decide +kernel
theorem dL_law_1256 : decode cL_law 1256 = .ok (.iadd, 1) := by decide +kernel
theorem dL_law_1257 : decode cL_law 1257 = .ok (.iaload, 1) := by decide +kernel
theorem dL_law_1258 : decode cL_law 1258 = .ok (.aload_n 0, 1) := by decide +kernel
theorem dL_law_1259 : decode cL_law 1259 = .ok (.iload_n 3, 1) := by decide +kernel
theorem dL_law_1260 : decode cL_law 1260 = .ok (.iconst 2, 1) := by decide +kernel
theorem dL_law_1261 : decode cL_law 1261 = .ok (.iadd, 1) := by decide +kernel
theorem dL_law_1262 : decode cL_law 1262 = .ok (.iaload, 1) := by decide +kernel
theorem dL_law_1263 : decode cL_law 1263 = .ok (.aload_n 0, 1) := by decide +kernel
theorem dL_law_1264 : decode cL_law 1264 = .ok (.iload_n 3, 1) := by decide +kernel
theorem dL_law_1265 : decode cL_law 1265 = .ok (.iconst 3, 1) := by decide +kernel
theorem dL_law_1266 : decode cL_law 1266 = .ok (.iadd, 1) := by decide +kernel
theorem dL_law_1267 : decode cL_law 1267 = .ok (.iaload, 1) := by decide +kernel
theorem dL_law_1268 : decode cL_law 1268 = .ok (.aload_n 0, 1) := by decide +kernel
theorem dL_law_1269 : decode cL_law 1269 = .ok (.iload_n 3, 1) := by decide +kernel
theorem dL_law_1270 : decode cL_law 1270 = .ok (.iconst 4, 1) := by decide +kernel
theorem dL_law_1271 : decode cL_law 1271 = .ok (.iadd, 1) := by decide +kernel
theorem dL_law_1272 : decode cL_law 1272 = .ok (.iaload, 1) := by decide +kernel
theorem dL_law_1273 : decode cL_law 1273 = .ok (.aload_n 0, 1) := by decide +kernel
theorem dL_law_1274 : decode cL_law 1274 = .ok (.iload_n 3, 1) := by decide +kernel
theorem dL_law_1275 : decode cL_law 1275 = .ok (.iconst 5, 1) := by decide +kernel
theorem dL_law_1276 : decode cL_law 1276 = .ok (.iadd, 1) := by decide +kernel
theorem dL_law_1277 : decode cL_law 1277 = .ok (.iaload, 1) := by decide +kernel
theorem dL_law_1278 : decode cL_law 1278 = .ok (.invokevirtual 159, 3) := by decide +kernel
theorem dL_law_1281 : decode cL_law 1281 = .ok (.if_icmp .eq 75, 3) := by decide +kernel
theorem dL_law_1284 : decode cL_law 1284 = .ok (.iconst 0, 1) := by decide +kernel
theorem dL_law_1285 : decode cL_law 1285 = .ok (.ireturn, 1) := by decide +kernel
theorem dL_law_1286 : decode cL_law 1286 = .ok (.aload_n 1, 1) := by decide +kernel
theorem dL_law_1287 : decode cL_law 1287 = .ok (.aload_n 0, 1) := by decide +kernel
theorem dL_law_1288 : decode cL_law 1288 = .ok (.iload_n 3, 1) := by decide +kernel
theorem dL_law_1289 : decode cL_law 1289 = .ok (.iconst 1, 1) := by decide +kernel
theorem dL_law_1290 : decode cL_law 1290 = .ok (.iadd, 1) := by decide +kernel
theorem dL_law_1291 : decode cL_law 1291 = .ok (.iaload, 1) := by decide +kernel
theorem dL_law_1292 : decode cL_law 1292 = .ok (.aload_n 0, 1) := by decide +kernel
theorem dL_law_1293 : decode cL_law 1293 = .ok (.iload_n 3, 1) := by decide +kernel
theorem dL_law_1294 : decode cL_law 1294 = .ok (.iconst 2, 1) := by decide +kernel
theorem dL_law_1295 : decode cL_law 1295 = .ok (.iadd, 1) := by decide +kernel
theorem dL_law_1296 : decode cL_law 1296 = .ok (.iaload, 1) := by decide +kernel
theorem dL_law_1297 : decode cL_law 1297 = .ok (.invokevirtual 160, 3) := by decide +kernel
theorem dL_law_1300 : decode cL_law 1300 = .ok (.aload_n 2, 1) := by decide +kernel
theorem dL_law_1301 : decode cL_law 1301 = .ok (.aload_n 0, 1) := by decide +kernel
theorem dL_law_1302 : decode cL_law 1302 = .ok (.iload_n 3, 1) := by decide +kernel
theorem dL_law_1303 : decode cL_law 1303 = .ok (.iconst 1, 1) := by decide +kernel
theorem dL_law_1304 : decode cL_law 1304 = .ok (.iadd, 1) := by decide +kernel
theorem dL_law_1305 : decode cL_law 1305 = .ok (.iaload, 1) := by decide +kernel
theorem dL_law_1306 : decode cL_law 1306 = .ok (.aload_n 0, 1) := by decide +kernel
theorem dL_law_1307 : decode cL_law 1307 = .ok (.iload_n 3, 1) := by decide +kernel
theorem dL_law_1308 : decode cL_law 1308 = .ok (.iconst 2, 1) := by decide +kernel
theorem dL_law_1309 : decode cL_law 1309 = .ok (.iadd, 1) := by decide +kernel
theorem dL_law_1310 : decode cL_law 1310 = .ok (.iaload, 1) := by decide +kernel
theorem dL_law_1311 : decode cL_law 1311 = .ok (.invokevirtual 163, 3) := by decide +kernel
theorem dL_law_1314 : decode cL_law 1314 = .ok (.if_icmp .eq 42, 3) := by decide +kernel
theorem dL_law_1317 : decode cL_law 1317 = .ok (.iconst 0, 1) := by decide +kernel
theorem dL_law_1318 : decode cL_law 1318 = .ok (.ireturn, 1) := by decide +kernel
theorem dL_law_1319 : decode cL_law 1319 = .ok (.aload_n 1, 1) := by decide +kernel
theorem dL_law_1320 : decode cL_law 1320 = .ok (.aload_n 0, 1) := by decide +kernel
theorem dL_law_1321 : decode cL_law 1321 = .ok (.iload_n 3, 1) := by decide +kernel
theorem dL_law_1322 : decode cL_law 1322 = .ok (.iconst 1, 1) := by decide +kernel
theorem dL_law_1323 : decode cL_law 1323 = .ok (.iadd, 1) := by decide +kernel
theorem dL_law_1324 : decode cL_law 1324 = .ok (.iaload, 1) := by decide +kernel
theorem dL_law_1325 : decode cL_law 1325 = .ok (.invokevirtual 164, 3) := by decide +kernel
theorem dL_law_1328 : decode cL_law 1328 = .ok (.aload_n 2, 1) := by decide +kernel
theorem dL_law_1329 : decode cL_law 1329 = .ok (.aload_n 0, 1) := by decide +kernel
theorem dL_law_1330 : decode cL_law 1330 = .ok (.iload_n 3, 1) := by decide +kernel
theorem dL_law_1331 : decode cL_law 1331 = .ok (.iconst 1, 1) := by decide +kernel
theorem dL_law_1332 : decode cL_law 1332 = .ok (.iadd, 1) := by decide +kernel
theorem dL_law_1333 : decode cL_law 1333 = .ok (.iaload, 1) := by decide +kernel
theorem dL_law_1334 : decode cL_law 1334 = .ok (.invokevirtual 167, 3) := by decide +kernel
theorem dL_law_1337 : decode cL_law 1337 = .ok (.if_icmp .eq 19, 3) := by decide +kernel
theorem dL_law_1340 : decode cL_law 1340 = .ok (.iconst 0, 1) := by decide +kernel
theorem dL_law_1341 : decode cL_law 1341 = .ok (.ireturn, 1) := by decide +kernel
theorem dL_law_1342 : decode cL_law 1342 = .ok (.aload_n 1, 1) := by decide +kernel
theorem dL_law_1343 : decode cL_law 1343 = .ok (.invokevirtual 168, 3) := by decide +kernel
theorem dL_law_1346 : decode cL_law 1346 = .ok (.aload_n 2, 1) := by decide +kernel
theorem dL_law_1347 : decode cL_law 1347 = .ok (.invokevirtual 172, 3) := by decide +kernel
theorem dL_law_1350 : decode cL_law 1350 = .ok (.lcmp, 1) := by decide +kernel
theorem dL_law_1351 : decode cL_law 1351 = .ok (.ifCond .eq 5, 3) := by decide +kernel
theorem dL_law_1354 : decode cL_law 1354 = .ok (.iconst 0, 1) := by decide +kernel
theorem dL_law_1355 : decode cL_law 1355 = .ok (.ireturn, 1) := by decide +kernel
theorem dL_law_1356 : decode cL_law 1356 = .ok (.iinc 3 6, 3) := by decide +kernel
theorem dL_law_1359 : decode cL_law 1359 = .ok (.goto (-1341), 3) := by decide +kernel
theorem dL_law_1362 : decode cL_law 1362 = .ok (.iconst 1, 1) := by decide +kernel
theorem dL_law_1363 : decode cL_law 1363 = .ok (.ireturn, 1) := by decide +kernel
