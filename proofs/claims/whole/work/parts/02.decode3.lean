theorem dX11_copy_168 : decode cX11_copy 168 = .ok (.bipush 60, 2) := by decide +kernel
theorem dX11_copy_170 : decode cX11_copy 170 = .ok (.iload_n 3, 1) := by decide +kernel
theorem dX11_copy_171 : decode cX11_copy 171 = .ok (.imul, 1) := by decide +kernel
theorem dX11_copy_172 : decode cX11_copy 172 = .ok (.iload 4, 2) := by decide +kernel
theorem dX11_copy_174 : decode cX11_copy 174 = .ok (.iadd, 1) := by decide +kernel
theorem dX11_copy_175 : decode cX11_copy 175 = .ok (.iload 6, 2) := by decide +kernel
theorem dX11_copy_177 : decode cX11_copy 177 = .ok (.iadd, 1) := by decide +kernel
theorem dX11_copy_178 : decode cX11_copy 178 = .ok (.aload_n 0, 1) := by decide +kernel
theorem dX11_copy_179 : decode cX11_copy 179 = .ok (.getfield 19, 3) := by decide +kernel
theorem dX11_copy_182 : decode cX11_copy 182 = .ok (.iload 6, 2) := by decide +kernel
theorem dX11_copy_184 : decode cX11_copy 184 = .ok (.iaload, 1) := by decide +kernel
theorem dX11_copy_185 : decode cX11_copy 185 = .ok (.iastore, 1) := by decide +kernel
theorem dX11_copy_186 : decode cX11_copy 186 = .ok (.iinc 6 1, 3) := by decide +kernel
theorem dX11_copy_189 : decode cX11_copy 189 = .ok (.goto (-32), 3) := by decide +kernel
theorem dX11_copy_192 : decode cX11_copy 192 = .ok (.iconst 1, 1) := by decide +kernel
theorem dX11_copy_193 : decode cX11_copy 193 = .ok (.ireturn, 1) := by decide +kernel
theorem dX11_type_0 : decode cX11_type 0 = .ok (.iload_n 1, 1) := by decide +kernel
theorem dX11_type_1 : decode cX11_type 1 = .ok (.invokestatic 90, 3) := by decide +kernel
theorem dX11_type_4 : decode cX11_type 4 = .ok (.ifCond .eq 15, 3) := by decide +kernel
theorem dX11_type_7 : decode cX11_type 7 = .ok (.iload_n 2, 1) := by decide +kernel
theorem dX11_type_8 : decode cX11_type 8 = .ok (.i2l, 1) := by decide +kernel
theorem dX11_type_9 : decode cX11_type 9 = .ok (.lconst 0, 1) := by decide +kernel
theorem dX11_type_10 : decode cX11_type 10 = .ok (.ldc2_w 93, 3) := by decide +kernel
theorem dX11_type_13 : decode cX11_type 13 = .ok (.invokestatic 61, 3) := by decide +kernel
theorem dX11_type_16 : decode cX11_type 16 = .ok (.ifCond .ne 6, 3) := by decide +kernel
theorem dX11_type_19 : decode cX11_type 19 = .ok (.bipush (-2), 2) := by decide +kernel
theorem dX11_type_21 : decode cX11_type 21 = .ok (.ireturn, 1) := by decide +kernel
theorem dX11_type_22 : decode cX11_type 22 = .ok (.aload_n 0, 1) := by decide +kernel
theorem dX11_type_23 : decode cX11_type 23 = .ok (.getfield 25, 3) := by decide +kernel
theorem dX11_type_26 : decode cX11_type 26 = .ok (.iload_n 1, 1) := by decide +kernel
theorem dX11_type_27 : decode cX11_type 27 = .ok (.iaload, 1) := by decide +kernel
theorem dX11_type_28 : decode cX11_type 28 = .ok (.iload_n 1, 1) := by decide +kernel
theorem dX11_type_29 : decode cX11_type 29 = .ok (.ifCond .ne 8, 3) := by decide +kernel
theorem dX11_type_32 : decode cX11_type 32 = .ok (.bipush 79, 2) := by decide +kernel
theorem dX11_type_34 : decode cX11_type 34 = .ok (.goto 5, 3) := by decide +kernel
theorem dX11_type_37 : decode cX11_type 37 = .ok (.bipush 35, 2) := by decide +kernel
theorem dX11_type_39 : decode cX11_type 39 = .ok (.if_icmp .ne 6, 3) := by decide +kernel
theorem dX11_type_42 : decode cX11_type 42 = .ok (.bipush (-4), 2) := by decide +kernel
theorem dX11_type_44 : decode cX11_type 44 = .ok (.ireturn, 1) := by decide +kernel
theorem dX11_type_45 : decode cX11_type 45 = .ok (.aload_n 0, 1) := by decide +kernel
theorem dX11_type_46 : decode cX11_type 46 = .ok (.getfield 22, 3) := by decide +kernel
theorem dX11_type_49 : decode cX11_type 49 = .ok (.bipush 80, 2) := by decide +kernel
theorem dX11_type_51 : decode cX11_type 51 = .ok (.iload_n 1, 1) := by decide +kernel
theorem dX11_type_52 : decode cX11_type 52 = .ok (.imul, 1) := by decide +kernel
theorem dX11_type_53 : decode cX11_type 53 = .ok (.aload_n 0, 1) := by decide +kernel
theorem dX11_type_54 : decode cX11_type 54 = .ok (.getfield 25, 3) := by decide +kernel
theorem dX11_type_57 : decode cX11_type 57 = .ok (.iload_n 1, 1) := by decide +kernel
theorem dX11_type_58 : decode cX11_type 58 = .ok (.iaload, 1) := by decide +kernel
theorem dX11_type_59 : decode cX11_type 59 = .ok (.iadd, 1) := by decide +kernel
theorem dX11_type_60 : decode cX11_type 60 = .ok (.iload_n 2, 1) := by decide +kernel
theorem dX11_type_61 : decode cX11_type 61 = .ok (.iastore, 1) := by decide +kernel
theorem dX11_type_62 : decode cX11_type 62 = .ok (.aload_n 0, 1) := by decide +kernel
theorem dX11_type_63 : decode cX11_type 63 = .ok (.getfield 25, 3) := by decide +kernel
theorem dX11_type_66 : decode cX11_type 66 = .ok (.iload_n 1, 1) := by decide +kernel
theorem dX11_type_67 : decode cX11_type 67 = .ok (.dup2, 1) := by decide +kernel
theorem dX11_type_68 : decode cX11_type 68 = .ok (.iaload, 1) := by decide +kernel
theorem dX11_type_69 : decode cX11_type 69 = .ok (.iconst 1, 1) := by decide +kernel
theorem dX11_type_70 : decode cX11_type 70 = .ok (.iadd, 1) := by decide +kernel
theorem dX11_type_71 : decode cX11_type 71 = .ok (.iastore, 1) := by decide +kernel
theorem dX11_type_72 : decode cX11_type 72 = .ok (.aload_n 0, 1) := by decide +kernel
theorem dX11_type_73 : decode cX11_type 73 = .ok (.getfield 25, 3) := by decide +kernel
theorem dX11_type_76 : decode cX11_type 76 = .ok (.iload_n 1, 1) := by decide +kernel
theorem dX11_type_77 : decode cX11_type 77 = .ok (.iaload, 1) := by decide +kernel
theorem dX11_type_78 : decode cX11_type 78 = .ok (.ireturn, 1) := by decide +kernel
theorem dX11_wipe_0 : decode cX11_wipe 0 = .ok (.iload_n 1, 1) := by decide +kernel
theorem dX11_wipe_1 : decode cX11_wipe 1 = .ok (.invokestatic 90, 3) := by decide +kernel
theorem dX11_wipe_4 : decode cX11_wipe 4 = .ok (.ifCond .ne 6, 3) := by decide +kernel
theorem dX11_wipe_7 : decode cX11_wipe 7 = .ok (.bipush (-2), 2) := by decide +kernel
theorem dX11_wipe_9 : decode cX11_wipe 9 = .ok (.ireturn, 1) := by decide +kernel
theorem dX11_wipe_10 : decode cX11_wipe 10 = .ok (.aload_n 0, 1) := by decide +kernel
theorem dX11_wipe_11 : decode cX11_wipe 11 = .ok (.getfield 25, 3) := by decide +kernel
theorem dX11_wipe_14 : decode cX11_wipe 14 = .ok (.iload_n 1, 1) := by decide +kernel
theorem dX11_wipe_15 : decode cX11_wipe 15 = .ok (.iaload, 1) := by decide +kernel
theorem dX11_wipe_16 : decode cX11_wipe 16 = .ok (.istore_n 2, 1) := by decide +kernel
theorem dX11_wipe_17 : decode cX11_wipe 17 = .ok (.aload_n 0, 1) := by decide +kernel
theorem dX11_wipe_18 : decode cX11_wipe 18 = .ok (.getfield 25, 3) := by decide +kernel
theorem dX11_wipe_21 : decode cX11_wipe 21 = .ok (.iload_n 1, 1) := by decide +kernel
theorem dX11_wipe_22 : decode cX11_wipe 22 = .ok (.iconst 0, 1) := by decide +kernel
theorem dX11_wipe_23 : decode cX11_wipe 23 = .ok (.iastore, 1) := by decide +kernel
theorem dX11_wipe_24 : decode cX11_wipe 24 = .ok (.iload_n 2, 1) := by decide +kernel
theorem dX11_wipe_25 : decode cX11_wipe 25 = .ok (.ireturn, 1) := by decide +kernel
theorem dX11_undo_0 : decode cX11_undo 0 = .ok (.iload_n 1, 1) := by decide +kernel
theorem dX11_undo_1 : decode cX11_undo 1 = .ok (.invokestatic 90, 3) := by decide +kernel
theorem dX11_undo_4 : decode cX11_undo 4 = .ok (.ifCond .ne 6, 3) := by decide +kernel
theorem dX11_undo_7 : decode cX11_undo 7 = .ok (.bipush (-2), 2) := by decide +kernel
theorem dX11_undo_9 : decode cX11_undo 9 = .ok (.ireturn, 1) := by decide +kernel
theorem dX11_undo_10 : decode cX11_undo 10 = .ok (.aload_n 0, 1) := by decide +kernel
theorem dX11_undo_11 : decode cX11_undo 11 = .ok (.getfield 25, 3) := by decide +kernel
theorem dX11_undo_14 : decode cX11_undo 14 = .ok (.iload_n 1, 1) := by decide +kernel
theorem dX11_undo_15 : decode cX11_undo 15 = .ok (.iaload, 1) := by decide +kernel
theorem dX11_undo_16 : decode cX11_undo 16 = .ok (.ifCond .ne 6, 3) := by decide +kernel
theorem dX11_undo_19 : decode cX11_undo 19 = .ok (.bipush (-3), 2) := by decide +kernel
theorem dX11_undo_21 : decode cX11_undo 21 = .ok (.ireturn, 1) := by decide +kernel
theorem dX11_undo_22 : decode cX11_undo 22 = .ok (.aload_n 0, 1) := by decide +kernel
theorem dX11_undo_23 : decode cX11_undo 23 = .ok (.getfield 25, 3) := by decide +kernel
theorem dX11_undo_26 : decode cX11_undo 26 = .ok (.iload_n 1, 1) := by decide +kernel
theorem dX11_undo_27 : decode cX11_undo 27 = .ok (.dup2, 1) := by decide +kernel
theorem dX11_undo_28 : decode cX11_undo 28 = .ok (.iaload, 1) := by decide +kernel
theorem dX11_undo_29 : decode cX11_undo 29 = .ok (.iconst 1, 1) := by decide +kernel
theorem dX11_undo_30 : decode cX11_undo 30 = .ok (.isub, 1) := by decide +kernel
theorem dX11_undo_31 : decode cX11_undo 31 = .ok (.iastore, 1) := by decide +kernel
theorem dX11_undo_32 : decode cX11_undo 32 = .ok (.aload_n 0, 1) := by decide +kernel
theorem dX11_undo_33 : decode cX11_undo 33 = .ok (.getfield 25, 3) := by decide +kernel
theorem dX11_undo_36 : decode cX11_undo 36 = .ok (.iload_n 1, 1) := by decide +kernel
theorem dX11_undo_37 : decode cX11_undo 37 = .ok (.iaload, 1) := by decide +kernel
theorem dX11_undo_38 : decode cX11_undo 38 = .ok (.ireturn, 1) := by decide +kernel
theorem dX11_here_0 : decode cX11_here 0 = .ok (.aload_n 0, 1) := by decide +kernel
theorem dX11_here_1 : decode cX11_here 1 = .ok (.getfield 95, 3) := by decide +kernel
theorem dX11_here_4 : decode cX11_here 4 = .ok (.aload_n 0, 1) := by decide +kernel
theorem dX11_here_5 : decode cX11_here 5 = .ok (.getfield 25, 3) := by decide +kernel
theorem dX11_here_8 : decode cX11_here 8 = .ok (.iload_n 1, 1) := by decide +kernel
theorem dX11_here_9 : decode cX11_here 9 = .ok (.iaload, 1) := by decide +kernel
theorem dX11_here_10 : decode cX11_here 10 = .ok (.if_icmp .ge 20, 3) := by decide +kernel
theorem dX11_here_13 : decode cX11_here 13 = .ok (.aload_n 0, 1) := by decide +kernel
theorem dX11_here_14 : decode cX11_here 14 = .ok (.getfield 22, 3) := by decide +kernel
theorem dX11_here_17 : decode cX11_here 17 = .ok (.bipush 80, 2) := by decide +kernel
theorem dX11_here_19 : decode cX11_here 19 = .ok (.iload_n 1, 1) := by decide +kernel
theorem dX11_here_20 : decode cX11_here 20 = .ok (.imul, 1) := by decide +kernel
theorem dX11_here_21 : decode cX11_here 21 = .ok (.aload_n 0, 1) := by decide +kernel
theorem dX11_here_22 : decode cX11_here 22 = .ok (.getfield 95, 3) := by decide +kernel
theorem dX11_here_25 : decode cX11_here 25 = .ok (.iadd, 1) := by decide +kernel
theorem dX11_here_26 : decode cX11_here 26 = .ok (.iaload, 1) := by decide +kernel
theorem dX11_here_27 : decode cX11_here 27 = .ok (.goto 4, 3) := by decide +kernel
theorem dX11_here_30 : decode cX11_here 30 = .ok (.iconst (-1), 1) := by decide +kernel
theorem dX11_here_31 : decode cX11_here 31 = .ok (.ireturn, 1) := by decide +kernel
theorem dX11_small_0 : decode cX11_small 0 = .ok (.aload_n 0, 1) := by decide +kernel
theorem dX11_small_1 : decode cX11_small 1 = .ok (.iload_n 1, 1) := by decide +kernel
theorem dX11_small_2 : decode cX11_small 2 = .ok (.invokevirtual 98, 3) := by decide +kernel
theorem dX11_small_5 : decode cX11_small 5 = .ok (.i2l, 1) := by decide +kernel
theorem dX11_small_6 : decode cX11_small 6 = .ok (.ldc2_w 101, 3) := by decide +kernel
theorem dX11_small_9 : decode cX11_small 9 = .ok (.ldc2_w 103, 3) := by decide +kernel
theorem dX11_small_12 : decode cX11_small 12 = .ok (.invokestatic 61, 3) := by decide +kernel
theorem dX11_small_15 : decode cX11_small 15 = .ok (.ifCond .eq 14, 3) := by decide +kernel
theorem dX11_small_18 : decode cX11_small 18 = .ok (.aload_n 0, 1) := by decide +kernel
theorem dX11_small_19 : decode cX11_small 19 = .ok (.iload_n 1, 1) := by decide +kernel
theorem dX11_small_20 : decode cX11_small 20 = .ok (.invokevirtual 98, 3) := by decide +kernel
theorem dX11_small_23 : decode cX11_small 23 = .ok (.bipush 97, 2) := by decide +kernel
theorem dX11_small_25 : decode cX11_small 25 = .ok (.isub, 1) := by decide +kernel
theorem dX11_small_26 : decode cX11_small 26 = .ok (.goto 4, 3) := by decide +kernel
theorem dX11_small_29 : decode cX11_small 29 = .ok (.iconst (-1), 1) := by decide +kernel
theorem dX11_small_30 : decode cX11_small 30 = .ok (.ireturn, 1) := by decide +kernel
theorem dX11_big_0 : decode cX11_big 0 = .ok (.aload_n 0, 1) := by decide +kernel
theorem dX11_big_1 : decode cX11_big 1 = .ok (.iload_n 1, 1) := by decide +kernel
theorem dX11_big_2 : decode cX11_big 2 = .ok (.invokevirtual 98, 3) := by decide +kernel
theorem dX11_big_5 : decode cX11_big 5 = .ok (.i2l, 1) := by decide +kernel
theorem dX11_big_6 : decode cX11_big 6 = .ok (.ldc2_w 105, 3) := by decide +kernel
theorem dX11_big_9 : decode cX11_big 9 = .ok (.ldc2_w 107, 3) := by decide +kernel
theorem dX11_big_12 : decode cX11_big 12 = .ok (.invokestatic 61, 3) := by decide +kernel
theorem dX11_big_15 : decode cX11_big 15 = .ok (.ifCond .eq 14, 3) := by decide +kernel
theorem dX11_big_18 : decode cX11_big 18 = .ok (.aload_n 0, 1) := by decide +kernel
theorem dX11_big_19 : decode cX11_big 19 = .ok (.iload_n 1, 1) := by decide +kernel
theorem dX11_big_20 : decode cX11_big 20 = .ok (.invokevirtual 98, 3) := by decide +kernel
theorem dX11_big_23 : decode cX11_big 23 = .ok (.bipush 65, 2) := by decide +kernel
theorem dX11_big_25 : decode cX11_big 25 = .ok (.isub, 1) := by decide +kernel
theorem dX11_big_26 : decode cX11_big 26 = .ok (.goto 4, 3) := by decide +kernel
theorem dX11_big_29 : decode cX11_big 29 = .ok (.iconst (-1), 1) := by decide +kernel
theorem dX11_big_30 : decode cX11_big 30 = .ok (.ireturn, 1) := by decide +kernel
theorem dX11_readsLaw_0 : decode cX11_readsLaw 0 = .ok (.aload_n 0, 1) := by decide +kernel
theorem dX11_readsLaw_1 : decode cX11_readsLaw 1 = .ok (.iconst 0, 1) := by decide +kernel
theorem dX11_readsLaw_2 : decode cX11_readsLaw 2 = .ok (.invokevirtual 109, 3) := by decide +kernel
theorem dX11_readsLaw_5 : decode cX11_readsLaw 5 = .ok (.istore_n 1, 1) := by decide +kernel
theorem dX11_readsLaw_6 : decode cX11_readsLaw 6 = .ok (.aload_n 0, 1) := by decide +kernel
theorem dX11_readsLaw_7 : decode cX11_readsLaw 7 = .ok (.getfield 112, 3) := by decide +kernel
theorem dX11_readsLaw_10 : decode cX11_readsLaw 10 = .ok (.bipush 16, 2) := by decide +kernel
theorem dX11_readsLaw_12 : decode cX11_readsLaw 12 = .ok (.if_icmp .eq 8, 3) := by decide +kernel
theorem dX11_readsLaw_15 : decode cX11_readsLaw 15 = .ok (.iload_n 1, 1) := by decide +kernel
theorem dX11_readsLaw_16 : decode cX11_readsLaw 16 = .ok (.iconst (-1), 1) := by decide +kernel
theorem dX11_readsLaw_17 : decode cX11_readsLaw 17 = .ok (.if_icmp .ne 5, 3) := by decide +kernel
theorem dX11_readsLaw_20 : decode cX11_readsLaw 20 = .ok (.iconst 0, 1) := by decide +kernel
theorem dX11_readsLaw_21 : decode cX11_readsLaw 21 = .ok (.ireturn, 1) := by decide +kernel
theorem dX11_readsLaw_22 : decode cX11_readsLaw 22 = .ok (.iconst 1, 1) := by decide +kernel
theorem dX11_readsLaw_23 : decode cX11_readsLaw 23 = .ok (.iload_n 1, 1) := by decide +kernel
theorem dX11_readsLaw_24 : decode cX11_readsLaw 24 = .ok (.ishl, 1) := by decide +kernel
theorem dX11_readsLaw_25 : decode cX11_readsLaw 25 = .ok (.istore_n 2, 1) := by decide +kernel
theorem dX11_readsLaw_26 : decode cX11_readsLaw 26 = .ok (.aload_n 0, 1) := by decide +kernel
theorem dX11_readsLaw_27 : decode cX11_readsLaw 27 = .ok (.dup, 1) := by decide +kernel
theorem dX11_readsLaw_28 : decode cX11_readsLaw 28 = .ok (.getfield 95, 3) := by decide +kernel
theorem dX11_readsLaw_31 : decode cX11_readsLaw 31 = .ok (.iconst 1, 1) := by decide +kernel
theorem dX11_readsLaw_32 : decode cX11_readsLaw 32 = .ok (.iadd, 1) := by decide +kernel
theorem dX11_readsLaw_33 : decode cX11_readsLaw 33 = .ok (.putfield 95, 3) := by decide +kernel
theorem dX11_readsLaw_36 : decode cX11_readsLaw 36 = .ok (.aload_n 0, 1) := by decide +kernel
theorem dX11_readsLaw_37 : decode cX11_readsLaw 37 = .ok (.iconst 0, 1) := by decide +kernel
theorem dX11_readsLaw_38 : decode cX11_readsLaw 38 = .ok (.invokevirtual 109, 3) := by decide +kernel
theorem dX11_readsLaw_41 : decode cX11_readsLaw 41 = .ok (.istore_n 3, 1) := by decide +kernel
theorem dX11_readsLaw_42 : decode cX11_readsLaw 42 = .ok (.iload_n 3, 1) := by decide +kernel
theorem dX11_readsLaw_43 : decode cX11_readsLaw 43 = .ok (.iconst (-1), 1) := by decide +kernel
theorem dX11_readsLaw_44 : decode cX11_readsLaw 44 = .ok (.if_icmp .eq 26, 3) := by decide +kernel
theorem dX11_readsLaw_47 : decode cX11_readsLaw 47 = .ok (.iload_n 3, 1) := by decide +kernel
theorem dX11_readsLaw_48 : decode cX11_readsLaw 48 = .ok (.iload_n 1, 1) := by decide +kernel
theorem dX11_readsLaw_49 : decode cX11_readsLaw 49 = .ok (.if_icmp .gt 5, 3) := by decide +kernel
theorem dX11_readsLaw_52 : decode cX11_readsLaw 52 = .ok (.iconst 0, 1) := by decide +kernel
theorem dX11_readsLaw_53 : decode cX11_readsLaw 53 = .ok (.ireturn, 1) := by decide +kernel
theorem dX11_readsLaw_54 : decode cX11_readsLaw 54 = .ok (.iload_n 2, 1) := by decide +kernel
theorem dX11_readsLaw_55 : decode cX11_readsLaw 55 = .ok (.iconst 1, 1) := by decide +kernel
theorem dX11_readsLaw_56 : decode cX11_readsLaw 56 = .ok (.iload_n 3, 1) := by decide +kernel
theorem dX11_readsLaw_57 : decode cX11_readsLaw 57 = .ok (.ishl, 1) := by decide +kernel
theorem dX11_readsLaw_58 : decode cX11_readsLaw 58 = .ok (.ior, 1) := by decide +kernel
theorem dX11_readsLaw_59 : decode cX11_readsLaw 59 = .ok (.istore_n 2, 1) := by decide +kernel
theorem dX11_readsLaw_60 : decode cX11_readsLaw 60 = .ok (.aload_n 0, 1) := by decide +kernel
theorem dX11_readsLaw_61 : decode cX11_readsLaw 61 = .ok (.dup, 1) := by decide +kernel
theorem dX11_readsLaw_62 : decode cX11_readsLaw 62 = .ok (.getfield 95, 3) := by decide +kernel
theorem dX11_readsLaw_65 : decode cX11_readsLaw 65 = .ok (.iconst 1, 1) := by decide +kernel
theorem dX11_readsLaw_66 : decode cX11_readsLaw 66 = .ok (.iadd, 1) := by decide +kernel
theorem dX11_readsLaw_67 : decode cX11_readsLaw 67 = .ok (.putfield 95, 3) := by decide +kernel
theorem dX11_readsLaw_70 : decode cX11_readsLaw 70 = .ok (.aload_n 0, 1) := by decide +kernel
theorem dX11_readsLaw_71 : decode cX11_readsLaw 71 = .ok (.iconst 0, 1) := by decide +kernel
theorem dX11_readsLaw_72 : decode cX11_readsLaw 72 = .ok (.invokevirtual 98, 3) := by decide +kernel
theorem dX11_readsLaw_75 : decode cX11_readsLaw 75 = .ok (.istore 4, 2) := by decide +kernel
theorem dX11_readsLaw_77 : decode cX11_readsLaw 77 = .ok (.iload 4, 2) := by decide +kernel
theorem dX11_readsLaw_79 : decode cX11_readsLaw 79 = .ok (.bipush 43, 2) := by decide +kernel
theorem dX11_readsLaw_81 : decode cX11_readsLaw 81 = .ok (.if_icmp .eq 12, 3) := by decide +kernel
theorem dX11_readsLaw_84 : decode cX11_readsLaw 84 = .ok (.iload 4, 2) := by decide +kernel
theorem dX11_readsLaw_86 : decode cX11_readsLaw 86 = .ok (.bipush 45, 2) := by decide +kernel
theorem dX11_readsLaw_88 : decode cX11_readsLaw 88 = .ok (.if_icmp .eq 5, 3) := by decide +kernel
theorem dX11_readsLaw_91 : decode cX11_readsLaw 91 = .ok (.iconst 0, 1) := by decide +kernel
theorem dX11_readsLaw_92 : decode cX11_readsLaw 92 = .ok (.ireturn, 1) := by decide +kernel
theorem dX11_readsLaw_93 : decode cX11_readsLaw 93 = .ok (.aload_n 0, 1) := by decide +kernel
theorem dX11_readsLaw_94 : decode cX11_readsLaw 94 = .ok (.dup, 1) := by decide +kernel
theorem dX11_readsLaw_95 : decode cX11_readsLaw 95 = .ok (.getfield 95, 3) := by decide +kernel
theorem dX11_readsLaw_98 : decode cX11_readsLaw 98 = .ok (.iconst 1, 1) := by decide +kernel
theorem dX11_readsLaw_99 : decode cX11_readsLaw 99 = .ok (.iadd, 1) := by decide +kernel
theorem dX11_readsLaw_100 : decode cX11_readsLaw 100 = .ok (.putfield 95, 3) := by decide +kernel
theorem dX11_readsLaw_103 : decode cX11_readsLaw 103 = .ok (.aload_n 0, 1) := by decide +kernel
theorem dX11_readsLaw_104 : decode cX11_readsLaw 104 = .ok (.iconst 0, 1) := by decide +kernel
theorem dX11_readsLaw_105 : decode cX11_readsLaw 105 = .ok (.invokevirtual 115, 3) := by decide +kernel
theorem dX11_readsLaw_108 : decode cX11_readsLaw 108 = .ok (.istore 5, 2) := by decide +kernel
theorem dX11_readsLaw_110 : decode cX11_readsLaw 110 = .ok (.iload 5, 2) := by decide +kernel
theorem dX11_readsLaw_112 : decode cX11_readsLaw 112 = .ok (.iconst (-1), 1) := by decide +kernel
theorem dX11_readsLaw_113 : decode cX11_readsLaw 113 = .ok (.if_icmp .ne 5, 3) := by decide +kernel
theorem dX11_readsLaw_116 : decode cX11_readsLaw 116 = .ok (.iconst 0, 1) := by decide +kernel
theorem dX11_readsLaw_117 : decode cX11_readsLaw 117 = .ok (.ireturn, 1) := by decide +kernel
theorem dX11_readsLaw_118 : decode cX11_readsLaw 118 = .ok (.aload_n 0, 1) := by decide +kernel
theorem dX11_readsLaw_119 : decode cX11_readsLaw 119 = .ok (.dup, 1) := by decide +kernel
theorem dX11_readsLaw_120 : decode cX11_readsLaw 120 = .ok (.getfield 95, 3) := by decide +kernel
theorem dX11_readsLaw_123 : decode cX11_readsLaw 123 = .ok (.iconst 1, 1) := by decide +kernel
theorem dX11_readsLaw_124 : decode cX11_readsLaw 124 = .ok (.iadd, 1) := by decide +kernel
theorem dX11_readsLaw_125 : decode cX11_readsLaw 125 = .ok (.putfield 95, 3) := by decide +kernel
theorem dX11_readsLaw_128 : decode cX11_readsLaw 128 = .ok (.aload_n 0, 1) := by decide +kernel
theorem dX11_readsLaw_129 : decode cX11_readsLaw 129 = .ok (.getfield 28, 3) := by decide +kernel
theorem dX11_readsLaw_132 : decode cX11_readsLaw 132 = .ok (.iconst 3, 1) := by decide +kernel
theorem dX11_readsLaw_133 : decode cX11_readsLaw 133 = .ok (.aload_n 0, 1) := by decide +kernel
theorem dX11_readsLaw_134 : decode cX11_readsLaw 134 = .ok (.getfield 112, 3) := by decide +kernel
theorem dX11_readsLaw_137 : decode cX11_readsLaw 137 = .ok (.imul, 1) := by decide +kernel
theorem dX11_readsLaw_138 : decode cX11_readsLaw 138 = .ok (.iload_n 2, 1) := by decide +kernel
theorem dX11_readsLaw_139 : decode cX11_readsLaw 139 = .ok (.iastore, 1) := by decide +kernel
theorem dX11_readsLaw_140 : decode cX11_readsLaw 140 = .ok (.aload_n 0, 1) := by decide +kernel
theorem dX11_readsLaw_141 : decode cX11_readsLaw 141 = .ok (.getfield 28, 3) := by decide +kernel
theorem dX11_readsLaw_144 : decode cX11_readsLaw 144 = .ok (.iconst 3, 1) := by decide +kernel
theorem dX11_readsLaw_145 : decode cX11_readsLaw 145 = .ok (.aload_n 0, 1) := by decide +kernel
theorem dX11_readsLaw_146 : decode cX11_readsLaw 146 = .ok (.getfield 112, 3) := by decide +kernel
theorem dX11_readsLaw_149 : decode cX11_readsLaw 149 = .ok (.imul, 1) := by decide +kernel
theorem dX11_readsLaw_150 : decode cX11_readsLaw 150 = .ok (.iconst 1, 1) := by decide +kernel
theorem dX11_readsLaw_151 : decode cX11_readsLaw 151 = .ok (.iadd, 1) := by decide +kernel
theorem dX11_readsLaw_152 : decode cX11_readsLaw 152 = .ok (.iload 4, 2) := by decide +kernel
theorem dX11_readsLaw_154 : decode cX11_readsLaw 154 = .ok (.bipush 43, 2) := by decide +kernel
theorem dX11_readsLaw_156 : decode cX11_readsLaw 156 = .ok (.if_icmp .ne 7, 3) := by decide +kernel
theorem dX11_readsLaw_159 : decode cX11_readsLaw 159 = .ok (.iconst 1, 1) := by decide +kernel
theorem dX11_readsLaw_160 : decode cX11_readsLaw 160 = .ok (.goto 4, 3) := by decide +kernel
theorem dX11_readsLaw_163 : decode cX11_readsLaw 163 = .ok (.iconst 0, 1) := by decide +kernel
theorem dX11_readsLaw_164 : decode cX11_readsLaw 164 = .ok (.iastore, 1) := by decide +kernel
theorem dX11_readsLaw_165 : decode cX11_readsLaw 165 = .ok (.aload_n 0, 1) := by decide +kernel
theorem dX11_readsLaw_166 : decode cX11_readsLaw 166 = .ok (.getfield 28, 3) := by decide +kernel
theorem dX11_readsLaw_169 : decode cX11_readsLaw 169 = .ok (.iconst 3, 1) := by decide +kernel
theorem dX11_readsLaw_170 : decode cX11_readsLaw 170 = .ok (.aload_n 0, 1) := by decide +kernel
theorem dX11_readsLaw_171 : decode cX11_readsLaw 171 = .ok (.getfield 112, 3) := by decide +kernel
theorem dX11_readsLaw_174 : decode cX11_readsLaw 174 = .ok (.imul, 1) := by decide +kernel
theorem dX11_readsLaw_175 : decode cX11_readsLaw 175 = .ok (.iconst 2, 1) := by decide +kernel
theorem dX11_readsLaw_176 : decode cX11_readsLaw 176 = .ok (.iadd, 1) := by decide +kernel
theorem dX11_readsLaw_177 : decode cX11_readsLaw 177 = .ok (.iload 5, 2) := by decide +kernel
theorem dX11_readsLaw_179 : decode cX11_readsLaw 179 = .ok (.iastore, 1) := by decide +kernel
theorem dX11_readsLaw_180 : decode cX11_readsLaw 180 = .ok (.aload_n 0, 1) := by decide +kernel
theorem dX11_readsLaw_181 : decode cX11_readsLaw 181 = .ok (.dup, 1) := by decide +kernel
theorem dX11_readsLaw_182 : decode cX11_readsLaw 182 = .ok (.getfield 112, 3) := by decide +kernel
theorem dX11_readsLaw_185 : decode cX11_readsLaw 185 = .ok (.iconst 1, 1) := by decide +kernel
theorem dX11_readsLaw_186 : decode cX11_readsLaw 186 = .ok (.iadd, 1) := by decide +kernel
theorem dX11_readsLaw_187 : decode cX11_readsLaw 187 = .ok (.putfield 112, 3) := by decide +kernel
theorem dX11_readsLaw_190 : decode cX11_readsLaw 190 = .ok (.iconst 1, 1) := by decide +kernel
theorem dX11_readsLaw_191 : decode cX11_readsLaw 191 = .ok (.ireturn, 1) := by decide +kernel
theorem dX11_readsLaws_0 : decode cX11_readsLaws 0 = .ok (.aload_n 0, 1) := by decide +kernel
theorem dX11_readsLaws_1 : decode cX11_readsLaws 1 = .ok (.iconst 0, 1) := by decide +kernel
theorem dX11_readsLaws_2 : decode cX11_readsLaws 2 = .ok (.putfield 95, 3) := by decide +kernel
theorem dX11_readsLaws_5 : decode cX11_readsLaws 5 = .ok (.aload_n 0, 1) := by decide +kernel
theorem dX11_readsLaws_6 : decode cX11_readsLaws 6 = .ok (.iconst 0, 1) := by decide +kernel
theorem dX11_readsLaws_7 : decode cX11_readsLaws 7 = .ok (.putfield 112, 3) := by decide +kernel
theorem dX11_readsLaws_10 : decode cX11_readsLaws 10 = .ok (.aload_n 0, 1) := by decide +kernel
theorem dX11_readsLaws_11 : decode cX11_readsLaws 11 = .ok (.getfield 25, 3) := by decide +kernel
theorem dX11_readsLaws_14 : decode cX11_readsLaws 14 = .ok (.iconst 0, 1) := by decide +kernel
theorem dX11_readsLaws_15 : decode cX11_readsLaws 15 = .ok (.iaload, 1) := by decide +kernel
theorem dX11_readsLaws_16 : decode cX11_readsLaws 16 = .ok (.ifCond .le 7, 3) := by decide +kernel
theorem dX11_readsLaws_19 : decode cX11_readsLaws 19 = .ok (.iconst 1, 1) := by decide +kernel
theorem dX11_readsLaws_20 : decode cX11_readsLaws 20 = .ok (.goto 4, 3) := by decide +kernel
theorem dX11_readsLaws_23 : decode cX11_readsLaws 23 = .ok (.iconst 0, 1) := by decide +kernel
theorem dX11_readsLaws_24 : decode cX11_readsLaws 24 = .ok (.istore_n 1, 1) := by decide +kernel
theorem dX11_readsLaws_25 : decode cX11_readsLaws 25 = .ok (.iload_n 1, 1) := by decide +kernel
theorem dX11_readsLaws_26 : decode cX11_readsLaws 26 = .ok (.ifCond .eq 80, 3) := by decide +kernel
theorem dX11_readsLaws_29 : decode cX11_readsLaws 29 = .ok (.aload_n 0, 1) := by decide +kernel
theorem dX11_readsLaws_30 : decode cX11_readsLaws 30 = .ok (.invokevirtual 118, 3) := by decide +kernel
theorem dX11_readsLaws_33 : decode cX11_readsLaws 33 = .ok (.istore_n 2, 1) := by decide +kernel
theorem dX11_readsLaws_34 : decode cX11_readsLaws 34 = .ok (.iload_n 2, 1) := by decide +kernel
theorem dX11_readsLaws_35 : decode cX11_readsLaws 35 = .ok (.ifCond .eq 20, 3) := by decide +kernel
theorem dX11_readsLaws_38 : decode cX11_readsLaws 38 = .ok (.aload_n 0, 1) := by decide +kernel
theorem dX11_readsLaws_39 : decode cX11_readsLaws 39 = .ok (.getfield 95, 3) := by decide +kernel
theorem dX11_readsLaws_42 : decode cX11_readsLaws 42 = .ok (.aload_n 0, 1) := by decide +kernel
theorem dX11_readsLaws_43 : decode cX11_readsLaws 43 = .ok (.getfield 25, 3) := by decide +kernel
theorem dX11_readsLaws_46 : decode cX11_readsLaws 46 = .ok (.iconst 0, 1) := by decide +kernel
theorem dX11_readsLaws_47 : decode cX11_readsLaws 47 = .ok (.iaload, 1) := by decide +kernel
theorem dX11_readsLaws_48 : decode cX11_readsLaws 48 = .ok (.if_icmp .ge 7, 3) := by decide +kernel
theorem dX11_readsLaws_51 : decode cX11_readsLaws 51 = .ok (.iconst 1, 1) := by decide +kernel
theorem dX11_readsLaws_52 : decode cX11_readsLaws 52 = .ok (.goto 4, 3) := by decide +kernel
theorem dX11_readsLaws_55 : decode cX11_readsLaws 55 = .ok (.iconst 0, 1) := by decide +kernel
theorem dX11_readsLaws_56 : decode cX11_readsLaws 56 = .ok (.istore_n 1, 1) := by decide +kernel
theorem dX11_readsLaws_57 : decode cX11_readsLaws 57 = .ok (.iload_n 2, 1) := by decide +kernel
theorem dX11_readsLaws_58 : decode cX11_readsLaws 58 = .ok (.ifCond .eq 17, 3) := by decide +kernel
theorem dX11_readsLaws_61 : decode cX11_readsLaws 61 = .ok (.iload_n 1, 1) := by decide +kernel
theorem dX11_readsLaws_62 : decode cX11_readsLaws 62 = .ok (.ifCond .eq 23, 3) := by decide +kernel
theorem dX11_readsLaws_65 : decode cX11_readsLaws 65 = .ok (.aload_n 0, 1) := by decide +kernel
theorem dX11_readsLaws_66 : decode cX11_readsLaws 66 = .ok (.iconst 0, 1) := by decide +kernel
theorem dX11_readsLaws_67 : decode cX11_readsLaws 67 = .ok (.invokevirtual 98, 3) := by decide +kernel
theorem dX11_readsLaws_70 : decode cX11_readsLaws 70 = .ok (.bipush 59, 2) := by decide +kernel
theorem dX11_readsLaws_72 : decode cX11_readsLaws 72 = .ok (.if_icmp .eq 13, 3) := by decide +kernel
theorem dX11_readsLaws_75 : decode cX11_readsLaws 75 = .ok (.aload_n 0, 1) := by decide +kernel
theorem dX11_readsLaws_76 : decode cX11_readsLaws 76 = .ok (.iconst 0, 1) := by decide +kernel
theorem dX11_readsLaws_77 : decode cX11_readsLaws 77 = .ok (.putfield 112, 3) := by decide +kernel
theorem dX11_readsLaws_80 : decode cX11_readsLaws 80 = .ok (.aload_n 0, 1) := by decide +kernel
theorem dX11_readsLaws_81 : decode cX11_readsLaws 81 = .ok (.getfield 95, 3) := by decide +kernel
theorem dX11_readsLaws_84 : decode cX11_readsLaws 84 = .ok (.ireturn, 1) := by decide +kernel
theorem dX11_readsLaws_85 : decode cX11_readsLaws 85 = .ok (.aload_n 0, 1) := by decide +kernel
theorem dX11_readsLaws_86 : decode cX11_readsLaws 86 = .ok (.dup, 1) := by decide +kernel
theorem dX11_readsLaws_87 : decode cX11_readsLaws 87 = .ok (.getfield 95, 3) := by decide +kernel
theorem dX11_readsLaws_90 : decode cX11_readsLaws 90 = .ok (.iload_n 1, 1) := by decide +kernel
theorem dX11_readsLaws_91 : decode cX11_readsLaws 91 = .ok (.ifCond .eq 7, 3) := by decide +kernel
theorem dX11_readsLaws_94 : decode cX11_readsLaws 94 = .ok (.iconst 1, 1) := by decide +kernel
theorem dX11_readsLaws_95 : decode cX11_readsLaws 95 = .ok (.goto 4, 3) := by decide +kernel
theorem dX11_readsLaws_98 : decode cX11_readsLaws 98 = .ok (.iconst 0, 1) := by decide +kernel
theorem dX11_readsLaws_99 : decode cX11_readsLaws 99 = .ok (.iadd, 1) := by decide +kernel
theorem dX11_readsLaws_100 : decode cX11_readsLaws 100 = .ok (.putfield 95, 3) := by decide +kernel
theorem dX11_readsLaws_103 : decode cX11_readsLaws 103 = .ok (.goto (-78), 3) := by decide +kernel
theorem dX11_readsLaws_106 : decode cX11_readsLaws 106 = .ok (.iconst (-1), 1) := by decide +kernel
theorem dX11_readsLaws_107 : decode cX11_readsLaws 107 = .ok (.ireturn, 1) := by decide +kernel
theorem dX11_readsOneDust_0 : decode cX11_readsOneDust 0 = .ok (.aload_n 0, 1) := by decide +kernel
theorem dX11_readsOneDust_1 : decode cX11_readsOneDust 1 = .ok (.iconst 1, 1) := by decide +kernel
theorem dX11_readsOneDust_2 : decode cX11_readsOneDust 2 = .ok (.invokevirtual 115, 3) := by decide +kernel
theorem dX11_readsOneDust_5 : decode cX11_readsOneDust 5 = .ok (.istore_n 1, 1) := by decide +kernel
theorem dX11_readsOneDust_6 : decode cX11_readsOneDust 6 = .ok (.aload_n 0, 1) := by decide +kernel
theorem dX11_readsOneDust_7 : decode cX11_readsOneDust 7 = .ok (.getfield 122, 3) := by decide +kernel
theorem dX11_readsOneDust_10 : decode cX11_readsOneDust 10 = .ok (.bipush 12, 2) := by decide +kernel
theorem dX11_readsOneDust_12 : decode cX11_readsOneDust 12 = .ok (.if_icmp .eq 8, 3) := by decide +kernel
theorem dX11_readsOneDust_15 : decode cX11_readsOneDust 15 = .ok (.iload_n 1, 1) := by decide +kernel
theorem dX11_readsOneDust_16 : decode cX11_readsOneDust 16 = .ok (.iconst (-1), 1) := by decide +kernel
theorem dX11_readsOneDust_17 : decode cX11_readsOneDust 17 = .ok (.if_icmp .ne 5, 3) := by decide +kernel
theorem dX11_readsOneDust_20 : decode cX11_readsOneDust 20 = .ok (.iconst 0, 1) := by decide +kernel
theorem dX11_readsOneDust_21 : decode cX11_readsOneDust 21 = .ok (.ireturn, 1) := by decide +kernel
theorem dX11_readsOneDust_22 : decode cX11_readsOneDust 22 = .ok (.aload_n 0, 1) := by decide +kernel
theorem dX11_readsOneDust_23 : decode cX11_readsOneDust 23 = .ok (.dup, 1) := by decide +kernel
theorem dX11_readsOneDust_24 : decode cX11_readsOneDust 24 = .ok (.getfield 95, 3) := by decide +kernel
theorem dX11_readsOneDust_27 : decode cX11_readsOneDust 27 = .ok (.iconst 1, 1) := by decide +kernel
theorem dX11_readsOneDust_28 : decode cX11_readsOneDust 28 = .ok (.iadd, 1) := by decide +kernel
theorem dX11_readsOneDust_29 : decode cX11_readsOneDust 29 = .ok (.putfield 95, 3) := by decide +kernel
theorem dX11_readsOneDust_32 : decode cX11_readsOneDust 32 = .ok (.aload_n 0, 1) := by decide +kernel
theorem dX11_readsOneDust_33 : decode cX11_readsOneDust 33 = .ok (.iconst 1, 1) := by decide +kernel
theorem dX11_readsOneDust_34 : decode cX11_readsOneDust 34 = .ok (.invokevirtual 109, 3) := by decide +kernel
theorem dX11_readsOneDust_37 : decode cX11_readsOneDust 37 = .ok (.istore_n 2, 1) := by decide +kernel
theorem dX11_readsOneDust_38 : decode cX11_readsOneDust 38 = .ok (.iload_n 2, 1) := by decide +kernel
theorem dX11_readsOneDust_39 : decode cX11_readsOneDust 39 = .ok (.iconst (-1), 1) := by decide +kernel
theorem dX11_readsOneDust_40 : decode cX11_readsOneDust 40 = .ok (.if_icmp .ne 5, 3) := by decide +kernel
theorem dX11_readsOneDust_43 : decode cX11_readsOneDust 43 = .ok (.iconst 0, 1) := by decide +kernel
theorem dX11_readsOneDust_44 : decode cX11_readsOneDust 44 = .ok (.ireturn, 1) := by decide +kernel
theorem dX11_readsOneDust_45 : decode cX11_readsOneDust 45 = .ok (.aload_n 0, 1) := by decide +kernel
theorem dX11_readsOneDust_46 : decode cX11_readsOneDust 46 = .ok (.dup, 1) := by decide +kernel
theorem dX11_readsOneDust_47 : decode cX11_readsOneDust 47 = .ok (.getfield 95, 3) := by decide +kernel
theorem dX11_readsOneDust_50 : decode cX11_readsOneDust 50 = .ok (.iconst 1, 1) := by decide +kernel
theorem dX11_readsOneDust_51 : decode cX11_readsOneDust 51 = .ok (.iadd, 1) := by decide +kernel
theorem dX11_readsOneDust_52 : decode cX11_readsOneDust 52 = .ok (.putfield 95, 3) := by decide +kernel
theorem dX11_readsOneDust_55 : decode cX11_readsOneDust 55 = .ok (.aload_n 0, 1) := by decide +kernel
theorem dX11_readsOneDust_56 : decode cX11_readsOneDust 56 = .ok (.getfield 31, 3) := by decide +kernel
theorem dX11_readsOneDust_59 : decode cX11_readsOneDust 59 = .ok (.iconst 2, 1) := by decide +kernel
theorem dX11_readsOneDust_60 : decode cX11_readsOneDust 60 = .ok (.aload_n 0, 1) := by decide +kernel
theorem dX11_readsOneDust_61 : decode cX11_readsOneDust 61 = .ok (.getfield 122, 3) := by decide +kernel
theorem dX11_readsOneDust_64 : decode cX11_readsOneDust 64 = .ok (.imul, 1) := by decide +kernel
theorem dX11_readsOneDust_65 : decode cX11_readsOneDust 65 = .ok (.iload_n 1, 1) := by decide +kernel
theorem dX11_readsOneDust_66 : decode cX11_readsOneDust 66 = .ok (.iastore, 1) := by decide +kernel
theorem dX11_readsOneDust_67 : decode cX11_readsOneDust 67 = .ok (.aload_n 0, 1) := by decide +kernel
theorem dX11_readsOneDust_68 : decode cX11_readsOneDust 68 = .ok (.getfield 31, 3) := by decide +kernel
theorem dX11_readsOneDust_71 : decode cX11_readsOneDust 71 = .ok (.iconst 2, 1) := by decide +kernel
theorem dX11_readsOneDust_72 : decode cX11_readsOneDust 72 = .ok (.aload_n 0, 1) := by decide +kernel
theorem dX11_readsOneDust_73 : decode cX11_readsOneDust 73 = .ok (.getfield 122, 3) := by decide +kernel
theorem dX11_readsOneDust_76 : decode cX11_readsOneDust 76 = .ok (.imul, 1) := by decide +kernel
theorem dX11_readsOneDust_77 : decode cX11_readsOneDust 77 = .ok (.iconst 1, 1) := by decide +kernel
theorem dX11_readsOneDust_78 : decode cX11_readsOneDust 78 = .ok (.iadd, 1) := by decide +kernel
theorem dX11_readsOneDust_79 : decode cX11_readsOneDust 79 = .ok (.iload_n 2, 1) := by decide +kernel
theorem dX11_readsOneDust_80 : decode cX11_readsOneDust 80 = .ok (.iastore, 1) := by decide +kernel
theorem dX11_readsOneDust_81 : decode cX11_readsOneDust 81 = .ok (.aload_n 0, 1) := by decide +kernel
theorem dX11_readsOneDust_82 : decode cX11_readsOneDust 82 = .ok (.dup, 1) := by decide +kernel
theorem dX11_readsOneDust_83 : decode cX11_readsOneDust 83 = .ok (.getfield 122, 3) := by decide +kernel
theorem dX11_readsOneDust_86 : decode cX11_readsOneDust 86 = .ok (.iconst 1, 1) := by decide +kernel
theorem dX11_readsOneDust_87 : decode cX11_readsOneDust 87 = .ok (.iadd, 1) := by decide +kernel
theorem dX11_readsOneDust_88 : decode cX11_readsOneDust 88 = .ok (.putfield 122, 3) := by decide +kernel
theorem dX11_readsOneDust_91 : decode cX11_readsOneDust 91 = .ok (.iconst 1, 1) := by decide +kernel
theorem dX11_readsOneDust_92 : decode cX11_readsOneDust 92 = .ok (.ireturn, 1) := by decide +kernel
theorem dX11_readsDust_0 : decode cX11_readsDust 0 = .ok (.aload_n 0, 1) := by decide +kernel
theorem dX11_readsDust_1 : decode cX11_readsDust 1 = .ok (.iconst 0, 1) := by decide +kernel
theorem dX11_readsDust_2 : decode cX11_readsDust 2 = .ok (.putfield 95, 3) := by decide +kernel
theorem dX11_readsDust_5 : decode cX11_readsDust 5 = .ok (.aload_n 0, 1) := by decide +kernel
theorem dX11_readsDust_6 : decode cX11_readsDust 6 = .ok (.iconst 0, 1) := by decide +kernel
theorem dX11_readsDust_7 : decode cX11_readsDust 7 = .ok (.putfield 122, 3) := by decide +kernel
theorem dX11_readsDust_10 : decode cX11_readsDust 10 = .ok (.aload_n 0, 1) := by decide +kernel
theorem dX11_readsDust_11 : decode cX11_readsDust 11 = .ok (.getfield 25, 3) := by decide +kernel
theorem dX11_readsDust_14 : decode cX11_readsDust 14 = .ok (.iconst 1, 1) := by decide +kernel
theorem dX11_readsDust_15 : decode cX11_readsDust 15 = .ok (.iaload, 1) := by decide +kernel
theorem dX11_readsDust_16 : decode cX11_readsDust 16 = .ok (.ifCond .le 7, 3) := by decide +kernel
theorem dX11_readsDust_19 : decode cX11_readsDust 19 = .ok (.iconst 1, 1) := by decide +kernel
theorem dX11_readsDust_20 : decode cX11_readsDust 20 = .ok (.goto 4, 3) := by decide +kernel
theorem dX11_readsDust_23 : decode cX11_readsDust 23 = .ok (.iconst 0, 1) := by decide +kernel
theorem dX11_readsDust_24 : decode cX11_readsDust 24 = .ok (.istore_n 1, 1) := by decide +kernel
theorem dX11_readsDust_25 : decode cX11_readsDust 25 = .ok (.iload_n 1, 1) := by decide +kernel
theorem dX11_readsDust_26 : decode cX11_readsDust 26 = .ok (.ifCond .eq 80, 3) := by decide +kernel
theorem dX11_readsDust_29 : decode cX11_readsDust 29 = .ok (.aload_n 0, 1) := by decide +kernel
theorem dX11_readsDust_30 : decode cX11_readsDust 30 = .ok (.invokevirtual 125, 3) := by decide +kernel
theorem dX11_readsDust_33 : decode cX11_readsDust 33 = .ok (.istore_n 2, 1) := by decide +kernel
theorem dX11_readsDust_34 : decode cX11_readsDust 34 = .ok (.iload_n 2, 1) := by decide +kernel
theorem dX11_readsDust_35 : decode cX11_readsDust 35 = .ok (.ifCond .eq 20, 3) := by decide +kernel
theorem dX11_readsDust_38 : decode cX11_readsDust 38 = .ok (.aload_n 0, 1) := by decide +kernel
theorem dX11_readsDust_39 : decode cX11_readsDust 39 = .ok (.getfield 95, 3) := by decide +kernel
theorem dX11_readsDust_42 : decode cX11_readsDust 42 = .ok (.aload_n 0, 1) := by decide +kernel
theorem dX11_readsDust_43 : decode cX11_readsDust 43 = .ok (.getfield 25, 3) := by decide +kernel
theorem dX11_readsDust_46 : decode cX11_readsDust 46 = .ok (.iconst 1, 1) := by decide +kernel
theorem dX11_readsDust_47 : decode cX11_readsDust 47 = .ok (.iaload, 1) := by decide +kernel
theorem dX11_readsDust_48 : decode cX11_readsDust 48 = .ok (.if_icmp .ge 7, 3) := by decide +kernel
theorem dX11_readsDust_51 : decode cX11_readsDust 51 = .ok (.iconst 1, 1) := by decide +kernel
theorem dX11_readsDust_52 : decode cX11_readsDust 52 = .ok (.goto 4, 3) := by decide +kernel
theorem dX11_readsDust_55 : decode cX11_readsDust 55 = .ok (.iconst 0, 1) := by decide +kernel
theorem dX11_readsDust_56 : decode cX11_readsDust 56 = .ok (.istore_n 1, 1) := by decide +kernel
theorem dX11_readsDust_57 : decode cX11_readsDust 57 = .ok (.iload_n 2, 1) := by decide +kernel
theorem dX11_readsDust_58 : decode cX11_readsDust 58 = .ok (.ifCond .eq 17, 3) := by decide +kernel
theorem dX11_readsDust_61 : decode cX11_readsDust 61 = .ok (.iload_n 1, 1) := by decide +kernel
theorem dX11_readsDust_62 : decode cX11_readsDust 62 = .ok (.ifCond .eq 23, 3) := by decide +kernel
theorem dX11_readsDust_65 : decode cX11_readsDust 65 = .ok (.aload_n 0, 1) := by decide +kernel
theorem dX11_readsDust_66 : decode cX11_readsDust 66 = .ok (.iconst 1, 1) := by decide +kernel
theorem dX11_readsDust_67 : decode cX11_readsDust 67 = .ok (.invokevirtual 98, 3) := by decide +kernel
theorem dX11_readsDust_70 : decode cX11_readsDust 70 = .ok (.bipush 59, 2) := by decide +kernel
theorem dX11_readsDust_72 : decode cX11_readsDust 72 = .ok (.if_icmp .eq 13, 3) := by decide +kernel
theorem dX11_readsDust_75 : decode cX11_readsDust 75 = .ok (.aload_n 0, 1) := by decide +kernel
theorem dX11_readsDust_76 : decode cX11_readsDust 76 = .ok (.iconst 0, 1) := by decide +kernel
theorem dX11_readsDust_77 : decode cX11_readsDust 77 = .ok (.putfield 122, 3) := by decide +kernel
theorem dX11_readsDust_80 : decode cX11_readsDust 80 = .ok (.aload_n 0, 1) := by decide +kernel
theorem dX11_readsDust_81 : decode cX11_readsDust 81 = .ok (.getfield 95, 3) := by decide +kernel
theorem dX11_readsDust_84 : decode cX11_readsDust 84 = .ok (.ireturn, 1) := by decide +kernel
theorem dX11_readsDust_85 : decode cX11_readsDust 85 = .ok (.aload_n 0, 1) := by decide +kernel
theorem dX11_readsDust_86 : decode cX11_readsDust 86 = .ok (.dup, 1) := by decide +kernel
theorem dX11_readsDust_87 : decode cX11_readsDust 87 = .ok (.getfield 95, 3) := by decide +kernel
theorem dX11_readsDust_90 : decode cX11_readsDust 90 = .ok (.iload_n 1, 1) := by decide +kernel
theorem dX11_readsDust_91 : decode cX11_readsDust 91 = .ok (.ifCond .eq 7, 3) := by decide +kernel
theorem dX11_readsDust_94 : decode cX11_readsDust 94 = .ok (.iconst 1, 1) := by decide +kernel
theorem dX11_readsDust_95 : decode cX11_readsDust 95 = .ok (.goto 4, 3) := by decide +kernel
theorem dX11_readsDust_98 : decode cX11_readsDust 98 = .ok (.iconst 0, 1) := by decide +kernel
theorem dX11_readsDust_99 : decode cX11_readsDust 99 = .ok (.iadd, 1) := by decide +kernel
theorem dX11_readsDust_100 : decode cX11_readsDust 100 = .ok (.putfield 95, 3) := by decide +kernel
theorem dX11_readsDust_103 : decode cX11_readsDust 103 = .ok (.goto (-78), 3) := by decide +kernel
theorem dX11_readsDust_106 : decode cX11_readsDust 106 = .ok (.iconst (-1), 1) := by decide +kernel
theorem dX11_readsDust_107 : decode cX11_readsDust 107 = .ok (.ireturn, 1) := by decide +kernel
theorem dX11_holds_0 : decode cX11_holds 0 = .ok (.aload_n 0, 1) := by decide +kernel
theorem dX11_holds_1 : decode cX11_holds 1 = .ok (.getfield 28, 3) := by decide +kernel
theorem dX11_holds_4 : decode cX11_holds 4 = .ok (.iconst 3, 1) := by decide +kernel
theorem dX11_holds_5 : decode cX11_holds 5 = .ok (.iload_n 1, 1) := by decide +kernel
theorem dX11_holds_6 : decode cX11_holds 6 = .ok (.imul, 1) := by decide +kernel
theorem dX11_holds_7 : decode cX11_holds 7 = .ok (.iaload, 1) := by decide +kernel
theorem dX11_holds_8 : decode cX11_holds 8 = .ok (.iload_n 2, 1) := by decide +kernel
theorem dX11_holds_9 : decode cX11_holds 9 = .ok (.iconst (-1), 1) := by decide +kernel
theorem dX11_holds_10 : decode cX11_holds 10 = .ok (.ixor, 1) := by decide +kernel
theorem dX11_holds_11 : decode cX11_holds 11 = .ok (.iand, 1) := by decide +kernel
theorem dX11_holds_12 : decode cX11_holds 12 = .ok (.ifCond .ne 7, 3) := by decide +kernel
theorem dX11_holds_15 : decode cX11_holds 15 = .ok (.iconst 1, 1) := by decide +kernel
theorem dX11_holds_16 : decode cX11_holds 16 = .ok (.goto 4, 3) := by decide +kernel
theorem dX11_holds_19 : decode cX11_holds 19 = .ok (.iconst 0, 1) := by decide +kernel
theorem dX11_holds_20 : decode cX11_holds 20 = .ok (.ireturn, 1) := by decide +kernel
theorem dX11_heldBy_0 : decode cX11_heldBy 0 = .ok (.iconst 0, 1) := by decide +kernel
theorem dX11_heldBy_1 : decode cX11_heldBy 1 = .ok (.istore_n 3, 1) := by decide +kernel
theorem dX11_heldBy_2 : decode cX11_heldBy 2 = .ok (.iconst 0, 1) := by decide +kernel
theorem dX11_heldBy_3 : decode cX11_heldBy 3 = .ok (.istore 4, 2) := by decide +kernel
theorem dX11_heldBy_5 : decode cX11_heldBy 5 = .ok (.iload 4, 2) := by decide +kernel
theorem dX11_heldBy_7 : decode cX11_heldBy 7 = .ok (.aload_n 0, 1) := by decide +kernel
theorem dX11_heldBy_8 : decode cX11_heldBy 8 = .ok (.getfield 112, 3) := by decide +kernel
theorem dX11_heldBy_11 : decode cX11_heldBy 11 = .ok (.if_icmp .ge 54, 3) := by decide +kernel
theorem dX11_heldBy_14 : decode cX11_heldBy 14 = .ok (.iload_n 3, 1) := by decide +kernel
theorem dX11_heldBy_15 : decode cX11_heldBy 15 = .ok (.aload_n 0, 1) := by decide +kernel
theorem dX11_heldBy_16 : decode cX11_heldBy 16 = .ok (.getfield 28, 3) := by decide +kernel
theorem dX11_heldBy_19 : decode cX11_heldBy 19 = .ok (.iconst 3, 1) := by decide +kernel
theorem dX11_heldBy_20 : decode cX11_heldBy 20 = .ok (.iload 4, 2) := by decide +kernel
theorem dX11_heldBy_22 : decode cX11_heldBy 22 = .ok (.imul, 1) := by decide +kernel
theorem dX11_heldBy_23 : decode cX11_heldBy 23 = .ok (.iconst 1, 1) := by decide +kernel
theorem dX11_heldBy_24 : decode cX11_heldBy 24 = .ok (.iadd, 1) := by decide +kernel
theorem dX11_heldBy_25 : decode cX11_heldBy 25 = .ok (.iaload, 1) := by decide +kernel
theorem dX11_heldBy_26 : decode cX11_heldBy 26 = .ok (.iload_n 2, 1) := by decide +kernel
theorem dX11_heldBy_27 : decode cX11_heldBy 27 = .ok (.if_icmp .ne 29, 3) := by decide +kernel
theorem dX11_heldBy_30 : decode cX11_heldBy 30 = .ok (.aload_n 0, 1) := by decide +kernel
theorem dX11_heldBy_31 : decode cX11_heldBy 31 = .ok (.iload 4, 2) := by decide +kernel
theorem dX11_heldBy_33 : decode cX11_heldBy 33 = .ok (.iload_n 1, 1) := by decide +kernel
theorem dX11_heldBy_34 : decode cX11_heldBy 34 = .ok (.invokevirtual 128, 3) := by decide +kernel
theorem dX11_heldBy_37 : decode cX11_heldBy 37 = .ok (.ifCond .eq 19, 3) := by decide +kernel
theorem dX11_heldBy_40 : decode cX11_heldBy 40 = .ok (.iconst 1, 1) := by decide +kernel
theorem dX11_heldBy_41 : decode cX11_heldBy 41 = .ok (.aload_n 0, 1) := by decide +kernel
theorem dX11_heldBy_42 : decode cX11_heldBy 42 = .ok (.getfield 28, 3) := by decide +kernel
theorem dX11_heldBy_45 : decode cX11_heldBy 45 = .ok (.iconst 3, 1) := by decide +kernel
theorem dX11_heldBy_46 : decode cX11_heldBy 46 = .ok (.iload 4, 2) := by decide +kernel
theorem dX11_heldBy_48 : decode cX11_heldBy 48 = .ok (.imul, 1) := by decide +kernel
theorem dX11_heldBy_49 : decode cX11_heldBy 49 = .ok (.iconst 2, 1) := by decide +kernel
theorem dX11_heldBy_50 : decode cX11_heldBy 50 = .ok (.iadd, 1) := by decide +kernel
theorem dX11_heldBy_51 : decode cX11_heldBy 51 = .ok (.iaload, 1) := by decide +kernel
theorem dX11_heldBy_52 : decode cX11_heldBy 52 = .ok (.ishl, 1) := by decide +kernel
theorem dX11_heldBy_53 : decode cX11_heldBy 53 = .ok (.goto 4, 3) := by decide +kernel
theorem dX11_heldBy_56 : decode cX11_heldBy 56 = .ok (.iconst 0, 1) := by decide +kernel
theorem dX11_heldBy_57 : decode cX11_heldBy 57 = .ok (.ior, 1) := by decide +kernel
theorem dX11_heldBy_58 : decode cX11_heldBy 58 = .ok (.istore_n 3, 1) := by decide +kernel
theorem dX11_heldBy_59 : decode cX11_heldBy 59 = .ok (.iinc 4 1, 3) := by decide +kernel
theorem dX11_heldBy_62 : decode cX11_heldBy 62 = .ok (.goto (-57), 3) := by decide +kernel
theorem dX11_heldBy_65 : decode cX11_heldBy 65 = .ok (.iload_n 3, 1) := by decide +kernel
theorem dX11_heldBy_66 : decode cX11_heldBy 66 = .ok (.ireturn, 1) := by decide +kernel
theorem dX11_reads_0 : decode cX11_reads 0 = .ok (.aload_n 0, 1) := by decide +kernel
theorem dX11_reads_1 : decode cX11_reads 1 = .ok (.invokevirtual 132, 3) := by decide +kernel
theorem dX11_reads_4 : decode cX11_reads 4 = .ok (.pop, 1) := by decide +kernel
theorem dX11_reads_5 : decode cX11_reads 5 = .ok (.aload_n 0, 1) := by decide +kernel
theorem dX11_reads_6 : decode cX11_reads 6 = .ok (.invokevirtual 136, 3) := by decide +kernel
theorem dX11_reads_9 : decode cX11_reads 9 = .ok (.pop, 1) := by decide +kernel
theorem dX11_reads_10 : decode cX11_reads 10 = .ok (.iconst 0, 1) := by decide +kernel
theorem dX11_reads_11 : decode cX11_reads 11 = .ok (.istore_n 1, 1) := by decide +kernel
theorem dX11_reads_12 : decode cX11_reads 12 = .ok (.iload_n 1, 1) := by decide +kernel
theorem dX11_reads_13 : decode cX11_reads 13 = .ok (.sipush 256, 3) := by decide +kernel
theorem dX11_reads_16 : decode cX11_reads 16 = .ok (.if_icmp .ge 93, 3) := by decide +kernel
theorem dX11_reads_19 : decode cX11_reads 19 = .ok (.aload_n 0, 1) := by decide +kernel
theorem dX11_reads_20 : decode cX11_reads 20 = .ok (.getfield 34, 3) := by decide +kernel
theorem dX11_reads_23 : decode cX11_reads 23 = .ok (.iload_n 1, 1) := by decide +kernel
theorem dX11_reads_24 : decode cX11_reads 24 = .ok (.aload_n 0, 1) := by decide +kernel
theorem dX11_reads_25 : decode cX11_reads 25 = .ok (.iload_n 1, 1) := by decide +kernel
theorem dX11_reads_26 : decode cX11_reads 26 = .ok (.iconst 1, 1) := by decide +kernel
theorem dX11_reads_27 : decode cX11_reads 27 = .ok (.invokevirtual 139, 3) := by decide +kernel
theorem dX11_reads_30 : decode cX11_reads 30 = .ok (.aload_n 0, 1) := by decide +kernel
theorem dX11_reads_31 : decode cX11_reads 31 = .ok (.iload_n 1, 1) := by decide +kernel
theorem dX11_reads_32 : decode cX11_reads 32 = .ok (.iconst 0, 1) := by decide +kernel
theorem dX11_reads_33 : decode cX11_reads 33 = .ok (.invokevirtual 139, 3) := by decide +kernel
theorem dX11_reads_36 : decode cX11_reads 36 = .ok (.iconst (-1), 1) := by decide +kernel
theorem dX11_reads_37 : decode cX11_reads 37 = .ok (.ixor, 1) := by decide +kernel
theorem dX11_reads_38 : decode cX11_reads 38 = .ok (.iand, 1) := by decide +kernel
theorem dX11_reads_39 : decode cX11_reads 39 = .ok (.iastore, 1) := by decide +kernel
theorem dX11_reads_40 : decode cX11_reads 40 = .ok (.aload_n 0, 1) := by decide +kernel
theorem dX11_reads_41 : decode cX11_reads 41 = .ok (.getfield 37, 3) := by decide +kernel
theorem dX11_reads_44 : decode cX11_reads 44 = .ok (.iload_n 1, 1) := by decide +kernel
theorem dX11_reads_45 : decode cX11_reads 45 = .ok (.iconst 0, 1) := by decide +kernel
theorem dX11_reads_46 : decode cX11_reads 46 = .ok (.iastore, 1) := by decide +kernel
theorem dX11_reads_47 : decode cX11_reads 47 = .ok (.iconst 0, 1) := by decide +kernel
theorem dX11_reads_48 : decode cX11_reads 48 = .ok (.istore_n 2, 1) := by decide +kernel
theorem dX11_reads_49 : decode cX11_reads 49 = .ok (.iload_n 2, 1) := by decide +kernel
theorem dX11_reads_50 : decode cX11_reads 50 = .ok (.aload_n 0, 1) := by decide +kernel
theorem dX11_reads_51 : decode cX11_reads 51 = .ok (.getfield 122, 3) := by decide +kernel
theorem dX11_reads_54 : decode cX11_reads 54 = .ok (.if_icmp .ge 49, 3) := by decide +kernel
theorem dX11_reads_57 : decode cX11_reads 57 = .ok (.aload_n 0, 1) := by decide +kernel
theorem dX11_reads_58 : decode cX11_reads 58 = .ok (.getfield 37, 3) := by decide +kernel
theorem dX11_reads_61 : decode cX11_reads 61 = .ok (.iload_n 1, 1) := by decide +kernel
theorem dX11_reads_62 : decode cX11_reads 62 = .ok (.dup2, 1) := by decide +kernel
theorem dX11_reads_63 : decode cX11_reads 63 = .ok (.iaload, 1) := by decide +kernel
theorem dX11_reads_64 : decode cX11_reads 64 = .ok (.iload_n 1, 1) := by decide +kernel
theorem dX11_reads_65 : decode cX11_reads 65 = .ok (.aload_n 0, 1) := by decide +kernel
theorem dX11_reads_66 : decode cX11_reads 66 = .ok (.getfield 31, 3) := by decide +kernel
theorem dX11_reads_69 : decode cX11_reads 69 = .ok (.iconst 2, 1) := by decide +kernel
theorem dX11_reads_70 : decode cX11_reads 70 = .ok (.iload_n 2, 1) := by decide +kernel
theorem dX11_reads_71 : decode cX11_reads 71 = .ok (.imul, 1) := by decide +kernel
theorem dX11_reads_72 : decode cX11_reads 72 = .ok (.iaload, 1) := by decide +kernel
theorem dX11_reads_73 : decode cX11_reads 73 = .ok (.invokestatic 142, 3) := by decide +kernel
theorem dX11_reads_76 : decode cX11_reads 76 = .ok (.ifCond .eq 18, 3) := by decide +kernel
theorem dX11_reads_79 : decode cX11_reads 79 = .ok (.iconst 1, 1) := by decide +kernel
theorem dX11_reads_80 : decode cX11_reads 80 = .ok (.aload_n 0, 1) := by decide +kernel
theorem dX11_reads_81 : decode cX11_reads 81 = .ok (.getfield 31, 3) := by decide +kernel
theorem dX11_reads_84 : decode cX11_reads 84 = .ok (.iconst 2, 1) := by decide +kernel
theorem dX11_reads_85 : decode cX11_reads 85 = .ok (.iload_n 2, 1) := by decide +kernel
theorem dX11_reads_86 : decode cX11_reads 86 = .ok (.imul, 1) := by decide +kernel
theorem dX11_reads_87 : decode cX11_reads 87 = .ok (.iconst 1, 1) := by decide +kernel
theorem dX11_reads_88 : decode cX11_reads 88 = .ok (.iadd, 1) := by decide +kernel
theorem dX11_reads_89 : decode cX11_reads 89 = .ok (.iaload, 1) := by decide +kernel
theorem dX11_reads_90 : decode cX11_reads 90 = .ok (.ishl, 1) := by decide +kernel
theorem dX11_reads_91 : decode cX11_reads 91 = .ok (.goto 4, 3) := by decide +kernel
theorem dX11_reads_94 : decode cX11_reads 94 = .ok (.iconst 0, 1) := by decide +kernel
theorem dX11_reads_95 : decode cX11_reads 95 = .ok (.ior, 1) := by decide +kernel
theorem dX11_reads_96 : decode cX11_reads 96 = .ok (.iastore, 1) := by decide +kernel
theorem dX11_reads_97 : decode cX11_reads 97 = .ok (.iinc 2 1, 3) := by decide +kernel
theorem dX11_reads_100 : decode cX11_reads 100 = .ok (.goto (-51), 3) := by decide +kernel
theorem dX11_reads_103 : decode cX11_reads 103 = .ok (.iinc 1 1, 3) := by decide +kernel
theorem dX11_reads_106 : decode cX11_reads 106 = .ok (.goto (-94), 3) := by decide +kernel
theorem dX11_reads_109 : decode cX11_reads 109 = .ok (.return_, 1) := by decide +kernel
theorem dX11_fault_0 : decode cX11_fault 0 = .ok (.iload_n 1, 1) := by decide +kernel
theorem dX11_fault_1 : decode cX11_fault 1 = .ok (.invokestatic 90, 3) := by decide +kernel
theorem dX11_fault_4 : decode cX11_fault 4 = .ok (.ifCond .ne 8, 3) := by decide +kernel
theorem dX11_fault_7 : decode cX11_fault 7 = .ok (.bipush (-2), 2) := by decide +kernel
theorem dX11_fault_9 : decode cX11_fault 9 = .ok (.goto 18, 3) := by decide +kernel
theorem dX11_fault_12 : decode cX11_fault 12 = .ok (.iload_n 1, 1) := by decide +kernel
theorem dX11_fault_13 : decode cX11_fault 13 = .ok (.ifCond .ne 10, 3) := by decide +kernel
theorem dX11_fault_16 : decode cX11_fault 16 = .ok (.aload_n 0, 1) := by decide +kernel
theorem dX11_fault_17 : decode cX11_fault 17 = .ok (.invokevirtual 132, 3) := by decide +kernel
theorem dX11_fault_20 : decode cX11_fault 20 = .ok (.goto 7, 3) := by decide +kernel
theorem dX11_fault_23 : decode cX11_fault 23 = .ok (.aload_n 0, 1) := by decide +kernel
theorem dX11_fault_24 : decode cX11_fault 24 = .ok (.invokevirtual 136, 3) := by decide +kernel
theorem dX11_fault_27 : decode cX11_fault 27 = .ok (.ireturn, 1) := by decide +kernel
theorem dX11_rule_0 : decode cX11_rule 0 = .ok (.aload_n 0, 1) := by decide +kernel
theorem dX11_rule_1 : decode cX11_rule 1 = .ok (.invokevirtual 132, 3) := by decide +kernel
theorem dX11_rule_4 : decode cX11_rule 4 = .ok (.pop, 1) := by decide +kernel
theorem dX11_rule_5 : decode cX11_rule 5 = .ok (.iload_n 1, 1) := by decide +kernel
theorem dX11_rule_6 : decode cX11_rule 6 = .ok (.i2l, 1) := by decide +kernel
theorem dX11_rule_7 : decode cX11_rule 7 = .ok (.lconst 0, 1) := by decide +kernel
theorem dX11_rule_8 : decode cX11_rule 8 = .ok (.aload_n 0, 1) := by decide +kernel
theorem dX11_rule_9 : decode cX11_rule 9 = .ok (.getfield 112, 3) := by decide +kernel
theorem dX11_rule_12 : decode cX11_rule 12 = .ok (.iconst 1, 1) := by decide +kernel
theorem dX11_rule_13 : decode cX11_rule 13 = .ok (.isub, 1) := by decide +kernel
theorem dX11_rule_14 : decode cX11_rule 14 = .ok (.i2l, 1) := by decide +kernel
theorem dX11_rule_15 : decode cX11_rule 15 = .ok (.invokestatic 61, 3) := by decide +kernel
theorem dX11_rule_18 : decode cX11_rule 18 = .ok (.ifCond .eq 28, 3) := by decide +kernel
theorem dX11_rule_21 : decode cX11_rule 21 = .ok (.iload_n 2, 1) := by decide +kernel
theorem dX11_rule_22 : decode cX11_rule 22 = .ok (.i2l, 1) := by decide +kernel
theorem dX11_rule_23 : decode cX11_rule 23 = .ok (.lconst 0, 1) := by decide +kernel
theorem dX11_rule_24 : decode cX11_rule 24 = .ok (.ldc2_w 75, 3) := by decide +kernel
theorem dX11_rule_27 : decode cX11_rule 27 = .ok (.invokestatic 61, 3) := by decide +kernel
theorem dX11_rule_30 : decode cX11_rule 30 = .ok (.ifCond .eq 16, 3) := by decide +kernel
theorem dX11_rule_33 : decode cX11_rule 33 = .ok (.aload_n 0, 1) := by decide +kernel
theorem dX11_rule_34 : decode cX11_rule 34 = .ok (.getfield 28, 3) := by decide +kernel
theorem dX11_rule_37 : decode cX11_rule 37 = .ok (.iconst 3, 1) := by decide +kernel
theorem dX11_rule_38 : decode cX11_rule 38 = .ok (.iload_n 1, 1) := by decide +kernel
theorem dX11_rule_39 : decode cX11_rule 39 = .ok (.imul, 1) := by decide +kernel
theorem dX11_rule_40 : decode cX11_rule 40 = .ok (.iload_n 2, 1) := by decide +kernel
theorem dX11_rule_41 : decode cX11_rule 41 = .ok (.iadd, 1) := by decide +kernel
theorem dX11_rule_42 : decode cX11_rule 42 = .ok (.iaload, 1) := by decide +kernel
theorem dX11_rule_43 : decode cX11_rule 43 = .ok (.goto 5, 3) := by decide +kernel
theorem dX11_rule_46 : decode cX11_rule 46 = .ok (.bipush (-2), 2) := by decide +kernel
theorem dX11_rule_48 : decode cX11_rule 48 = .ok (.ireturn, 1) := by decide +kernel
theorem dX11_dust_0 : decode cX11_dust 0 = .ok (.aload_n 0, 1) := by decide +kernel
theorem dX11_dust_1 : decode cX11_dust 1 = .ok (.invokevirtual 136, 3) := by decide +kernel
theorem dX11_dust_4 : decode cX11_dust 4 = .ok (.pop, 1) := by decide +kernel
theorem dX11_dust_5 : decode cX11_dust 5 = .ok (.iload_n 1, 1) := by decide +kernel
theorem dX11_dust_6 : decode cX11_dust 6 = .ok (.i2l, 1) := by decide +kernel
theorem dX11_dust_7 : decode cX11_dust 7 = .ok (.lconst 0, 1) := by decide +kernel
theorem dX11_dust_8 : decode cX11_dust 8 = .ok (.aload_n 0, 1) := by decide +kernel
theorem dX11_dust_9 : decode cX11_dust 9 = .ok (.getfield 122, 3) := by decide +kernel
theorem dX11_dust_12 : decode cX11_dust 12 = .ok (.iconst 1, 1) := by decide +kernel
theorem dX11_dust_13 : decode cX11_dust 13 = .ok (.isub, 1) := by decide +kernel
theorem dX11_dust_14 : decode cX11_dust 14 = .ok (.i2l, 1) := by decide +kernel
theorem dX11_dust_15 : decode cX11_dust 15 = .ok (.invokestatic 61, 3) := by decide +kernel
theorem dX11_dust_18 : decode cX11_dust 18 = .ok (.ifCond .eq 23, 3) := by decide +kernel
theorem dX11_dust_21 : decode cX11_dust 21 = .ok (.iload_n 2, 1) := by decide +kernel
theorem dX11_dust_22 : decode cX11_dust 22 = .ok (.invokestatic 90, 3) := by decide +kernel
theorem dX11_dust_25 : decode cX11_dust 25 = .ok (.ifCond .eq 16, 3) := by decide +kernel
theorem dX11_dust_28 : decode cX11_dust 28 = .ok (.aload_n 0, 1) := by decide +kernel
theorem dX11_dust_29 : decode cX11_dust 29 = .ok (.getfield 31, 3) := by decide +kernel
theorem dX11_dust_32 : decode cX11_dust 32 = .ok (.iconst 2, 1) := by decide +kernel
theorem dX11_dust_33 : decode cX11_dust 33 = .ok (.iload_n 1, 1) := by decide +kernel
theorem dX11_dust_34 : decode cX11_dust 34 = .ok (.imul, 1) := by decide +kernel
theorem dX11_dust_35 : decode cX11_dust 35 = .ok (.iload_n 2, 1) := by decide +kernel
theorem dX11_dust_36 : decode cX11_dust 36 = .ok (.iadd, 1) := by decide +kernel
theorem dX11_dust_37 : decode cX11_dust 37 = .ok (.iaload, 1) := by decide +kernel
theorem dX11_dust_38 : decode cX11_dust 38 = .ok (.goto 5, 3) := by decide +kernel
theorem dX11_dust_41 : decode cX11_dust 41 = .ok (.bipush (-2), 2) := by decide +kernel
theorem dX11_dust_43 : decode cX11_dust 43 = .ok (.ireturn, 1) := by decide +kernel
theorem dX11_isSet_0 : decode cX11_isSet 0 = .ok (.iload_n 0, 1) := by decide +kernel
theorem dX11_isSet_1 : decode cX11_isSet 1 = .ok (.i2l, 1) := by decide +kernel
theorem dX11_isSet_2 : decode cX11_isSet 2 = .ok (.lconst 0, 1) := by decide +kernel
theorem dX11_isSet_3 : decode cX11_isSet 3 = .ok (.ldc2_w 93, 3) := by decide +kernel
theorem dX11_isSet_6 : decode cX11_isSet 6 = .ok (.invokestatic 61, 3) := by decide +kernel
theorem dX11_isSet_9 : decode cX11_isSet 9 = .ok (.ireturn, 1) := by decide +kernel
theorem dX11_isThing_0 : decode cX11_isThing 0 = .ok (.iload_n 0, 1) := by decide +kernel
theorem dX11_isThing_1 : decode cX11_isThing 1 = .ok (.i2l, 1) := by decide +kernel
theorem dX11_isThing_2 : decode cX11_isThing 2 = .ok (.lconst 0, 1) := by decide +kernel
theorem dX11_isThing_3 : decode cX11_isThing 3 = .ok (.ldc2_w 145, 3) := by decide +kernel
theorem dX11_isThing_6 : decode cX11_isThing 6 = .ok (.invokestatic 61, 3) := by decide +kernel
theorem dX11_isThing_9 : decode cX11_isThing 9 = .ok (.ireturn, 1) := by decide +kernel
theorem dX11_first_0 : decode cX11_first 0 = .ok (.iload_n 1, 1) := by decide +kernel
theorem dX11_first_1 : decode cX11_first 1 = .ok (.invokestatic 147, 3) := by decide +kernel
theorem dX11_first_4 : decode cX11_first 4 = .ok (.ifCond .ne 6, 3) := by decide +kernel
theorem dX11_first_7 : decode cX11_first 7 = .ok (.bipush (-2), 2) := by decide +kernel
theorem dX11_first_9 : decode cX11_first 9 = .ok (.ireturn, 1) := by decide +kernel
theorem dX11_first_10 : decode cX11_first 10 = .ok (.aload_n 0, 1) := by decide +kernel
theorem dX11_first_11 : decode cX11_first 11 = .ok (.getfield 150, 3) := by decide +kernel
theorem dX11_first_14 : decode cX11_first 14 = .ok (.istore_n 2, 1) := by decide +kernel
theorem dX11_first_15 : decode cX11_first 15 = .ok (.aload_n 0, 1) := by decide +kernel
theorem dX11_first_16 : decode cX11_first 16 = .ok (.iload_n 1, 1) := by decide +kernel
theorem dX11_first_17 : decode cX11_first 17 = .ok (.putfield 150, 3) := by decide +kernel
theorem dX11_first_20 : decode cX11_first 20 = .ok (.iload_n 2, 1) := by decide +kernel
theorem dX11_first_21 : decode cX11_first 21 = .ok (.ireturn, 1) := by decide +kernel
theorem dX11_comes_0 : decode cX11_comes 0 = .ok (.aload_n 0, 1) := by decide +kernel
theorem dX11_comes_1 : decode cX11_comes 1 = .ok (.invokevirtual 153, 3) := by decide +kernel
theorem dX11_comes_4 : decode cX11_comes 4 = .ok (.iload_n 1, 1) := by decide +kernel
theorem dX11_comes_5 : decode cX11_comes 5 = .ok (.invokestatic 147, 3) := by decide +kernel
theorem dX11_comes_8 : decode cX11_comes 8 = .ok (.ifCond .eq 12, 3) := by decide +kernel
theorem dX11_comes_11 : decode cX11_comes 11 = .ok (.aload_n 0, 1) := by decide +kernel
theorem dX11_comes_12 : decode cX11_comes 12 = .ok (.getfield 34, 3) := by decide +kernel
theorem dX11_comes_15 : decode cX11_comes 15 = .ok (.iload_n 1, 1) := by decide +kernel
theorem dX11_comes_16 : decode cX11_comes 16 = .ok (.iaload, 1) := by decide +kernel
theorem dX11_comes_17 : decode cX11_comes 17 = .ok (.goto 5, 3) := by decide +kernel
theorem dX11_comes_20 : decode cX11_comes 20 = .ok (.bipush (-2), 2) := by decide +kernel
theorem dX11_comes_22 : decode cX11_comes 22 = .ok (.ireturn, 1) := by decide +kernel
theorem dX11_lays_0 : decode cX11_lays 0 = .ok (.aload_n 0, 1) := by decide +kernel
theorem dX11_lays_1 : decode cX11_lays 1 = .ok (.invokevirtual 153, 3) := by decide +kernel
theorem dX11_lays_4 : decode cX11_lays 4 = .ok (.iload_n 1, 1) := by decide +kernel
theorem dX11_lays_5 : decode cX11_lays 5 = .ok (.invokestatic 147, 3) := by decide +kernel
theorem dX11_lays_8 : decode cX11_lays 8 = .ok (.ifCond .eq 12, 3) := by decide +kernel
theorem dX11_lays_11 : decode cX11_lays 11 = .ok (.aload_n 0, 1) := by decide +kernel
theorem dX11_lays_12 : decode cX11_lays 12 = .ok (.getfield 37, 3) := by decide +kernel
theorem dX11_lays_15 : decode cX11_lays 15 = .ok (.iload_n 1, 1) := by decide +kernel
theorem dX11_lays_16 : decode cX11_lays 16 = .ok (.iaload, 1) := by decide +kernel
theorem dX11_lays_17 : decode cX11_lays 17 = .ok (.goto 5, 3) := by decide +kernel
theorem dX11_lays_20 : decode cX11_lays 20 = .ok (.bipush (-2), 2) := by decide +kernel
theorem dX11_lays_22 : decode cX11_lays 22 = .ok (.ireturn, 1) := by decide +kernel
theorem dX11_next_0 : decode cX11_next 0 = .ok (.aload_n 0, 1) := by decide +kernel
theorem dX11_next_1 : decode cX11_next 1 = .ok (.getfield 37, 3) := by decide +kernel
theorem dX11_next_4 : decode cX11_next 4 = .ok (.aload_n 0, 1) := by decide +kernel
theorem dX11_next_5 : decode cX11_next 5 = .ok (.getfield 34, 3) := by decide +kernel
theorem dX11_next_8 : decode cX11_next 8 = .ok (.iload_n 1, 1) := by decide +kernel
theorem dX11_next_9 : decode cX11_next 9 = .ok (.iaload, 1) := by decide +kernel
theorem dX11_next_10 : decode cX11_next 10 = .ok (.iaload, 1) := by decide +kernel
theorem dX11_next_11 : decode cX11_next 11 = .ok (.ireturn, 1) := by decide +kernel
theorem dX11_lay_0 : decode cX11_lay 0 = .ok (.iload_n 1, 1) := by decide +kernel
theorem dX11_lay_1 : decode cX11_lay 1 = .ok (.i2l, 1) := by decide +kernel
theorem dX11_lay_2 : decode cX11_lay 2 = .ok (.lconst 0, 1) := by decide +kernel
theorem dX11_lay_3 : decode cX11_lay 3 = .ok (.ldc2_w 156, 3) := by decide +kernel
theorem dX11_lay_6 : decode cX11_lay 6 = .ok (.invokestatic 61, 3) := by decide +kernel
theorem dX11_lay_9 : decode cX11_lay 9 = .ok (.ifCond .eq 17, 3) := by decide +kernel
theorem dX11_lay_12 : decode cX11_lay 12 = .ok (.iload_n 2, 1) := by decide +kernel
theorem dX11_lay_13 : decode cX11_lay 13 = .ok (.invokestatic 158, 3) := by decide +kernel
theorem dX11_lay_16 : decode cX11_lay 16 = .ok (.ifCond .eq 10, 3) := by decide +kernel
theorem dX11_lay_19 : decode cX11_lay 19 = .ok (.iload_n 3, 1) := by decide +kernel
theorem dX11_lay_20 : decode cX11_lay 20 = .ok (.invokestatic 90, 3) := by decide +kernel
theorem dX11_lay_23 : decode cX11_lay 23 = .ok (.ifCond .ne 6, 3) := by decide +kernel
theorem dX11_lay_26 : decode cX11_lay 26 = .ok (.bipush (-2), 2) := by decide +kernel
theorem dX11_lay_28 : decode cX11_lay 28 = .ok (.ireturn, 1) := by decide +kernel
theorem dX11_lay_29 : decode cX11_lay 29 = .ok (.aload_n 0, 1) := by decide +kernel
theorem dX11_lay_30 : decode cX11_lay 30 = .ok (.getfield 161, 3) := by decide +kernel
theorem dX11_lay_33 : decode cX11_lay 33 = .ok (.bipush 12, 2) := by decide +kernel
theorem dX11_lay_35 : decode cX11_lay 35 = .ok (.if_icmp .ne 6, 3) := by decide +kernel
theorem dX11_lay_38 : decode cX11_lay 38 = .ok (.bipush (-4), 2) := by decide +kernel
theorem dX11_lay_40 : decode cX11_lay 40 = .ok (.ireturn, 1) := by decide +kernel
theorem dX11_lay_41 : decode cX11_lay 41 = .ok (.aload_n 0, 1) := by decide +kernel
theorem dX11_lay_42 : decode cX11_lay 42 = .ok (.getfield 40, 3) := by decide +kernel
theorem dX11_lay_45 : decode cX11_lay 45 = .ok (.iconst 3, 1) := by decide +kernel
theorem dX11_lay_46 : decode cX11_lay 46 = .ok (.aload_n 0, 1) := by decide +kernel
theorem dX11_lay_47 : decode cX11_lay 47 = .ok (.getfield 161, 3) := by decide +kernel
theorem dX11_lay_50 : decode cX11_lay 50 = .ok (.imul, 1) := by decide +kernel
theorem dX11_lay_51 : decode cX11_lay 51 = .ok (.iload_n 1, 1) := by decide +kernel
theorem dX11_lay_52 : decode cX11_lay 52 = .ok (.iastore, 1) := by decide +kernel
theorem dX11_lay_53 : decode cX11_lay 53 = .ok (.aload_n 0, 1) := by decide +kernel
theorem dX11_lay_54 : decode cX11_lay 54 = .ok (.getfield 40, 3) := by decide +kernel
theorem dX11_lay_57 : decode cX11_lay 57 = .ok (.iconst 3, 1) := by decide +kernel
theorem dX11_lay_58 : decode cX11_lay 58 = .ok (.aload_n 0, 1) := by decide +kernel
theorem dX11_lay_59 : decode cX11_lay 59 = .ok (.getfield 161, 3) := by decide +kernel
theorem dX11_lay_62 : decode cX11_lay 62 = .ok (.imul, 1) := by decide +kernel
theorem dX11_lay_63 : decode cX11_lay 63 = .ok (.iconst 1, 1) := by decide +kernel
theorem dX11_lay_64 : decode cX11_lay 64 = .ok (.iadd, 1) := by decide +kernel
theorem dX11_lay_65 : decode cX11_lay 65 = .ok (.iload_n 2, 1) := by decide +kernel
theorem dX11_lay_66 : decode cX11_lay 66 = .ok (.iastore, 1) := by decide +kernel
theorem dX11_lay_67 : decode cX11_lay 67 = .ok (.aload_n 0, 1) := by decide +kernel
theorem dX11_lay_68 : decode cX11_lay 68 = .ok (.getfield 40, 3) := by decide +kernel
theorem dX11_lay_71 : decode cX11_lay 71 = .ok (.iconst 3, 1) := by decide +kernel
theorem dX11_lay_72 : decode cX11_lay 72 = .ok (.aload_n 0, 1) := by decide +kernel
theorem dX11_lay_73 : decode cX11_lay 73 = .ok (.getfield 161, 3) := by decide +kernel
theorem dX11_lay_76 : decode cX11_lay 76 = .ok (.imul, 1) := by decide +kernel
theorem dX11_lay_77 : decode cX11_lay 77 = .ok (.iconst 2, 1) := by decide +kernel
theorem dX11_lay_78 : decode cX11_lay 78 = .ok (.iadd, 1) := by decide +kernel
theorem dX11_lay_79 : decode cX11_lay 79 = .ok (.iload_n 3, 1) := by decide +kernel
theorem dX11_lay_80 : decode cX11_lay 80 = .ok (.iastore, 1) := by decide +kernel
theorem dX11_lay_81 : decode cX11_lay 81 = .ok (.aload_n 0, 1) := by decide +kernel
theorem dX11_lay_82 : decode cX11_lay 82 = .ok (.dup, 1) := by decide +kernel
theorem dX11_lay_83 : decode cX11_lay 83 = .ok (.getfield 161, 3) := by decide +kernel
theorem dX11_lay_86 : decode cX11_lay 86 = .ok (.iconst 1, 1) := by decide +kernel
theorem dX11_lay_87 : decode cX11_lay 87 = .ok (.iadd, 1) := by decide +kernel
theorem dX11_lay_88 : decode cX11_lay 88 = .ok (.putfield 161, 3) := by decide +kernel
theorem dX11_lay_91 : decode cX11_lay 91 = .ok (.aload_n 0, 1) := by decide +kernel
theorem dX11_lay_92 : decode cX11_lay 92 = .ok (.getfield 161, 3) := by decide +kernel
theorem dX11_lay_95 : decode cX11_lay 95 = .ok (.ireturn, 1) := by decide +kernel
theorem dX11_back_0 : decode cX11_back 0 = .ok (.aload_n 0, 1) := by decide +kernel
theorem dX11_back_1 : decode cX11_back 1 = .ok (.getfield 161, 3) := by decide +kernel
theorem dX11_back_4 : decode cX11_back 4 = .ok (.ifCond .ne 6, 3) := by decide +kernel
theorem dX11_back_7 : decode cX11_back 7 = .ok (.bipush (-3), 2) := by decide +kernel
theorem dX11_back_9 : decode cX11_back 9 = .ok (.ireturn, 1) := by decide +kernel
theorem dX11_back_10 : decode cX11_back 10 = .ok (.aload_n 0, 1) := by decide +kernel
theorem dX11_back_11 : decode cX11_back 11 = .ok (.dup, 1) := by decide +kernel
theorem dX11_back_12 : decode cX11_back 12 = .ok (.getfield 161, 3) := by decide +kernel
theorem dX11_back_15 : decode cX11_back 15 = .ok (.iconst 1, 1) := by decide +kernel
theorem dX11_back_16 : decode cX11_back 16 = .ok (.isub, 1) := by decide +kernel
theorem dX11_back_17 : decode cX11_back 17 = .ok (.putfield 161, 3) := by decide +kernel
theorem dX11_back_20 : decode cX11_back 20 = .ok (.aload_n 0, 1) := by decide +kernel
theorem dX11_back_21 : decode cX11_back 21 = .ok (.getfield 161, 3) := by decide +kernel
theorem dX11_back_24 : decode cX11_back 24 = .ok (.ireturn, 1) := by decide +kernel
theorem dX11_lives_0 : decode cX11_lives 0 = .ok (.aload_n 0, 1) := by decide +kernel
theorem dX11_lives_1 : decode cX11_lives 1 = .ok (.invokevirtual 153, 3) := by decide +kernel
theorem dX11_lives_4 : decode cX11_lives 4 = .ok (.iconst 0, 1) := by decide +kernel
theorem dX11_lives_5 : decode cX11_lives 5 = .ok (.istore_n 1, 1) := by decide +kernel
theorem dX11_lives_6 : decode cX11_lives 6 = .ok (.iload_n 1, 1) := by decide +kernel
theorem dX11_lives_7 : decode cX11_lives 7 = .ok (.bipush 30, 2) := by decide +kernel
theorem dX11_lives_9 : decode cX11_lives 9 = .ok (.if_icmp .ge 146, 3) := by decide +kernel
theorem dX11_lives_12 : decode cX11_lives 12 = .ok (.aload_n 0, 1) := by decide +kernel
theorem dX11_lives_13 : decode cX11_lives 13 = .ok (.getfield 46, 3) := by decide +kernel
theorem dX11_lives_16 : decode cX11_lives 16 = .ok (.iload_n 1, 1) := by decide +kernel
theorem dX11_lives_17 : decode cX11_lives 17 = .ok (.iload_n 1, 1) := by decide +kernel
theorem dX11_lives_18 : decode cX11_lives 18 = .ok (.ifCond .ne 7, 3) := by decide +kernel
theorem dX11_lives_21 : decode cX11_lives 21 = .ok (.iconst 0, 1) := by decide +kernel
theorem dX11_lives_22 : decode cX11_lives 22 = .ok (.goto 16, 3) := by decide +kernel
theorem dX11_lives_25 : decode cX11_lives 25 = .ok (.aload_n 0, 1) := by decide +kernel
theorem dX11_lives_26 : decode cX11_lives 26 = .ok (.getfield 34, 3) := by decide +kernel
theorem dX11_lives_29 : decode cX11_lives 29 = .ok (.aload_n 0, 1) := by decide +kernel
theorem dX11_lives_30 : decode cX11_lives 30 = .ok (.getfield 43, 3) := by decide +kernel
theorem dX11_lives_33 : decode cX11_lives 33 = .ok (.iload_n 1, 1) := by decide +kernel
theorem dX11_lives_34 : decode cX11_lives 34 = .ok (.iconst 1, 1) := by decide +kernel
theorem dX11_lives_35 : decode cX11_lives 35 = .ok (.isub, 1) := by decide +kernel
theorem dX11_lives_36 : decode cX11_lives 36 = .ok (.iaload, 1) := by decide +kernel
theorem dX11_lives_37 : decode cX11_lives 37 = .ok (.iaload, 1) := by decide +kernel
theorem dX11_lives_38 : decode cX11_lives 38 = .ok (.iastore, 1) := by decide +kernel
theorem dX11_lives_39 : decode cX11_lives 39 = .ok (.aload_n 0, 1) := by decide +kernel
theorem dX11_lives_40 : decode cX11_lives 40 = .ok (.getfield 43, 3) := by decide +kernel
theorem dX11_lives_43 : decode cX11_lives 43 = .ok (.iload_n 1, 1) := by decide +kernel
theorem dX11_lives_44 : decode cX11_lives 44 = .ok (.iload_n 1, 1) := by decide +kernel
theorem dX11_lives_45 : decode cX11_lives 45 = .ok (.ifCond .ne 10, 3) := by decide +kernel
theorem dX11_lives_48 : decode cX11_lives 48 = .ok (.aload_n 0, 1) := by decide +kernel
theorem dX11_lives_49 : decode cX11_lives 49 = .ok (.getfield 150, 3) := by decide +kernel
theorem dX11_lives_52 : decode cX11_lives 52 = .ok (.goto 14, 3) := by decide +kernel
theorem dX11_lives_55 : decode cX11_lives 55 = .ok (.aload_n 0, 1) := by decide +kernel
theorem dX11_lives_56 : decode cX11_lives 56 = .ok (.getfield 37, 3) := by decide +kernel
theorem dX11_lives_59 : decode cX11_lives 59 = .ok (.aload_n 0, 1) := by decide +kernel
theorem dX11_lives_60 : decode cX11_lives 60 = .ok (.getfield 46, 3) := by decide +kernel
theorem dX11_lives_63 : decode cX11_lives 63 = .ok (.iload_n 1, 1) := by decide +kernel
theorem dX11_lives_64 : decode cX11_lives 64 = .ok (.iaload, 1) := by decide +kernel
theorem dX11_lives_65 : decode cX11_lives 65 = .ok (.iaload, 1) := by decide +kernel
theorem dX11_lives_66 : decode cX11_lives 66 = .ok (.iastore, 1) := by decide +kernel
theorem dX11_lives_67 : decode cX11_lives 67 = .ok (.iconst 0, 1) := by decide +kernel
theorem dX11_lives_68 : decode cX11_lives 68 = .ok (.istore_n 2, 1) := by decide +kernel
theorem dX11_lives_69 : decode cX11_lives 69 = .ok (.iload_n 2, 1) := by decide +kernel
theorem dX11_lives_70 : decode cX11_lives 70 = .ok (.aload_n 0, 1) := by decide +kernel
theorem dX11_lives_71 : decode cX11_lives 71 = .ok (.getfield 161, 3) := by decide +kernel
theorem dX11_lives_74 : decode cX11_lives 74 = .ok (.if_icmp .ge 75, 3) := by decide +kernel
theorem dX11_lives_77 : decode cX11_lives 77 = .ok (.aload_n 0, 1) := by decide +kernel
theorem dX11_lives_78 : decode cX11_lives 78 = .ok (.getfield 40, 3) := by decide +kernel
theorem dX11_lives_81 : decode cX11_lives 81 = .ok (.iconst 3, 1) := by decide +kernel
theorem dX11_lives_82 : decode cX11_lives 82 = .ok (.iload_n 2, 1) := by decide +kernel
theorem dX11_lives_83 : decode cX11_lives 83 = .ok (.imul, 1) := by decide +kernel
theorem dX11_lives_84 : decode cX11_lives 84 = .ok (.iaload, 1) := by decide +kernel
theorem dX11_lives_85 : decode cX11_lives 85 = .ok (.iload_n 1, 1) := by decide +kernel
theorem dX11_lives_86 : decode cX11_lives 86 = .ok (.if_icmp .ne 57, 3) := by decide +kernel
theorem dX11_lives_89 : decode cX11_lives 89 = .ok (.iconst 1, 1) := by decide +kernel
theorem dX11_lives_90 : decode cX11_lives 90 = .ok (.aload_n 0, 1) := by decide +kernel
theorem dX11_lives_91 : decode cX11_lives 91 = .ok (.getfield 40, 3) := by decide +kernel
theorem dX11_lives_94 : decode cX11_lives 94 = .ok (.iconst 3, 1) := by decide +kernel
theorem dX11_lives_95 : decode cX11_lives 95 = .ok (.iload_n 2, 1) := by decide +kernel
theorem dX11_lives_96 : decode cX11_lives 96 = .ok (.imul, 1) := by decide +kernel
theorem dX11_lives_97 : decode cX11_lives 97 = .ok (.iconst 1, 1) := by decide +kernel
theorem dX11_lives_98 : decode cX11_lives 98 = .ok (.iadd, 1) := by decide +kernel
theorem dX11_lives_99 : decode cX11_lives 99 = .ok (.iaload, 1) := by decide +kernel
theorem dX11_lives_100 : decode cX11_lives 100 = .ok (.ishl, 1) := by decide +kernel
theorem dX11_lives_101 : decode cX11_lives 101 = .ok (.istore_n 3, 1) := by decide +kernel
theorem dX11_lives_102 : decode cX11_lives 102 = .ok (.aload_n 0, 1) := by decide +kernel
theorem dX11_lives_103 : decode cX11_lives 103 = .ok (.getfield 43, 3) := by decide +kernel
theorem dX11_lives_106 : decode cX11_lives 106 = .ok (.iload_n 1, 1) := by decide +kernel
theorem dX11_lives_107 : decode cX11_lives 107 = .ok (.aload_n 0, 1) := by decide +kernel
theorem dX11_lives_108 : decode cX11_lives 108 = .ok (.getfield 40, 3) := by decide +kernel
theorem dX11_lives_111 : decode cX11_lives 111 = .ok (.iconst 3, 1) := by decide +kernel
theorem dX11_lives_112 : decode cX11_lives 112 = .ok (.iload_n 2, 1) := by decide +kernel
theorem dX11_lives_113 : decode cX11_lives 113 = .ok (.imul, 1) := by decide +kernel
theorem dX11_lives_114 : decode cX11_lives 114 = .ok (.iconst 2, 1) := by decide +kernel
theorem dX11_lives_115 : decode cX11_lives 115 = .ok (.iadd, 1) := by decide +kernel
theorem dX11_lives_116 : decode cX11_lives 116 = .ok (.iaload, 1) := by decide +kernel
theorem dX11_lives_117 : decode cX11_lives 117 = .ok (.iconst 1, 1) := by decide +kernel
theorem dX11_lives_118 : decode cX11_lives 118 = .ok (.if_icmp .ne 14, 3) := by decide +kernel
theorem dX11_lives_121 : decode cX11_lives 121 = .ok (.aload_n 0, 1) := by decide +kernel
theorem dX11_lives_122 : decode cX11_lives 122 = .ok (.getfield 43, 3) := by decide +kernel
theorem dX11_lives_125 : decode cX11_lives 125 = .ok (.iload_n 1, 1) := by decide +kernel
theorem dX11_lives_126 : decode cX11_lives 126 = .ok (.iaload, 1) := by decide +kernel
theorem dX11_lives_127 : decode cX11_lives 127 = .ok (.iload_n 3, 1) := by decide +kernel
theorem dX11_lives_128 : decode cX11_lives 128 = .ok (.ior, 1) := by decide +kernel
theorem dX11_lives_129 : decode cX11_lives 129 = .ok (.goto 13, 3) := by decide +kernel
theorem dX11_lives_132 : decode cX11_lives 132 = .ok (.aload_n 0, 1) := by decide +kernel
theorem dX11_lives_133 : decode cX11_lives 133 = .ok (.getfield 43, 3) := by decide +kernel
theorem dX11_lives_136 : decode cX11_lives 136 = .ok (.iload_n 1, 1) := by decide +kernel
theorem dX11_lives_137 : decode cX11_lives 137 = .ok (.iaload, 1) := by decide +kernel
theorem dX11_lives_138 : decode cX11_lives 138 = .ok (.iload_n 3, 1) := by decide +kernel
theorem dX11_lives_139 : decode cX11_lives 139 = .ok (.iconst (-1), 1) := by decide +kernel
theorem dX11_lives_140 : decode cX11_lives 140 = .ok (.ixor, 1) := by decide +kernel
theorem dX11_lives_141 : decode cX11_lives 141 = .ok (.iand, 1) := by decide +kernel
theorem dX11_lives_142 : decode cX11_lives 142 = .ok (.iastore, 1) := by decide +kernel
theorem dX11_lives_143 : decode cX11_lives 143 = .ok (.iinc 2 1, 3) := by decide +kernel
theorem dX11_lives_146 : decode cX11_lives 146 = .ok (.goto (-77), 3) := by decide +kernel
theorem dX11_lives_149 : decode cX11_lives 149 = .ok (.iinc 1 1, 3) := by decide +kernel
theorem dX11_lives_152 : decode cX11_lives 152 = .ok (.goto (-146), 3) := by decide +kernel
theorem dX11_lives_155 : decode cX11_lives 155 = .ok (.return_, 1) := by decide +kernel
theorem dX11_week_0 : decode cX11_week 0 = .ok (.aload_n 0, 1) := by decide +kernel
theorem dX11_week_1 : decode cX11_week 1 = .ok (.invokevirtual 164, 3) := by decide +kernel
theorem dX11_week_4 : decode cX11_week 4 = .ok (.iload_n 1, 1) := by decide +kernel
theorem dX11_week_5 : decode cX11_week 5 = .ok (.i2l, 1) := by decide +kernel
theorem dX11_week_6 : decode cX11_week 6 = .ok (.lconst 0, 1) := by decide +kernel
theorem dX11_week_7 : decode cX11_week 7 = .ok (.ldc2_w 156, 3) := by decide +kernel
theorem dX11_week_10 : decode cX11_week 10 = .ok (.invokestatic 61, 3) := by decide +kernel
theorem dX11_week_13 : decode cX11_week 13 = .ok (.ifCond .eq 32, 3) := by decide +kernel
theorem dX11_week_16 : decode cX11_week 16 = .ok (.iload_n 2, 1) := by decide +kernel
theorem dX11_week_17 : decode cX11_week 17 = .ok (.invokestatic 90, 3) := by decide +kernel
theorem dX11_week_20 : decode cX11_week 20 = .ok (.ifCond .eq 25, 3) := by decide +kernel
theorem dX11_week_23 : decode cX11_week 23 = .ok (.iload_n 2, 1) := by decide +kernel
theorem dX11_week_24 : decode cX11_week 24 = .ok (.ifCond .ne 12, 3) := by decide +kernel
theorem dX11_week_27 : decode cX11_week 27 = .ok (.aload_n 0, 1) := by decide +kernel
theorem dX11_week_28 : decode cX11_week 28 = .ok (.getfield 43, 3) := by decide +kernel
theorem dX11_week_31 : decode cX11_week 31 = .ok (.iload_n 1, 1) := by decide +kernel
theorem dX11_week_32 : decode cX11_week 32 = .ok (.iaload, 1) := by decide +kernel
theorem dX11_week_33 : decode cX11_week 33 = .ok (.goto 14, 3) := by decide +kernel
theorem dX11_week_36 : decode cX11_week 36 = .ok (.aload_n 0, 1) := by decide +kernel
theorem dX11_week_37 : decode cX11_week 37 = .ok (.getfield 46, 3) := by decide +kernel
theorem dX11_week_40 : decode cX11_week 40 = .ok (.iload_n 1, 1) := by decide +kernel
theorem dX11_week_41 : decode cX11_week 41 = .ok (.iaload, 1) := by decide +kernel
theorem dX11_week_42 : decode cX11_week 42 = .ok (.goto 5, 3) := by decide +kernel
theorem dX11_week_45 : decode cX11_week 45 = .ok (.bipush (-2), 2) := by decide +kernel
theorem dX11_week_47 : decode cX11_week 47 = .ok (.ireturn, 1) := by decide +kernel
theorem dX11_judgedNow_0 : decode cX11_judgedNow 0 = .ok (.iconst 0, 1) := by decide +kernel
theorem dX11_judgedNow_1 : decode cX11_judgedNow 1 = .ok (.istore_n 1, 1) := by decide +kernel
theorem dX11_judgedNow_2 : decode cX11_judgedNow 2 = .ok (.iload_n 1, 1) := by decide +kernel
theorem dX11_judgedNow_3 : decode cX11_judgedNow 3 = .ok (.bipush 30, 2) := by decide +kernel
theorem dX11_judgedNow_5 : decode cX11_judgedNow 5 = .ok (.if_icmp .ge 37, 3) := by decide +kernel
theorem dX11_judgedNow_8 : decode cX11_judgedNow 8 = .ok (.aload_n 0, 1) := by decide +kernel
theorem dX11_judgedNow_9 : decode cX11_judgedNow 9 = .ok (.aload_n 0, 1) := by decide +kernel
theorem dX11_judgedNow_10 : decode cX11_judgedNow 10 = .ok (.getfield 43, 3) := by decide +kernel
theorem dX11_judgedNow_13 : decode cX11_judgedNow 13 = .ok (.iload_n 1, 1) := by decide +kernel
theorem dX11_judgedNow_14 : decode cX11_judgedNow 14 = .ok (.iaload, 1) := by decide +kernel
theorem dX11_judgedNow_15 : decode cX11_judgedNow 15 = .ok (.iconst 1, 1) := by decide +kernel
theorem dX11_judgedNow_16 : decode cX11_judgedNow 16 = .ok (.invokevirtual 139, 3) := by decide +kernel
theorem dX11_judgedNow_19 : decode cX11_judgedNow 19 = .ok (.aload_n 0, 1) := by decide +kernel
theorem dX11_judgedNow_20 : decode cX11_judgedNow 20 = .ok (.aload_n 0, 1) := by decide +kernel
theorem dX11_judgedNow_21 : decode cX11_judgedNow 21 = .ok (.getfield 43, 3) := by decide +kernel
theorem dX11_judgedNow_24 : decode cX11_judgedNow 24 = .ok (.iload_n 1, 1) := by decide +kernel
theorem dX11_judgedNow_25 : decode cX11_judgedNow 25 = .ok (.iaload, 1) := by decide +kernel
theorem dX11_judgedNow_26 : decode cX11_judgedNow 26 = .ok (.iconst 0, 1) := by decide +kernel
theorem dX11_judgedNow_27 : decode cX11_judgedNow 27 = .ok (.invokevirtual 139, 3) := by decide +kernel
theorem dX11_judgedNow_30 : decode cX11_judgedNow 30 = .ok (.iand, 1) := by decide +kernel
theorem dX11_judgedNow_31 : decode cX11_judgedNow 31 = .ok (.ifCond .eq 5, 3) := by decide +kernel
theorem dX11_judgedNow_34 : decode cX11_judgedNow 34 = .ok (.iload_n 1, 1) := by decide +kernel
theorem dX11_judgedNow_35 : decode cX11_judgedNow 35 = .ok (.ireturn, 1) := by decide +kernel
theorem dX11_judgedNow_36 : decode cX11_judgedNow 36 = .ok (.iinc 1 1, 3) := by decide +kernel
theorem dX11_judgedNow_39 : decode cX11_judgedNow 39 = .ok (.goto (-37), 3) := by decide +kernel
theorem dX11_judgedNow_42 : decode cX11_judgedNow 42 = .ok (.iconst (-1), 1) := by decide +kernel
theorem dX11_judgedNow_43 : decode cX11_judgedNow 43 = .ok (.ireturn, 1) := by decide +kernel
theorem dX11_judged_0 : decode cX11_judged 0 = .ok (.aload_n 0, 1) := by decide +kernel
theorem dX11_judged_1 : decode cX11_judged 1 = .ok (.invokevirtual 164, 3) := by decide +kernel
theorem dX11_judged_4 : decode cX11_judged 4 = .ok (.aload_n 0, 1) := by decide +kernel
theorem dX11_judged_5 : decode cX11_judged 5 = .ok (.invokevirtual 167, 3) := by decide +kernel
theorem dX11_judged_8 : decode cX11_judged 8 = .ok (.ireturn, 1) := by decide +kernel
theorem dX11_twoNow_0 : decode cX11_twoNow 0 = .ok (.iconst 0, 1) := by decide +kernel
theorem dX11_twoNow_1 : decode cX11_twoNow 1 = .ok (.istore_n 1, 1) := by decide +kernel
theorem dX11_twoNow_2 : decode cX11_twoNow 2 = .ok (.iload_n 1, 1) := by decide +kernel
theorem dX11_twoNow_3 : decode cX11_twoNow 3 = .ok (.bipush 8, 2) := by decide +kernel
theorem dX11_twoNow_5 : decode cX11_twoNow 5 = .ok (.if_icmp .ge 85, 3) := by decide +kernel
theorem dX11_twoNow_8 : decode cX11_twoNow 8 = .ok (.iconst 0, 1) := by decide +kernel
theorem dX11_twoNow_9 : decode cX11_twoNow 9 = .ok (.istore_n 2, 1) := by decide +kernel
theorem dX11_twoNow_10 : decode cX11_twoNow 10 = .ok (.iconst 0, 1) := by decide +kernel
theorem dX11_twoNow_11 : decode cX11_twoNow 11 = .ok (.istore_n 3, 1) := by decide +kernel
theorem dX11_twoNow_12 : decode cX11_twoNow 12 = .ok (.iload_n 3, 1) := by decide +kernel
theorem dX11_twoNow_13 : decode cX11_twoNow 13 = .ok (.aload_n 0, 1) := by decide +kernel
theorem dX11_twoNow_14 : decode cX11_twoNow 14 = .ok (.getfield 112, 3) := by decide +kernel
theorem dX11_twoNow_17 : decode cX11_twoNow 17 = .ok (.if_icmp .ge 57, 3) := by decide +kernel
theorem dX11_twoNow_20 : decode cX11_twoNow 20 = .ok (.iload_n 2, 1) := by decide +kernel
theorem dX11_twoNow_21 : decode cX11_twoNow 21 = .ok (.aload_n 0, 1) := by decide +kernel
theorem dX11_twoNow_22 : decode cX11_twoNow 22 = .ok (.getfield 28, 3) := by decide +kernel
theorem dX11_twoNow_25 : decode cX11_twoNow 25 = .ok (.iconst 3, 1) := by decide +kernel
theorem dX11_twoNow_26 : decode cX11_twoNow 26 = .ok (.iload_n 3, 1) := by decide +kernel
theorem dX11_twoNow_27 : decode cX11_twoNow 27 = .ok (.imul, 1) := by decide +kernel
theorem dX11_twoNow_28 : decode cX11_twoNow 28 = .ok (.iconst 1, 1) := by decide +kernel
theorem dX11_twoNow_29 : decode cX11_twoNow 29 = .ok (.iadd, 1) := by decide +kernel
theorem dX11_twoNow_30 : decode cX11_twoNow 30 = .ok (.iaload, 1) := by decide +kernel
theorem dX11_twoNow_31 : decode cX11_twoNow 31 = .ok (.iconst 1, 1) := by decide +kernel
theorem dX11_twoNow_32 : decode cX11_twoNow 32 = .ok (.if_icmp .ne 33, 3) := by decide +kernel
theorem dX11_twoNow_35 : decode cX11_twoNow 35 = .ok (.aload_n 0, 1) := by decide +kernel
theorem dX11_twoNow_36 : decode cX11_twoNow 36 = .ok (.getfield 28, 3) := by decide +kernel
theorem dX11_twoNow_39 : decode cX11_twoNow 39 = .ok (.iconst 3, 1) := by decide +kernel
theorem dX11_twoNow_40 : decode cX11_twoNow 40 = .ok (.iload_n 3, 1) := by decide +kernel
theorem dX11_twoNow_41 : decode cX11_twoNow 41 = .ok (.imul, 1) := by decide +kernel
theorem dX11_twoNow_42 : decode cX11_twoNow 42 = .ok (.iaload, 1) := by decide +kernel
theorem dX11_twoNow_43 : decode cX11_twoNow 43 = .ok (.iload_n 1, 1) := by decide +kernel
theorem dX11_twoNow_44 : decode cX11_twoNow 44 = .ok (.invokestatic 142, 3) := by decide +kernel
theorem dX11_twoNow_47 : decode cX11_twoNow 47 = .ok (.ifCond .eq 18, 3) := by decide +kernel
theorem dX11_twoNow_50 : decode cX11_twoNow 50 = .ok (.iconst 1, 1) := by decide +kernel
theorem dX11_twoNow_51 : decode cX11_twoNow 51 = .ok (.aload_n 0, 1) := by decide +kernel
theorem dX11_twoNow_52 : decode cX11_twoNow 52 = .ok (.getfield 28, 3) := by decide +kernel
theorem dX11_twoNow_55 : decode cX11_twoNow 55 = .ok (.iconst 3, 1) := by decide +kernel
theorem dX11_twoNow_56 : decode cX11_twoNow 56 = .ok (.iload_n 3, 1) := by decide +kernel
theorem dX11_twoNow_57 : decode cX11_twoNow 57 = .ok (.imul, 1) := by decide +kernel
theorem dX11_twoNow_58 : decode cX11_twoNow 58 = .ok (.iconst 2, 1) := by decide +kernel
theorem dX11_twoNow_59 : decode cX11_twoNow 59 = .ok (.iadd, 1) := by decide +kernel
theorem dX11_twoNow_60 : decode cX11_twoNow 60 = .ok (.iaload, 1) := by decide +kernel
theorem dX11_twoNow_61 : decode cX11_twoNow 61 = .ok (.ishl, 1) := by decide +kernel
theorem dX11_twoNow_62 : decode cX11_twoNow 62 = .ok (.goto 4, 3) := by decide +kernel
theorem dX11_twoNow_65 : decode cX11_twoNow 65 = .ok (.iconst 0, 1) := by decide +kernel
theorem dX11_twoNow_66 : decode cX11_twoNow 66 = .ok (.ior, 1) := by decide +kernel
theorem dX11_twoNow_67 : decode cX11_twoNow 67 = .ok (.istore_n 2, 1) := by decide +kernel
theorem dX11_twoNow_68 : decode cX11_twoNow 68 = .ok (.iinc 3 1, 3) := by decide +kernel
theorem dX11_twoNow_71 : decode cX11_twoNow 71 = .ok (.goto (-59), 3) := by decide +kernel
theorem dX11_twoNow_74 : decode cX11_twoNow 74 = .ok (.iload_n 2, 1) := by decide +kernel
theorem dX11_twoNow_75 : decode cX11_twoNow 75 = .ok (.invokestatic 170, 3) := by decide +kernel
theorem dX11_twoNow_78 : decode cX11_twoNow 78 = .ok (.iconst 1, 1) := by decide +kernel
theorem dX11_twoNow_79 : decode cX11_twoNow 79 = .ok (.if_icmp .le 5, 3) := by decide +kernel
theorem dX11_twoNow_82 : decode cX11_twoNow 82 = .ok (.iload_n 1, 1) := by decide +kernel
theorem dX11_twoNow_83 : decode cX11_twoNow 83 = .ok (.ireturn, 1) := by decide +kernel
theorem dX11_twoNow_84 : decode cX11_twoNow 84 = .ok (.iinc 1 1, 3) := by decide +kernel
theorem dX11_twoNow_87 : decode cX11_twoNow 87 = .ok (.goto (-85), 3) := by decide +kernel
theorem dX11_twoNow_90 : decode cX11_twoNow 90 = .ok (.iconst (-1), 1) := by decide +kernel
theorem dX11_twoNow_91 : decode cX11_twoNow 91 = .ok (.ireturn, 1) := by decide +kernel
theorem dX11_two_0 : decode cX11_two 0 = .ok (.aload_n 0, 1) := by decide +kernel
theorem dX11_two_1 : decode cX11_two 1 = .ok (.invokevirtual 132, 3) := by decide +kernel
theorem dX11_two_4 : decode cX11_two 4 = .ok (.pop, 1) := by decide +kernel
theorem dX11_two_5 : decode cX11_two 5 = .ok (.aload_n 0, 1) := by decide +kernel
theorem dX11_two_6 : decode cX11_two 6 = .ok (.invokevirtual 173, 3) := by decide +kernel
theorem dX11_two_9 : decode cX11_two 9 = .ok (.ireturn, 1) := by decide +kernel
theorem dX11_second_0 : decode cX11_second 0 = .ok (.aload_n 0, 1) := by decide +kernel
theorem dX11_second_1 : decode cX11_second 1 = .ok (.invokevirtual 153, 3) := by decide +kernel
theorem dX11_second_4 : decode cX11_second 4 = .ok (.iload_n 1, 1) := by decide +kernel
theorem dX11_second_5 : decode cX11_second 5 = .ok (.invokestatic 147, 3) := by decide +kernel
theorem dX11_second_8 : decode cX11_second 8 = .ok (.ifCond .eq 17, 3) := by decide +kernel
theorem dX11_second_11 : decode cX11_second 11 = .ok (.aload_n 0, 1) := by decide +kernel
theorem dX11_second_12 : decode cX11_second 12 = .ok (.getfield 34, 3) := by decide +kernel
theorem dX11_second_15 : decode cX11_second 15 = .ok (.aload_n 0, 1) := by decide +kernel
theorem dX11_second_16 : decode cX11_second 16 = .ok (.getfield 34, 3) := by decide +kernel
theorem dX11_second_19 : decode cX11_second 19 = .ok (.iload_n 1, 1) := by decide +kernel
theorem dX11_second_20 : decode cX11_second 20 = .ok (.iaload, 1) := by decide +kernel
theorem dX11_second_21 : decode cX11_second 21 = .ok (.iaload, 1) := by decide +kernel
theorem dX11_second_22 : decode cX11_second 22 = .ok (.goto 5, 3) := by decide +kernel
theorem dX11_second_25 : decode cX11_second 25 = .ok (.bipush (-2), 2) := by decide +kernel
theorem dX11_second_27 : decode cX11_second 27 = .ok (.ireturn, 1) := by decide +kernel
theorem dX11_comeIn_0 : decode cX11_comeIn 0 = .ok (.iload_n 2, 1) := by decide +kernel
theorem dX11_comeIn_1 : decode cX11_comeIn 1 = .ok (.istore_n 3, 1) := by decide +kernel
theorem dX11_comeIn_2 : decode cX11_comeIn 2 = .ok (.iconst 1, 1) := by decide +kernel
theorem dX11_comeIn_3 : decode cX11_comeIn 3 = .ok (.istore 4, 2) := by decide +kernel
theorem dX11_comeIn_5 : decode cX11_comeIn 5 = .ok (.iload 4, 2) := by decide +kernel
theorem dX11_comeIn_7 : decode cX11_comeIn 7 = .ok (.iload_n 1, 1) := by decide +kernel
theorem dX11_comeIn_8 : decode cX11_comeIn 8 = .ok (.if_icmp .ge 15, 3) := by decide +kernel
theorem dX11_comeIn_11 : decode cX11_comeIn 11 = .ok (.aload_n 0, 1) := by decide +kernel
theorem dX11_comeIn_12 : decode cX11_comeIn 12 = .ok (.iload_n 3, 1) := by decide +kernel
theorem dX11_comeIn_13 : decode cX11_comeIn 13 = .ok (.invokevirtual 176, 3) := by decide +kernel
theorem dX11_comeIn_16 : decode cX11_comeIn 16 = .ok (.istore_n 3, 1) := by decide +kernel
theorem dX11_comeIn_17 : decode cX11_comeIn 17 = .ok (.iinc 4 1, 3) := by decide +kernel
theorem dX11_comeIn_20 : decode cX11_comeIn 20 = .ok (.goto (-15), 3) := by decide +kernel
theorem dX11_comeIn_23 : decode cX11_comeIn 23 = .ok (.aload_n 0, 1) := by decide +kernel
theorem dX11_comeIn_24 : decode cX11_comeIn 24 = .ok (.getfield 34, 3) := by decide +kernel
theorem dX11_comeIn_27 : decode cX11_comeIn 27 = .ok (.iload_n 3, 1) := by decide +kernel
theorem dX11_comeIn_28 : decode cX11_comeIn 28 = .ok (.iaload, 1) := by decide +kernel
theorem dX11_comeIn_29 : decode cX11_comeIn 29 = .ok (.ireturn, 1) := by decide +kernel
theorem dX11_told_0 : decode cX11_told 0 = .ok (.iload_n 0, 1) := by decide +kernel
theorem dX11_told_1 : decode cX11_told 1 = .ok (.iconst (-1), 1) := by decide +kernel
theorem dX11_told_2 : decode cX11_told 2 = .ok (.if_icmp .eq 8, 3) := by decide +kernel
theorem dX11_told_5 : decode cX11_told 5 = .ok (.iload_n 1, 1) := by decide +kernel
theorem dX11_told_6 : decode cX11_told 6 = .ok (.iconst 1, 1) := by decide +kernel
theorem dX11_told_7 : decode cX11_told 7 = .ok (.if_icmp .ne 7, 3) := by decide +kernel
theorem dX11_told_10 : decode cX11_told 10 = .ok (.iload_n 0, 1) := by decide +kernel
theorem dX11_told_11 : decode cX11_told 11 = .ok (.goto 7, 3) := by decide +kernel
theorem dX11_told_14 : decode cX11_told 14 = .ok (.iload_n 0, 1) := by decide +kernel
theorem dX11_told_15 : decode cX11_told 15 = .ok (.invokestatic 170, 3) := by decide +kernel
theorem dX11_told_18 : decode cX11_told 18 = .ok (.ireturn, 1) := by decide +kernel
theorem dX11_touchOf_0 : decode cX11_touchOf 0 = .ok (.iconst (-1), 1) := by decide +kernel
theorem dX11_touchOf_1 : decode cX11_touchOf 1 = .ok (.istore 4, 2) := by decide +kernel
theorem dX11_touchOf_3 : decode cX11_touchOf 3 = .ok (.iconst 0, 1) := by decide +kernel
theorem dX11_touchOf_4 : decode cX11_touchOf 4 = .ok (.istore 5, 2) := by decide +kernel
theorem dX11_touchOf_6 : decode cX11_touchOf 6 = .ok (.iload 5, 2) := by decide +kernel
theorem dX11_touchOf_8 : decode cX11_touchOf 8 = .ok (.sipush 256, 3) := by decide +kernel
theorem dX11_touchOf_11 : decode cX11_touchOf 11 = .ok (.if_icmp .ge 79, 3) := by decide +kernel
theorem dX11_touchOf_14 : decode cX11_touchOf 14 = .ok (.aload_n 0, 1) := by decide +kernel
theorem dX11_touchOf_15 : decode cX11_touchOf 15 = .ok (.iload_n 1, 1) := by decide +kernel
theorem dX11_touchOf_16 : decode cX11_touchOf 16 = .ok (.aload_n 0, 1) := by decide +kernel
theorem dX11_touchOf_17 : decode cX11_touchOf 17 = .ok (.getfield 150, 3) := by decide +kernel
theorem dX11_touchOf_20 : decode cX11_touchOf 20 = .ok (.iload 5, 2) := by decide +kernel
theorem dX11_touchOf_22 : decode cX11_touchOf 22 = .ok (.ixor, 1) := by decide +kernel
theorem dX11_touchOf_23 : decode cX11_touchOf 23 = .ok (.invokevirtual 179, 3) := by decide +kernel
theorem dX11_touchOf_26 : decode cX11_touchOf 26 = .ok (.istore 6, 2) := by decide +kernel
theorem dX11_touchOf_28 : decode cX11_touchOf 28 = .ok (.iload_n 2, 1) := by decide +kernel
theorem dX11_touchOf_29 : decode cX11_touchOf 29 = .ok (.iload 6, 2) := by decide +kernel
theorem dX11_touchOf_31 : decode cX11_touchOf 31 = .ok (.iconst (-1), 1) := by decide +kernel
theorem dX11_touchOf_32 : decode cX11_touchOf 32 = .ok (.ixor, 1) := by decide +kernel
theorem dX11_touchOf_33 : decode cX11_touchOf 33 = .ok (.iand, 1) := by decide +kernel
theorem dX11_touchOf_34 : decode cX11_touchOf 34 = .ok (.ifCond .ne 14, 3) := by decide +kernel
theorem dX11_touchOf_37 : decode cX11_touchOf 37 = .ok (.iload_n 3, 1) := by decide +kernel
theorem dX11_touchOf_38 : decode cX11_touchOf 38 = .ok (.iload 6, 2) := by decide +kernel
theorem dX11_touchOf_40 : decode cX11_touchOf 40 = .ok (.iand, 1) := by decide +kernel
theorem dX11_touchOf_41 : decode cX11_touchOf 41 = .ok (.ifCond .ne 7, 3) := by decide +kernel
theorem dX11_touchOf_44 : decode cX11_touchOf 44 = .ok (.iconst 1, 1) := by decide +kernel
theorem dX11_touchOf_45 : decode cX11_touchOf 45 = .ok (.goto 4, 3) := by decide +kernel
theorem dX11_touchOf_48 : decode cX11_touchOf 48 = .ok (.iconst 0, 1) := by decide +kernel
theorem dX11_touchOf_49 : decode cX11_touchOf 49 = .ok (.istore 7, 2) := by decide +kernel
theorem dX11_touchOf_51 : decode cX11_touchOf 51 = .ok (.iload 7, 2) := by decide +kernel
theorem dX11_touchOf_53 : decode cX11_touchOf 53 = .ok (.ifCond .eq 27, 3) := by decide +kernel
theorem dX11_touchOf_56 : decode cX11_touchOf 56 = .ok (.iload 4, 2) := by decide +kernel
theorem dX11_touchOf_58 : decode cX11_touchOf 58 = .ok (.iconst (-1), 1) := by decide +kernel
theorem dX11_touchOf_59 : decode cX11_touchOf 59 = .ok (.if_icmp .eq 16, 3) := by decide +kernel
theorem dX11_touchOf_62 : decode cX11_touchOf 62 = .ok (.iload 5, 2) := by decide +kernel
theorem dX11_touchOf_64 : decode cX11_touchOf 64 = .ok (.invokestatic 170, 3) := by decide +kernel
theorem dX11_touchOf_67 : decode cX11_touchOf 67 = .ok (.iload 4, 2) := by decide +kernel
theorem dX11_touchOf_69 : decode cX11_touchOf 69 = .ok (.invokestatic 170, 3) := by decide +kernel
theorem dX11_touchOf_72 : decode cX11_touchOf 72 = .ok (.if_icmp .ge 8, 3) := by decide +kernel
theorem dX11_touchOf_75 : decode cX11_touchOf 75 = .ok (.iload 5, 2) := by decide +kernel
theorem dX11_touchOf_77 : decode cX11_touchOf 77 = .ok (.goto 5, 3) := by decide +kernel
theorem dX11_touchOf_80 : decode cX11_touchOf 80 = .ok (.iload 4, 2) := by decide +kernel
theorem dX11_touchOf_82 : decode cX11_touchOf 82 = .ok (.istore 4, 2) := by decide +kernel
theorem dX11_touchOf_84 : decode cX11_touchOf 84 = .ok (.iinc 5 1, 3) := by decide +kernel
theorem dX11_touchOf_87 : decode cX11_touchOf 87 = .ok (.goto (-81), 3) := by decide +kernel
theorem dX11_touchOf_90 : decode cX11_touchOf 90 = .ok (.iload 4, 2) := by decide +kernel
theorem dX11_touchOf_92 : decode cX11_touchOf 92 = .ok (.ireturn, 1) := by decide +kernel
theorem dX11_touch_0 : decode cX11_touch 0 = .ok (.iload_n 1, 1) := by decide +kernel
theorem dX11_touch_1 : decode cX11_touch 1 = .ok (.i2l, 1) := by decide +kernel
theorem dX11_touch_2 : decode cX11_touch 2 = .ok (.lconst 1, 1) := by decide +kernel
theorem dX11_touch_3 : decode cX11_touch 3 = .ok (.ldc2_w 182, 3) := by decide +kernel
theorem dX11_touch_6 : decode cX11_touch 6 = .ok (.invokestatic 61, 3) := by decide +kernel
theorem dX11_touch_9 : decode cX11_touch 9 = .ok (.ifCond .eq 31, 3) := by decide +kernel
theorem dX11_touch_12 : decode cX11_touch 12 = .ok (.iload_n 2, 1) := by decide +kernel
theorem dX11_touch_13 : decode cX11_touch 13 = .ok (.invokestatic 147, 3) := by decide +kernel
theorem dX11_touch_16 : decode cX11_touch 16 = .ok (.ifCond .eq 24, 3) := by decide +kernel
theorem dX11_touch_19 : decode cX11_touch 19 = .ok (.iload_n 3, 1) := by decide +kernel
theorem dX11_touch_20 : decode cX11_touch 20 = .ok (.invokestatic 147, 3) := by decide +kernel
theorem dX11_touch_23 : decode cX11_touch 23 = .ok (.ifCond .eq 17, 3) := by decide +kernel
theorem dX11_touch_26 : decode cX11_touch 26 = .ok (.iload_n 2, 1) := by decide +kernel
theorem dX11_touch_27 : decode cX11_touch 27 = .ok (.iload_n 3, 1) := by decide +kernel
theorem dX11_touch_28 : decode cX11_touch 28 = .ok (.iand, 1) := by decide +kernel
theorem dX11_touch_29 : decode cX11_touch 29 = .ok (.ifCond .ne 11, 3) := by decide +kernel
theorem dX11_touch_32 : decode cX11_touch 32 = .ok (.iload 4, 2) := by decide +kernel
theorem dX11_touch_34 : decode cX11_touch 34 = .ok (.invokestatic 90, 3) := by decide +kernel
theorem dX11_touch_37 : decode cX11_touch 37 = .ok (.ifCond .ne 6, 3) := by decide +kernel
theorem dX11_touch_40 : decode cX11_touch 40 = .ok (.bipush (-2), 2) := by decide +kernel
theorem dX11_touch_42 : decode cX11_touch 42 = .ok (.ireturn, 1) := by decide +kernel
theorem dX11_touch_43 : decode cX11_touch 43 = .ok (.aload_n 0, 1) := by decide +kernel
theorem dX11_touch_44 : decode cX11_touch 44 = .ok (.invokevirtual 153, 3) := by decide +kernel
theorem dX11_touch_47 : decode cX11_touch 47 = .ok (.aload_n 0, 1) := by decide +kernel
theorem dX11_touch_48 : decode cX11_touch 48 = .ok (.iload_n 1, 1) := by decide +kernel
theorem dX11_touch_49 : decode cX11_touch 49 = .ok (.iload_n 2, 1) := by decide +kernel
theorem dX11_touch_50 : decode cX11_touch 50 = .ok (.iload_n 3, 1) := by decide +kernel
theorem dX11_touch_51 : decode cX11_touch 51 = .ok (.invokevirtual 184, 3) := by decide +kernel
theorem dX11_touch_54 : decode cX11_touch 54 = .ok (.iload 4, 2) := by decide +kernel
theorem dX11_touch_56 : decode cX11_touch 56 = .ok (.invokestatic 187, 3) := by decide +kernel
theorem dX11_touch_59 : decode cX11_touch 59 = .ok (.ireturn, 1) := by decide +kernel
theorem dX11_isOff_0 : decode cX11_isOff 0 = .ok (.iconst 1, 1) := by decide +kernel
theorem dX11_isOff_1 : decode cX11_isOff 1 = .ok (.istore 4, 2) := by decide +kernel
theorem dX11_isOff_3 : decode cX11_isOff 3 = .ok (.iconst 1, 1) := by decide +kernel
theorem dX11_isOff_4 : decode cX11_isOff 4 = .ok (.istore 5, 2) := by decide +kernel
theorem dX11_isOff_6 : decode cX11_isOff 6 = .ok (.iload 5, 2) := by decide +kernel
theorem dX11_isOff_8 : decode cX11_isOff 8 = .ok (.iload_n 1, 1) := by decide +kernel
theorem dX11_isOff_9 : decode cX11_isOff 9 = .ok (.if_icmp .gt 35, 3) := by decide +kernel
theorem dX11_isOff_12 : decode cX11_isOff 12 = .ok (.iload 4, 2) := by decide +kernel
theorem dX11_isOff_14 : decode cX11_isOff 14 = .ok (.ifCond .eq 21, 3) := by decide +kernel
theorem dX11_isOff_17 : decode cX11_isOff 17 = .ok (.aload_n 0, 1) := by decide +kernel
theorem dX11_isOff_18 : decode cX11_isOff 18 = .ok (.iload 5, 2) := by decide +kernel
theorem dX11_isOff_20 : decode cX11_isOff 20 = .ok (.iload_n 3, 1) := by decide +kernel
theorem dX11_isOff_21 : decode cX11_isOff 21 = .ok (.invokevirtual 179, 3) := by decide +kernel
theorem dX11_isOff_24 : decode cX11_isOff 24 = .ok (.iload_n 2, 1) := by decide +kernel
theorem dX11_isOff_25 : decode cX11_isOff 25 = .ok (.invokestatic 142, 3) := by decide +kernel
theorem dX11_isOff_28 : decode cX11_isOff 28 = .ok (.ifCond .ne 7, 3) := by decide +kernel
theorem dX11_isOff_31 : decode cX11_isOff 31 = .ok (.iconst 1, 1) := by decide +kernel
theorem dX11_isOff_32 : decode cX11_isOff 32 = .ok (.goto 4, 3) := by decide +kernel
theorem dX11_isOff_35 : decode cX11_isOff 35 = .ok (.iconst 0, 1) := by decide +kernel
theorem dX11_isOff_36 : decode cX11_isOff 36 = .ok (.istore 4, 2) := by decide +kernel
theorem dX11_isOff_38 : decode cX11_isOff 38 = .ok (.iinc 5 1, 3) := by decide +kernel
theorem dX11_isOff_41 : decode cX11_isOff 41 = .ok (.goto (-35), 3) := by decide +kernel
theorem dX11_isOff_44 : decode cX11_isOff 44 = .ok (.iload 4, 2) := by decide +kernel
theorem dX11_isOff_46 : decode cX11_isOff 46 = .ok (.ireturn, 1) := by decide +kernel
theorem dX11_keepOffOf_0 : decode cX11_keepOffOf 0 = .ok (.iconst (-1), 1) := by decide +kernel
theorem dX11_keepOffOf_1 : decode cX11_keepOffOf 1 = .ok (.istore_n 3, 1) := by decide +kernel
theorem dX11_keepOffOf_2 : decode cX11_keepOffOf 2 = .ok (.iconst 0, 1) := by decide +kernel
theorem dX11_keepOffOf_3 : decode cX11_keepOffOf 3 = .ok (.istore 4, 2) := by decide +kernel
theorem dX11_keepOffOf_5 : decode cX11_keepOffOf 5 = .ok (.iload 4, 2) := by decide +kernel
theorem dX11_keepOffOf_7 : decode cX11_keepOffOf 7 = .ok (.sipush 256, 3) := by decide +kernel
theorem dX11_keepOffOf_10 : decode cX11_keepOffOf 10 = .ok (.if_icmp .ge 75, 3) := by decide +kernel
theorem dX11_keepOffOf_13 : decode cX11_keepOffOf 13 = .ok (.iload 4, 2) := by decide +kernel
theorem dX11_keepOffOf_15 : decode cX11_keepOffOf 15 = .ok (.aload_n 0, 1) := by decide +kernel
theorem dX11_keepOffOf_16 : decode cX11_keepOffOf 16 = .ok (.getfield 150, 3) := by decide +kernel
theorem dX11_keepOffOf_19 : decode cX11_keepOffOf 19 = .ok (.iconst (-1), 1) := by decide +kernel
theorem dX11_keepOffOf_20 : decode cX11_keepOffOf 20 = .ok (.ixor, 1) := by decide +kernel
theorem dX11_keepOffOf_21 : decode cX11_keepOffOf 21 = .ok (.iand, 1) := by decide +kernel
theorem dX11_keepOffOf_22 : decode cX11_keepOffOf 22 = .ok (.ifCond .ne 24, 3) := by decide +kernel
theorem dX11_keepOffOf_25 : decode cX11_keepOffOf 25 = .ok (.iload_n 3, 1) := by decide +kernel
theorem dX11_keepOffOf_26 : decode cX11_keepOffOf 26 = .ok (.iconst (-1), 1) := by decide +kernel
theorem dX11_keepOffOf_27 : decode cX11_keepOffOf 27 = .ok (.if_icmp .eq 15, 3) := by decide +kernel
theorem dX11_keepOffOf_30 : decode cX11_keepOffOf 30 = .ok (.iload 4, 2) := by decide +kernel
theorem dX11_keepOffOf_32 : decode cX11_keepOffOf 32 = .ok (.invokestatic 170, 3) := by decide +kernel
theorem dX11_keepOffOf_35 : decode cX11_keepOffOf 35 = .ok (.iload_n 3, 1) := by decide +kernel
theorem dX11_keepOffOf_36 : decode cX11_keepOffOf 36 = .ok (.invokestatic 170, 3) := by decide +kernel
theorem dX11_keepOffOf_39 : decode cX11_keepOffOf 39 = .ok (.if_icmp .ge 7, 3) := by decide +kernel
theorem dX11_keepOffOf_42 : decode cX11_keepOffOf 42 = .ok (.iconst 1, 1) := by decide +kernel
theorem dX11_keepOffOf_43 : decode cX11_keepOffOf 43 = .ok (.goto 4, 3) := by decide +kernel
theorem dX11_keepOffOf_46 : decode cX11_keepOffOf 46 = .ok (.iconst 0, 1) := by decide +kernel
theorem dX11_keepOffOf_47 : decode cX11_keepOffOf 47 = .ok (.istore 5, 2) := by decide +kernel
theorem dX11_keepOffOf_49 : decode cX11_keepOffOf 49 = .ok (.iload 5, 2) := by decide +kernel
theorem dX11_keepOffOf_51 : decode cX11_keepOffOf 51 = .ok (.ifCond .eq 26, 3) := by decide +kernel
theorem dX11_keepOffOf_54 : decode cX11_keepOffOf 54 = .ok (.aload_n 0, 1) := by decide +kernel
theorem dX11_keepOffOf_55 : decode cX11_keepOffOf 55 = .ok (.iload_n 1, 1) := by decide +kernel
theorem dX11_keepOffOf_56 : decode cX11_keepOffOf 56 = .ok (.iload_n 2, 1) := by decide +kernel
theorem dX11_keepOffOf_57 : decode cX11_keepOffOf 57 = .ok (.aload_n 0, 1) := by decide +kernel
theorem dX11_keepOffOf_58 : decode cX11_keepOffOf 58 = .ok (.getfield 150, 3) := by decide +kernel
theorem dX11_keepOffOf_61 : decode cX11_keepOffOf 61 = .ok (.iload 4, 2) := by decide +kernel
theorem dX11_keepOffOf_63 : decode cX11_keepOffOf 63 = .ok (.iconst (-1), 1) := by decide +kernel
theorem dX11_keepOffOf_64 : decode cX11_keepOffOf 64 = .ok (.ixor, 1) := by decide +kernel
theorem dX11_keepOffOf_65 : decode cX11_keepOffOf 65 = .ok (.iand, 1) := by decide +kernel
theorem dX11_keepOffOf_66 : decode cX11_keepOffOf 66 = .ok (.invokevirtual 190, 3) := by decide +kernel
theorem dX11_keepOffOf_69 : decode cX11_keepOffOf 69 = .ok (.ifCond .eq 8, 3) := by decide +kernel
theorem dX11_keepOffOf_72 : decode cX11_keepOffOf 72 = .ok (.iload 4, 2) := by decide +kernel
theorem dX11_keepOffOf_74 : decode cX11_keepOffOf 74 = .ok (.goto 4, 3) := by decide +kernel
theorem dX11_keepOffOf_77 : decode cX11_keepOffOf 77 = .ok (.iload_n 3, 1) := by decide +kernel
theorem dX11_keepOffOf_78 : decode cX11_keepOffOf 78 = .ok (.istore_n 3, 1) := by decide +kernel
theorem dX11_keepOffOf_79 : decode cX11_keepOffOf 79 = .ok (.iinc 4 1, 3) := by decide +kernel
theorem dX11_keepOffOf_82 : decode cX11_keepOffOf 82 = .ok (.goto (-77), 3) := by decide +kernel
theorem dX11_keepOffOf_85 : decode cX11_keepOffOf 85 = .ok (.iload_n 3, 1) := by decide +kernel
theorem dX11_keepOffOf_86 : decode cX11_keepOffOf 86 = .ok (.ireturn, 1) := by decide +kernel
theorem dX11_keepOff_0 : decode cX11_keepOff 0 = .ok (.iload_n 1, 1) := by decide +kernel
theorem dX11_keepOff_1 : decode cX11_keepOff 1 = .ok (.i2l, 1) := by decide +kernel
theorem dX11_keepOff_2 : decode cX11_keepOff 2 = .ok (.lconst 1, 1) := by decide +kernel
theorem dX11_keepOff_3 : decode cX11_keepOff 3 = .ok (.ldc2_w 182, 3) := by decide +kernel
theorem dX11_keepOff_6 : decode cX11_keepOff 6 = .ok (.invokestatic 61, 3) := by decide +kernel
theorem dX11_keepOff_9 : decode cX11_keepOff 9 = .ok (.ifCond .eq 17, 3) := by decide +kernel
theorem dX11_keepOff_12 : decode cX11_keepOff 12 = .ok (.iload_n 2, 1) := by decide +kernel
theorem dX11_keepOff_13 : decode cX11_keepOff 13 = .ok (.invokestatic 158, 3) := by decide +kernel
theorem dX11_keepOff_16 : decode cX11_keepOff 16 = .ok (.ifCond .eq 10, 3) := by decide +kernel
theorem dX11_keepOff_19 : decode cX11_keepOff 19 = .ok (.iload_n 3, 1) := by decide +kernel
theorem dX11_keepOff_20 : decode cX11_keepOff 20 = .ok (.invokestatic 90, 3) := by decide +kernel
theorem dX11_keepOff_23 : decode cX11_keepOff 23 = .ok (.ifCond .ne 6, 3) := by decide +kernel
theorem dX11_keepOff_26 : decode cX11_keepOff 26 = .ok (.bipush (-2), 2) := by decide +kernel
theorem dX11_keepOff_28 : decode cX11_keepOff 28 = .ok (.ireturn, 1) := by decide +kernel
theorem dX11_keepOff_29 : decode cX11_keepOff 29 = .ok (.aload_n 0, 1) := by decide +kernel
theorem dX11_keepOff_30 : decode cX11_keepOff 30 = .ok (.invokevirtual 153, 3) := by decide +kernel
theorem dX11_keepOff_33 : decode cX11_keepOff 33 = .ok (.aload_n 0, 1) := by decide +kernel
theorem dX11_keepOff_34 : decode cX11_keepOff 34 = .ok (.iload_n 1, 1) := by decide +kernel
theorem dX11_keepOff_35 : decode cX11_keepOff 35 = .ok (.iload_n 2, 1) := by decide +kernel
theorem dX11_keepOff_36 : decode cX11_keepOff 36 = .ok (.invokevirtual 194, 3) := by decide +kernel
theorem dX11_keepOff_39 : decode cX11_keepOff 39 = .ok (.iload_n 3, 1) := by decide +kernel
theorem dX11_keepOff_40 : decode cX11_keepOff 40 = .ok (.invokestatic 187, 3) := by decide +kernel
theorem dX11_keepOff_43 : decode cX11_keepOff 43 = .ok (.ireturn, 1) := by decide +kernel
theorem dX11_barsOf_0 : decode cX11_barsOf 0 = .ok (.iconst 0, 1) := by decide +kernel
theorem dX11_barsOf_1 : decode cX11_barsOf 1 = .ok (.istore_n 2, 1) := by decide +kernel
theorem dX11_barsOf_2 : decode cX11_barsOf 2 = .ok (.iconst 0, 1) := by decide +kernel
theorem dX11_barsOf_3 : decode cX11_barsOf 3 = .ok (.istore_n 3, 1) := by decide +kernel
theorem dX11_barsOf_4 : decode cX11_barsOf 4 = .ok (.iload_n 3, 1) := by decide +kernel
theorem dX11_barsOf_5 : decode cX11_barsOf 5 = .ok (.sipush 256, 3) := by decide +kernel
theorem dX11_barsOf_8 : decode cX11_barsOf 8 = .ok (.if_icmp .ge 43, 3) := by decide +kernel
theorem dX11_barsOf_11 : decode cX11_barsOf 11 = .ok (.iload_n 2, 1) := by decide +kernel
theorem dX11_barsOf_12 : decode cX11_barsOf 12 = .ok (.aload_n 0, 1) := by decide +kernel
theorem dX11_barsOf_13 : decode cX11_barsOf 13 = .ok (.iload_n 3, 1) := by decide +kernel
theorem dX11_barsOf_14 : decode cX11_barsOf 14 = .ok (.iconst 1, 1) := by decide +kernel
theorem dX11_barsOf_15 : decode cX11_barsOf 15 = .ok (.invokevirtual 139, 3) := by decide +kernel
theorem dX11_barsOf_18 : decode cX11_barsOf 18 = .ok (.iload_n 1, 1) := by decide +kernel
theorem dX11_barsOf_19 : decode cX11_barsOf 19 = .ok (.invokestatic 142, 3) := by decide +kernel
theorem dX11_barsOf_22 : decode cX11_barsOf 22 = .ok (.ifCond .eq 20, 3) := by decide +kernel
theorem dX11_barsOf_25 : decode cX11_barsOf 25 = .ok (.aload_n 0, 1) := by decide +kernel
theorem dX11_barsOf_26 : decode cX11_barsOf 26 = .ok (.getfield 34, 3) := by decide +kernel
theorem dX11_barsOf_29 : decode cX11_barsOf 29 = .ok (.iload_n 3, 1) := by decide +kernel
theorem dX11_barsOf_30 : decode cX11_barsOf 30 = .ok (.iaload, 1) := by decide +kernel
theorem dX11_barsOf_31 : decode cX11_barsOf 31 = .ok (.iload_n 1, 1) := by decide +kernel
theorem dX11_barsOf_32 : decode cX11_barsOf 32 = .ok (.invokestatic 142, 3) := by decide +kernel
theorem dX11_barsOf_35 : decode cX11_barsOf 35 = .ok (.ifCond .ne 7, 3) := by decide +kernel
theorem dX11_barsOf_38 : decode cX11_barsOf 38 = .ok (.iconst 1, 1) := by decide +kernel
theorem dX11_barsOf_39 : decode cX11_barsOf 39 = .ok (.goto 4, 3) := by decide +kernel
theorem dX11_barsOf_42 : decode cX11_barsOf 42 = .ok (.iconst 0, 1) := by decide +kernel
theorem dX11_barsOf_43 : decode cX11_barsOf 43 = .ok (.iadd, 1) := by decide +kernel
theorem dX11_barsOf_44 : decode cX11_barsOf 44 = .ok (.istore_n 2, 1) := by decide +kernel
theorem dX11_barsOf_45 : decode cX11_barsOf 45 = .ok (.iinc 3 1, 3) := by decide +kernel
theorem dX11_barsOf_48 : decode cX11_barsOf 48 = .ok (.goto (-44), 3) := by decide +kernel
theorem dX11_barsOf_51 : decode cX11_barsOf 51 = .ok (.iload_n 2, 1) := by decide +kernel
theorem dX11_barsOf_52 : decode cX11_barsOf 52 = .ok (.ireturn, 1) := by decide +kernel
theorem dX11_bars_0 : decode cX11_bars 0 = .ok (.aload_n 0, 1) := by decide +kernel
theorem dX11_bars_1 : decode cX11_bars 1 = .ok (.invokevirtual 153, 3) := by decide +kernel
theorem dX11_bars_4 : decode cX11_bars 4 = .ok (.iload_n 1, 1) := by decide +kernel
theorem dX11_bars_5 : decode cX11_bars 5 = .ok (.invokestatic 158, 3) := by decide +kernel
theorem dX11_bars_8 : decode cX11_bars 8 = .ok (.ifCond .eq 11, 3) := by decide +kernel
theorem dX11_bars_11 : decode cX11_bars 11 = .ok (.aload_n 0, 1) := by decide +kernel
theorem dX11_bars_12 : decode cX11_bars 12 = .ok (.iload_n 1, 1) := by decide +kernel
theorem dX11_bars_13 : decode cX11_bars 13 = .ok (.invokevirtual 197, 3) := by decide +kernel
theorem dX11_bars_16 : decode cX11_bars 16 = .ok (.goto 5, 3) := by decide +kernel
theorem dX11_bars_19 : decode cX11_bars 19 = .ok (.bipush (-2), 2) := by decide +kernel
theorem dX11_bars_21 : decode cX11_bars 21 = .ok (.ireturn, 1) := by decide +kernel
theorem dX11_findWins_0 : decode cX11_findWins 0 = .ok (.iconst 0, 1) := by decide +kernel
theorem dX11_findWins_1 : decode cX11_findWins 1 = .ok (.istore_n 3, 1) := by decide +kernel
theorem dX11_findWins_2 : decode cX11_findWins 2 = .ok (.iload_n 3, 1) := by decide +kernel
theorem dX11_findWins_3 : decode cX11_findWins 3 = .ok (.iload_n 1, 1) := by decide +kernel
theorem dX11_findWins_4 : decode cX11_findWins 4 = .ok (.if_icmp .gt 173, 3) := by decide +kernel
theorem dX11_findWins_7 : decode cX11_findWins 7 = .ok (.iload_n 1, 1) := by decide +kernel
theorem dX11_findWins_8 : decode cX11_findWins 8 = .ok (.iload_n 3, 1) := by decide +kernel
theorem dX11_findWins_9 : decode cX11_findWins 9 = .ok (.isub, 1) := by decide +kernel
theorem dX11_findWins_10 : decode cX11_findWins 10 = .ok (.iconst 2, 1) := by decide +kernel
theorem dX11_findWins_11 : decode cX11_findWins 11 = .ok (.irem, 1) := by decide +kernel
theorem dX11_findWins_12 : decode cX11_findWins 12 = .ok (.ifCond .ne 7, 3) := by decide +kernel
theorem dX11_findWins_15 : decode cX11_findWins 15 = .ok (.iconst 1, 1) := by decide +kernel
theorem dX11_findWins_16 : decode cX11_findWins 16 = .ok (.goto 4, 3) := by decide +kernel
theorem dX11_findWins_19 : decode cX11_findWins 19 = .ok (.iconst 0, 1) := by decide +kernel
theorem dX11_findWins_20 : decode cX11_findWins 20 = .ok (.istore 4, 2) := by decide +kernel
theorem dX11_findWins_22 : decode cX11_findWins 22 = .ok (.iconst 0, 1) := by decide +kernel
theorem dX11_findWins_23 : decode cX11_findWins 23 = .ok (.istore 5, 2) := by decide +kernel
theorem dX11_findWins_25 : decode cX11_findWins 25 = .ok (.iload 5, 2) := by decide +kernel
theorem dX11_findWins_27 : decode cX11_findWins 27 = .ok (.sipush 256, 3) := by decide +kernel
theorem dX11_findWins_30 : decode cX11_findWins 30 = .ok (.if_icmp .ge 141, 3) := by decide +kernel
theorem dX11_findWins_33 : decode cX11_findWins 33 = .ok (.iload_n 3, 1) := by decide +kernel
theorem dX11_findWins_34 : decode cX11_findWins 34 = .ok (.ifCond .ne 17, 3) := by decide +kernel
theorem dX11_findWins_37 : decode cX11_findWins 37 = .ok (.aload_n 0, 1) := by decide +kernel
theorem dX11_findWins_38 : decode cX11_findWins 38 = .ok (.getfield 34, 3) := by decide +kernel
theorem dX11_findWins_41 : decode cX11_findWins 41 = .ok (.iload 5, 2) := by decide +kernel
theorem dX11_findWins_43 : decode cX11_findWins 43 = .ok (.iaload, 1) := by decide +kernel
theorem dX11_findWins_44 : decode cX11_findWins 44 = .ok (.iload_n 2, 1) := by decide +kernel
theorem dX11_findWins_45 : decode cX11_findWins 45 = .ok (.invokestatic 142, 3) := by decide +kernel
theorem dX11_findWins_48 : decode cX11_findWins 48 = .ok (.goto 18, 3) := by decide +kernel
theorem dX11_findWins_51 : decode cX11_findWins 51 = .ok (.aload_n 0, 1) := by decide +kernel
theorem dX11_findWins_52 : decode cX11_findWins 52 = .ok (.getfield 49, 3) := by decide +kernel
theorem dX11_findWins_55 : decode cX11_findWins 55 = .ok (.sipush 256, 3) := by decide +kernel
theorem dX11_findWins_58 : decode cX11_findWins 58 = .ok (.iload_n 3, 1) := by decide +kernel
theorem dX11_findWins_59 : decode cX11_findWins 59 = .ok (.iconst 1, 1) := by decide +kernel
theorem dX11_findWins_60 : decode cX11_findWins 60 = .ok (.isub, 1) := by decide +kernel
theorem dX11_findWins_61 : decode cX11_findWins 61 = .ok (.imul, 1) := by decide +kernel
theorem dX11_findWins_62 : decode cX11_findWins 62 = .ok (.iload 5, 2) := by decide +kernel
theorem dX11_findWins_64 : decode cX11_findWins 64 = .ok (.iadd, 1) := by decide +kernel
theorem dX11_findWins_65 : decode cX11_findWins 65 = .ok (.baload, 1) := by decide +kernel
theorem dX11_findWins_66 : decode cX11_findWins 66 = .ok (.istore 6, 2) := by decide +kernel
theorem dX11_findWins_68 : decode cX11_findWins 68 = .ok (.iconst 0, 1) := by decide +kernel
theorem dX11_findWins_69 : decode cX11_findWins 69 = .ok (.istore 7, 2) := by decide +kernel
theorem dX11_findWins_71 : decode cX11_findWins 71 = .ok (.iload 7, 2) := by decide +kernel
theorem dX11_findWins_73 : decode cX11_findWins 73 = .ok (.bipush 8, 2) := by decide +kernel
theorem dX11_findWins_75 : decode cX11_findWins 75 = .ok (.if_icmp .ge 75, 3) := by decide +kernel
theorem dX11_findWins_78 : decode cX11_findWins 78 = .ok (.iload_n 3, 1) := by decide +kernel
theorem dX11_findWins_79 : decode cX11_findWins 79 = .ok (.ifCond .le 71, 3) := by decide +kernel
theorem dX11_findWins_82 : decode cX11_findWins 82 = .ok (.aload_n 0, 1) := by decide +kernel
theorem dX11_findWins_83 : decode cX11_findWins 83 = .ok (.getfield 49, 3) := by decide +kernel
theorem dX11_findWins_86 : decode cX11_findWins 86 = .ok (.sipush 256, 3) := by decide +kernel
theorem dX11_findWins_89 : decode cX11_findWins 89 = .ok (.iload_n 3, 1) := by decide +kernel
theorem dX11_findWins_90 : decode cX11_findWins 90 = .ok (.iconst 1, 1) := by decide +kernel
theorem dX11_findWins_91 : decode cX11_findWins 91 = .ok (.isub, 1) := by decide +kernel
theorem dX11_findWins_92 : decode cX11_findWins 92 = .ok (.imul, 1) := by decide +kernel
theorem dX11_findWins_93 : decode cX11_findWins 93 = .ok (.iload 5, 2) := by decide +kernel
theorem dX11_findWins_95 : decode cX11_findWins 95 = .ok (.iconst 1, 1) := by decide +kernel
theorem dX11_findWins_96 : decode cX11_findWins 96 = .ok (.iload 7, 2) := by decide +kernel
theorem dX11_findWins_98 : decode cX11_findWins 98 = .ok (.ishl, 1) := by decide +kernel
theorem dX11_findWins_99 : decode cX11_findWins 99 = .ok (.ixor, 1) := by decide +kernel
theorem dX11_findWins_100 : decode cX11_findWins 100 = .ok (.iadd, 1) := by decide +kernel
theorem dX11_findWins_101 : decode cX11_findWins 101 = .ok (.baload, 1) := by decide +kernel
theorem dX11_findWins_102 : decode cX11_findWins 102 = .ok (.istore 8, 2) := by decide +kernel
theorem dX11_findWins_104 : decode cX11_findWins 104 = .ok (.iload 4, 2) := by decide +kernel
theorem dX11_findWins_106 : decode cX11_findWins 106 = .ok (.ifCond .eq 21, 3) := by decide +kernel
theorem dX11_findWins_109 : decode cX11_findWins 109 = .ok (.iload 6, 2) := by decide +kernel
theorem dX11_findWins_111 : decode cX11_findWins 111 = .ok (.ifCond .ne 8, 3) := by decide +kernel
theorem dX11_findWins_114 : decode cX11_findWins 114 = .ok (.iload 8, 2) := by decide +kernel
theorem dX11_findWins_116 : decode cX11_findWins 116 = .ok (.ifCond .eq 7, 3) := by decide +kernel
theorem dX11_findWins_119 : decode cX11_findWins 119 = .ok (.iconst 1, 1) := by decide +kernel
theorem dX11_findWins_120 : decode cX11_findWins 120 = .ok (.goto 22, 3) := by decide +kernel
theorem dX11_findWins_123 : decode cX11_findWins 123 = .ok (.iconst 0, 1) := by decide +kernel
theorem dX11_findWins_124 : decode cX11_findWins 124 = .ok (.goto 18, 3) := by decide +kernel
theorem dX11_findWins_127 : decode cX11_findWins 127 = .ok (.iload 6, 2) := by decide +kernel
theorem dX11_findWins_129 : decode cX11_findWins 129 = .ok (.ifCond .eq 12, 3) := by decide +kernel
theorem dX11_findWins_132 : decode cX11_findWins 132 = .ok (.iload 8, 2) := by decide +kernel
theorem dX11_findWins_134 : decode cX11_findWins 134 = .ok (.ifCond .eq 7, 3) := by decide +kernel
theorem dX11_findWins_137 : decode cX11_findWins 137 = .ok (.iconst 1, 1) := by decide +kernel
theorem dX11_findWins_138 : decode cX11_findWins 138 = .ok (.goto 4, 3) := by decide +kernel
theorem dX11_findWins_141 : decode cX11_findWins 141 = .ok (.iconst 0, 1) := by decide +kernel
theorem dX11_findWins_142 : decode cX11_findWins 142 = .ok (.istore 6, 2) := by decide +kernel
theorem dX11_findWins_144 : decode cX11_findWins 144 = .ok (.iinc 7 1, 3) := by decide +kernel
theorem dX11_findWins_147 : decode cX11_findWins 147 = .ok (.goto (-76), 3) := by decide +kernel
theorem dX11_findWins_150 : decode cX11_findWins 150 = .ok (.aload_n 0, 1) := by decide +kernel
theorem dX11_findWins_151 : decode cX11_findWins 151 = .ok (.getfield 49, 3) := by decide +kernel
theorem dX11_findWins_154 : decode cX11_findWins 154 = .ok (.sipush 256, 3) := by decide +kernel
theorem dX11_findWins_157 : decode cX11_findWins 157 = .ok (.iload_n 3, 1) := by decide +kernel
theorem dX11_findWins_158 : decode cX11_findWins 158 = .ok (.imul, 1) := by decide +kernel
theorem dX11_findWins_159 : decode cX11_findWins 159 = .ok (.iload 5, 2) := by decide +kernel
theorem dX11_findWins_161 : decode cX11_findWins 161 = .ok (.iadd, 1) := by decide +kernel
theorem dX11_findWins_162 : decode cX11_findWins 162 = .ok (.iload 6, 2) := by decide +kernel
theorem dX11_findWins_164 : decode cX11_findWins 164 = .ok (.bastore, 1) := by decide +kernel
theorem dX11_findWins_165 : decode cX11_findWins 165 = .ok (.iinc 5 1, 3) := by decide +kernel
theorem dX11_findWins_168 : decode cX11_findWins 168 = .ok (.goto (-143), 3) := by decide +kernel
theorem dX11_findWins_171 : decode cX11_findWins 171 = .ok (.iinc 3 1, 3) := by decide +kernel
theorem dX11_findWins_174 : decode cX11_findWins 174 = .ok (.goto (-172), 3) := by decide +kernel
theorem dX11_findWins_177 : decode cX11_findWins 177 = .ok (.return_, 1) := by decide +kernel
theorem dX11_playOf_0 : decode cX11_playOf 0 = .ok (.aload_n 0, 1) := by decide +kernel
theorem dX11_playOf_1 : decode cX11_playOf 1 = .ok (.iload_n 1, 1) := by decide +kernel
theorem dX11_playOf_2 : decode cX11_playOf 2 = .ok (.iload_n 2, 1) := by decide +kernel
theorem dX11_playOf_3 : decode cX11_playOf 3 = .ok (.invokevirtual 200, 3) := by decide +kernel
theorem dX11_playOf_6 : decode cX11_playOf 6 = .ok (.aload_n 0, 1) := by decide +kernel
theorem dX11_playOf_7 : decode cX11_playOf 7 = .ok (.getfield 49, 3) := by decide +kernel
theorem dX11_playOf_10 : decode cX11_playOf 10 = .ok (.sipush 256, 3) := by decide +kernel
theorem dX11_playOf_13 : decode cX11_playOf 13 = .ok (.iload_n 1, 1) := by decide +kernel
theorem dX11_playOf_14 : decode cX11_playOf 14 = .ok (.imul, 1) := by decide +kernel
theorem dX11_playOf_15 : decode cX11_playOf 15 = .ok (.aload_n 0, 1) := by decide +kernel
theorem dX11_playOf_16 : decode cX11_playOf 16 = .ok (.getfield 150, 3) := by decide +kernel
theorem dX11_playOf_19 : decode cX11_playOf 19 = .ok (.iadd, 1) := by decide +kernel
theorem dX11_playOf_20 : decode cX11_playOf 20 = .ok (.baload, 1) := by decide +kernel
theorem dX11_playOf_21 : decode cX11_playOf 21 = .ok (.istore 4, 2) := by decide +kernel
theorem dX11_playOf_23 : decode cX11_playOf 23 = .ok (.iload_n 3, 1) := by decide +kernel
theorem dX11_playOf_24 : decode cX11_playOf 24 = .ok (.ifCond .ne 14, 3) := by decide +kernel
theorem dX11_playOf_27 : decode cX11_playOf 27 = .ok (.iload 4, 2) := by decide +kernel
theorem dX11_playOf_29 : decode cX11_playOf 29 = .ok (.ifCond .eq 7, 3) := by decide +kernel
theorem dX11_playOf_32 : decode cX11_playOf 32 = .ok (.iconst 1, 1) := by decide +kernel
theorem dX11_playOf_33 : decode cX11_playOf 33 = .ok (.goto 4, 3) := by decide +kernel
theorem dX11_playOf_36 : decode cX11_playOf 36 = .ok (.iconst 0, 1) := by decide +kernel
theorem dX11_playOf_37 : decode cX11_playOf 37 = .ok (.ireturn, 1) := by decide +kernel
theorem dX11_playOf_38 : decode cX11_playOf 38 = .ok (.iload 4, 2) := by decide +kernel
theorem dX11_playOf_40 : decode cX11_playOf 40 = .ok (.ifCond .eq 27, 3) := by decide +kernel
theorem dX11_playOf_43 : decode cX11_playOf 43 = .ok (.iload_n 1, 1) := by decide +kernel
theorem dX11_playOf_44 : decode cX11_playOf 44 = .ok (.ifCond .eq 23, 3) := by decide +kernel
theorem dX11_playOf_47 : decode cX11_playOf 47 = .ok (.aload_n 0, 1) := by decide +kernel
theorem dX11_playOf_48 : decode cX11_playOf 48 = .ok (.getfield 49, 3) := by decide +kernel
theorem dX11_playOf_51 : decode cX11_playOf 51 = .ok (.sipush 256, 3) := by decide +kernel
theorem dX11_playOf_54 : decode cX11_playOf 54 = .ok (.iload_n 1, 1) := by decide +kernel
theorem dX11_playOf_55 : decode cX11_playOf 55 = .ok (.iconst 1, 1) := by decide +kernel
theorem dX11_playOf_56 : decode cX11_playOf 56 = .ok (.isub, 1) := by decide +kernel
theorem dX11_playOf_57 : decode cX11_playOf 57 = .ok (.imul, 1) := by decide +kernel
theorem dX11_playOf_58 : decode cX11_playOf 58 = .ok (.aload_n 0, 1) := by decide +kernel
theorem dX11_playOf_59 : decode cX11_playOf 59 = .ok (.getfield 150, 3) := by decide +kernel
theorem dX11_playOf_62 : decode cX11_playOf 62 = .ok (.iadd, 1) := by decide +kernel
theorem dX11_playOf_63 : decode cX11_playOf 63 = .ok (.baload, 1) := by decide +kernel
theorem dX11_playOf_64 : decode cX11_playOf 64 = .ok (.ifCond .eq 5, 3) := by decide +kernel
theorem dX11_playOf_67 : decode cX11_playOf 67 = .ok (.iconst (-1), 1) := by decide +kernel
theorem dX11_playOf_68 : decode cX11_playOf 68 = .ok (.ireturn, 1) := by decide +kernel
theorem dX11_playOf_69 : decode cX11_playOf 69 = .ok (.iconst 0, 1) := by decide +kernel
theorem dX11_playOf_70 : decode cX11_playOf 70 = .ok (.istore 5, 2) := by decide +kernel
theorem dX11_playOf_72 : decode cX11_playOf 72 = .ok (.aload_n 0, 1) := by decide +kernel
theorem dX11_playOf_73 : decode cX11_playOf 73 = .ok (.getfield 49, 3) := by decide +kernel
theorem dX11_playOf_76 : decode cX11_playOf 76 = .ok (.sipush 256, 3) := by decide +kernel
theorem dX11_playOf_79 : decode cX11_playOf 79 = .ok (.iload_n 1, 1) := by decide +kernel
theorem dX11_playOf_80 : decode cX11_playOf 80 = .ok (.iconst 1, 1) := by decide +kernel
theorem dX11_playOf_81 : decode cX11_playOf 81 = .ok (.isub, 1) := by decide +kernel
theorem dX11_playOf_82 : decode cX11_playOf 82 = .ok (.imul, 1) := by decide +kernel
theorem dX11_playOf_83 : decode cX11_playOf 83 = .ok (.aload_n 0, 1) := by decide +kernel
theorem dX11_playOf_84 : decode cX11_playOf 84 = .ok (.getfield 150, 3) := by decide +kernel
theorem dX11_playOf_87 : decode cX11_playOf 87 = .ok (.iconst 1, 1) := by decide +kernel
theorem dX11_playOf_88 : decode cX11_playOf 88 = .ok (.iload 5, 2) := by decide +kernel
theorem dX11_playOf_90 : decode cX11_playOf 90 = .ok (.ishl, 1) := by decide +kernel
theorem dX11_playOf_91 : decode cX11_playOf 91 = .ok (.ixor, 1) := by decide +kernel
theorem dX11_playOf_92 : decode cX11_playOf 92 = .ok (.iadd, 1) := by decide +kernel
theorem dX11_playOf_93 : decode cX11_playOf 93 = .ok (.baload, 1) := by decide +kernel
theorem dX11_playOf_94 : decode cX11_playOf 94 = .ok (.ifCond .ne 9, 3) := by decide +kernel
theorem dX11_playOf_97 : decode cX11_playOf 97 = .ok (.iinc 5 1, 3) := by decide +kernel
theorem dX11_playOf_100 : decode cX11_playOf 100 = .ok (.goto (-28), 3) := by decide +kernel
theorem dX11_playOf_103 : decode cX11_playOf 103 = .ok (.iload 5, 2) := by decide +kernel
theorem dX11_playOf_105 : decode cX11_playOf 105 = .ok (.ireturn, 1) := by decide +kernel
theorem dX11_play_0 : decode cX11_play 0 = .ok (.aload_n 0, 1) := by decide +kernel
theorem dX11_play_1 : decode cX11_play 1 = .ok (.invokevirtual 153, 3) := by decide +kernel
theorem dX11_play_4 : decode cX11_play 4 = .ok (.iload_n 1, 1) := by decide +kernel
theorem dX11_play_5 : decode cX11_play 5 = .ok (.i2l, 1) := by decide +kernel
theorem dX11_play_6 : decode cX11_play 6 = .ok (.lconst 0, 1) := by decide +kernel
theorem dX11_play_7 : decode cX11_play 7 = .ok (.ldc2_w 204, 3) := by decide +kernel
theorem dX11_play_10 : decode cX11_play 10 = .ok (.invokestatic 61, 3) := by decide +kernel
theorem dX11_play_13 : decode cX11_play 13 = .ok (.ifCond .eq 27, 3) := by decide +kernel
theorem dX11_play_16 : decode cX11_play 16 = .ok (.iload_n 2, 1) := by decide +kernel
theorem dX11_play_17 : decode cX11_play 17 = .ok (.invokestatic 158, 3) := by decide +kernel
theorem dX11_play_20 : decode cX11_play 20 = .ok (.ifCond .eq 20, 3) := by decide +kernel
theorem dX11_play_23 : decode cX11_play 23 = .ok (.iload_n 3, 1) := by decide +kernel
theorem dX11_play_24 : decode cX11_play 24 = .ok (.invokestatic 90, 3) := by decide +kernel
theorem dX11_play_27 : decode cX11_play 27 = .ok (.ifCond .eq 13, 3) := by decide +kernel
theorem dX11_play_30 : decode cX11_play 30 = .ok (.aload_n 0, 1) := by decide +kernel
theorem dX11_play_31 : decode cX11_play 31 = .ok (.iload_n 1, 1) := by decide +kernel
theorem dX11_play_32 : decode cX11_play 32 = .ok (.iload_n 2, 1) := by decide +kernel
theorem dX11_play_33 : decode cX11_play 33 = .ok (.iload_n 3, 1) := by decide +kernel
theorem dX11_play_34 : decode cX11_play 34 = .ok (.invokevirtual 206, 3) := by decide +kernel
theorem dX11_play_37 : decode cX11_play 37 = .ok (.goto 5, 3) := by decide +kernel
theorem dX11_play_40 : decode cX11_play 40 = .ok (.bipush (-2), 2) := by decide +kernel
theorem dX11_play_42 : decode cX11_play 42 = .ok (.ireturn, 1) := by decide +kernel
theorem dX11_steadyOf_0 : decode cX11_steadyOf 0 = .ok (.iconst 0, 1) := by decide +kernel
theorem dX11_steadyOf_1 : decode cX11_steadyOf 1 = .ok (.istore_n 2, 1) := by decide +kernel
theorem dX11_steadyOf_2 : decode cX11_steadyOf 2 = .ok (.iconst 0, 1) := by decide +kernel
theorem dX11_steadyOf_3 : decode cX11_steadyOf 3 = .ok (.istore_n 3, 1) := by decide +kernel
theorem dX11_steadyOf_4 : decode cX11_steadyOf 4 = .ok (.iload_n 3, 1) := by decide +kernel
theorem dX11_steadyOf_5 : decode cX11_steadyOf 5 = .ok (.sipush 256, 3) := by decide +kernel
theorem dX11_steadyOf_8 : decode cX11_steadyOf 8 = .ok (.if_icmp .ge 28, 3) := by decide +kernel
theorem dX11_steadyOf_11 : decode cX11_steadyOf 11 = .ok (.aload_n 0, 1) := by decide +kernel
theorem dX11_steadyOf_12 : decode cX11_steadyOf 12 = .ok (.iload_n 3, 1) := by decide +kernel
theorem dX11_steadyOf_13 : decode cX11_steadyOf 13 = .ok (.invokevirtual 176, 3) := by decide +kernel
theorem dX11_steadyOf_16 : decode cX11_steadyOf 16 = .ok (.iload_n 3, 1) := by decide +kernel
theorem dX11_steadyOf_17 : decode cX11_steadyOf 17 = .ok (.if_icmp .ne 13, 3) := by decide +kernel
theorem dX11_steadyOf_20 : decode cX11_steadyOf 20 = .ok (.iload_n 2, 1) := by decide +kernel
theorem dX11_steadyOf_21 : decode cX11_steadyOf 21 = .ok (.iload_n 1, 1) := by decide +kernel
theorem dX11_steadyOf_22 : decode cX11_steadyOf 22 = .ok (.if_icmp .ne 5, 3) := by decide +kernel
theorem dX11_steadyOf_25 : decode cX11_steadyOf 25 = .ok (.iload_n 3, 1) := by decide +kernel
theorem dX11_steadyOf_26 : decode cX11_steadyOf 26 = .ok (.ireturn, 1) := by decide +kernel
theorem dX11_steadyOf_27 : decode cX11_steadyOf 27 = .ok (.iinc 2 1, 3) := by decide +kernel
theorem dX11_steadyOf_30 : decode cX11_steadyOf 30 = .ok (.iinc 3 1, 3) := by decide +kernel
theorem dX11_steadyOf_33 : decode cX11_steadyOf 33 = .ok (.goto (-29), 3) := by decide +kernel
theorem dX11_steadyOf_36 : decode cX11_steadyOf 36 = .ok (.iload_n 1, 1) := by decide +kernel
theorem dX11_steadyOf_37 : decode cX11_steadyOf 37 = .ok (.iconst (-1), 1) := by decide +kernel
theorem dX11_steadyOf_38 : decode cX11_steadyOf 38 = .ok (.if_icmp .ne 7, 3) := by decide +kernel
theorem dX11_steadyOf_41 : decode cX11_steadyOf 41 = .ok (.iload_n 2, 1) := by decide +kernel
theorem dX11_steadyOf_42 : decode cX11_steadyOf 42 = .ok (.goto 4, 3) := by decide +kernel
theorem dX11_steadyOf_45 : decode cX11_steadyOf 45 = .ok (.iconst (-1), 1) := by decide +kernel
theorem dX11_steadyOf_46 : decode cX11_steadyOf 46 = .ok (.ireturn, 1) := by decide +kernel
theorem dX11_steady_0 : decode cX11_steady 0 = .ok (.aload_n 0, 1) := by decide +kernel
theorem dX11_steady_1 : decode cX11_steady 1 = .ok (.invokevirtual 153, 3) := by decide +kernel
theorem dX11_steady_4 : decode cX11_steady 4 = .ok (.iload_n 1, 1) := by decide +kernel
theorem dX11_steady_5 : decode cX11_steady 5 = .ok (.i2l, 1) := by decide +kernel
theorem dX11_steady_6 : decode cX11_steady 6 = .ok (.ldc2_w 209, 3) := by decide +kernel
theorem dX11_steady_9 : decode cX11_steady 9 = .ok (.ldc2_w 93, 3) := by decide +kernel
theorem dX11_steady_12 : decode cX11_steady 12 = .ok (.invokestatic 61, 3) := by decide +kernel
theorem dX11_steady_15 : decode cX11_steady 15 = .ok (.ifCond .eq 11, 3) := by decide +kernel
theorem dX11_steady_18 : decode cX11_steady 18 = .ok (.aload_n 0, 1) := by decide +kernel
theorem dX11_steady_19 : decode cX11_steady 19 = .ok (.iload_n 1, 1) := by decide +kernel
theorem dX11_steady_20 : decode cX11_steady 20 = .ok (.invokevirtual 211, 3) := by decide +kernel
theorem dX11_steady_23 : decode cX11_steady 23 = .ok (.goto 5, 3) := by decide +kernel
theorem dX11_steady_26 : decode cX11_steady 26 = .ok (.bipush (-2), 2) := by decide +kernel
theorem dX11_steady_28 : decode cX11_steady 28 = .ok (.ireturn, 1) := by decide +kernel
theorem dX11_roundOf_0 : decode cX11_roundOf 0 = .ok (.iconst 0, 1) := by decide +kernel
theorem dX11_roundOf_1 : decode cX11_roundOf 1 = .ok (.istore_n 3, 1) := by decide +kernel
theorem dX11_roundOf_2 : decode cX11_roundOf 2 = .ok (.iload_n 3, 1) := by decide +kernel
theorem dX11_roundOf_3 : decode cX11_roundOf 3 = .ok (.sipush 256, 3) := by decide +kernel
theorem dX11_roundOf_6 : decode cX11_roundOf 6 = .ok (.if_icmp .ge 16, 3) := by decide +kernel
theorem dX11_roundOf_9 : decode cX11_roundOf 9 = .ok (.aload_n 0, 1) := by decide +kernel
theorem dX11_roundOf_10 : decode cX11_roundOf 10 = .ok (.getfield 53, 3) := by decide +kernel
theorem dX11_roundOf_13 : decode cX11_roundOf 13 = .ok (.iload_n 3, 1) := by decide +kernel
theorem dX11_roundOf_14 : decode cX11_roundOf 14 = .ok (.iconst (-1), 1) := by decide +kernel
theorem dX11_roundOf_15 : decode cX11_roundOf 15 = .ok (.iastore, 1) := by decide +kernel
theorem dX11_roundOf_16 : decode cX11_roundOf 16 = .ok (.iinc 3 1, 3) := by decide +kernel
theorem dX11_roundOf_19 : decode cX11_roundOf 19 = .ok (.goto (-17), 3) := by decide +kernel
theorem dX11_roundOf_22 : decode cX11_roundOf 22 = .ok (.iload_n 1, 1) := by decide +kernel
theorem dX11_roundOf_23 : decode cX11_roundOf 23 = .ok (.istore_n 3, 1) := by decide +kernel
theorem dX11_roundOf_24 : decode cX11_roundOf 24 = .ok (.iconst 0, 1) := by decide +kernel
theorem dX11_roundOf_25 : decode cX11_roundOf 25 = .ok (.istore 4, 2) := by decide +kernel
theorem dX11_roundOf_27 : decode cX11_roundOf 27 = .ok (.aload_n 0, 1) := by decide +kernel
theorem dX11_roundOf_28 : decode cX11_roundOf 28 = .ok (.getfield 53, 3) := by decide +kernel
theorem dX11_roundOf_31 : decode cX11_roundOf 31 = .ok (.iload_n 3, 1) := by decide +kernel
theorem dX11_roundOf_32 : decode cX11_roundOf 32 = .ok (.iaload, 1) := by decide +kernel
theorem dX11_roundOf_33 : decode cX11_roundOf 33 = .ok (.iconst (-1), 1) := by decide +kernel
theorem dX11_roundOf_34 : decode cX11_roundOf 34 = .ok (.if_icmp .ne 23, 3) := by decide +kernel
theorem dX11_roundOf_37 : decode cX11_roundOf 37 = .ok (.aload_n 0, 1) := by decide +kernel
theorem dX11_roundOf_38 : decode cX11_roundOf 38 = .ok (.getfield 53, 3) := by decide +kernel
theorem dX11_roundOf_41 : decode cX11_roundOf 41 = .ok (.iload_n 3, 1) := by decide +kernel
theorem dX11_roundOf_42 : decode cX11_roundOf 42 = .ok (.iload 4, 2) := by decide +kernel
theorem dX11_roundOf_44 : decode cX11_roundOf 44 = .ok (.iastore, 1) := by decide +kernel
theorem dX11_roundOf_45 : decode cX11_roundOf 45 = .ok (.aload_n 0, 1) := by decide +kernel
theorem dX11_roundOf_46 : decode cX11_roundOf 46 = .ok (.iload_n 3, 1) := by decide +kernel
theorem dX11_roundOf_47 : decode cX11_roundOf 47 = .ok (.invokevirtual 176, 3) := by decide +kernel
theorem dX11_roundOf_50 : decode cX11_roundOf 50 = .ok (.istore_n 3, 1) := by decide +kernel
theorem dX11_roundOf_51 : decode cX11_roundOf 51 = .ok (.iinc 4 1, 3) := by decide +kernel
theorem dX11_roundOf_54 : decode cX11_roundOf 54 = .ok (.goto (-27), 3) := by decide +kernel
theorem dX11_roundOf_57 : decode cX11_roundOf 57 = .ok (.iload_n 2, 1) := by decide +kernel
theorem dX11_roundOf_58 : decode cX11_roundOf 58 = .ok (.ifCond .ne 8, 3) := by decide +kernel
theorem dX11_roundOf_61 : decode cX11_roundOf 61 = .ok (.iload 4, 2) := by decide +kernel
theorem dX11_roundOf_63 : decode cX11_roundOf 63 = .ok (.goto 12, 3) := by decide +kernel
theorem dX11_roundOf_66 : decode cX11_roundOf 66 = .ok (.iload 4, 2) := by decide +kernel
theorem dX11_roundOf_68 : decode cX11_roundOf 68 = .ok (.aload_n 0, 1) := by decide +kernel
theorem dX11_roundOf_69 : decode cX11_roundOf 69 = .ok (.getfield 53, 3) := by decide +kernel
theorem dX11_roundOf_72 : decode cX11_roundOf 72 = .ok (.iload_n 3, 1) := by decide +kernel
theorem dX11_roundOf_73 : decode cX11_roundOf 73 = .ok (.iaload, 1) := by decide +kernel
theorem dX11_roundOf_74 : decode cX11_roundOf 74 = .ok (.isub, 1) := by decide +kernel
theorem dX11_roundOf_75 : decode cX11_roundOf 75 = .ok (.ireturn, 1) := by decide +kernel
theorem dX11_round_0 : decode cX11_round 0 = .ok (.aload_n 0, 1) := by decide +kernel
theorem dX11_round_1 : decode cX11_round 1 = .ok (.invokevirtual 153, 3) := by decide +kernel
theorem dX11_round_4 : decode cX11_round 4 = .ok (.iload_n 1, 1) := by decide +kernel
theorem dX11_round_5 : decode cX11_round 5 = .ok (.invokestatic 147, 3) := by decide +kernel
theorem dX11_round_8 : decode cX11_round 8 = .ok (.ifCond .eq 19, 3) := by decide +kernel
theorem dX11_round_11 : decode cX11_round 11 = .ok (.iload_n 2, 1) := by decide +kernel
theorem dX11_round_12 : decode cX11_round 12 = .ok (.invokestatic 90, 3) := by decide +kernel
theorem dX11_round_15 : decode cX11_round 15 = .ok (.ifCond .eq 12, 3) := by decide +kernel
theorem dX11_round_18 : decode cX11_round 18 = .ok (.aload_n 0, 1) := by decide +kernel
theorem dX11_round_19 : decode cX11_round 19 = .ok (.iload_n 1, 1) := by decide +kernel
theorem dX11_round_20 : decode cX11_round 20 = .ok (.iload_n 2, 1) := by decide +kernel
theorem dX11_round_21 : decode cX11_round 21 = .ok (.invokevirtual 214, 3) := by decide +kernel
theorem dX11_round_24 : decode cX11_round 24 = .ok (.goto 5, 3) := by decide +kernel
theorem dX11_round_27 : decode cX11_round 27 = .ok (.bipush (-2), 2) := by decide +kernel
theorem dX11_round_29 : decode cX11_round 29 = .ok (.ireturn, 1) := by decide +kernel
theorem dX11_seen_0 : decode cX11_seen 0 = .ok (.iload_n 1, 1) := by decide +kernel
theorem dX11_seen_1 : decode cX11_seen 1 = .ok (.invokestatic 147, 3) := by decide +kernel
theorem dX11_seen_4 : decode cX11_seen 4 = .ok (.ifCond .eq 10, 3) := by decide +kernel
theorem dX11_seen_7 : decode cX11_seen 7 = .ok (.iload_n 2, 1) := by decide +kernel
theorem dX11_seen_8 : decode cX11_seen 8 = .ok (.invokestatic 147, 3) := by decide +kernel
theorem dX11_seen_11 : decode cX11_seen 11 = .ok (.ifCond .ne 6, 3) := by decide +kernel
theorem dX11_seen_14 : decode cX11_seen 14 = .ok (.bipush (-2), 2) := by decide +kernel
theorem dX11_seen_16 : decode cX11_seen 16 = .ok (.ireturn, 1) := by decide +kernel
theorem dX11_seen_17 : decode cX11_seen 17 = .ok (.aload_n 0, 1) := by decide +kernel
theorem dX11_seen_18 : decode cX11_seen 18 = .ok (.getfield 217, 3) := by decide +kernel
theorem dX11_seen_21 : decode cX11_seen 21 = .ok (.bipush 8, 2) := by decide +kernel
theorem dX11_seen_23 : decode cX11_seen 23 = .ok (.if_icmp .ne 6, 3) := by decide +kernel
theorem dX11_seen_26 : decode cX11_seen 26 = .ok (.bipush (-4), 2) := by decide +kernel
theorem dX11_seen_28 : decode cX11_seen 28 = .ok (.ireturn, 1) := by decide +kernel
theorem dX11_seen_29 : decode cX11_seen 29 = .ok (.aload_n 0, 1) := by decide +kernel
theorem dX11_seen_30 : decode cX11_seen 30 = .ok (.getfield 56, 3) := by decide +kernel
theorem dX11_seen_33 : decode cX11_seen 33 = .ok (.iconst 2, 1) := by decide +kernel
theorem dX11_seen_34 : decode cX11_seen 34 = .ok (.aload_n 0, 1) := by decide +kernel
theorem dX11_seen_35 : decode cX11_seen 35 = .ok (.getfield 217, 3) := by decide +kernel
theorem dX11_seen_38 : decode cX11_seen 38 = .ok (.imul, 1) := by decide +kernel
theorem dX11_seen_39 : decode cX11_seen 39 = .ok (.iload_n 1, 1) := by decide +kernel
theorem dX11_seen_40 : decode cX11_seen 40 = .ok (.iastore, 1) := by decide +kernel
theorem dX11_seen_41 : decode cX11_seen 41 = .ok (.aload_n 0, 1) := by decide +kernel
theorem dX11_seen_42 : decode cX11_seen 42 = .ok (.getfield 56, 3) := by decide +kernel
theorem dX11_seen_45 : decode cX11_seen 45 = .ok (.iconst 2, 1) := by decide +kernel
theorem dX11_seen_46 : decode cX11_seen 46 = .ok (.aload_n 0, 1) := by decide +kernel
theorem dX11_seen_47 : decode cX11_seen 47 = .ok (.getfield 217, 3) := by decide +kernel
theorem dX11_seen_50 : decode cX11_seen 50 = .ok (.imul, 1) := by decide +kernel
theorem dX11_seen_51 : decode cX11_seen 51 = .ok (.iconst 1, 1) := by decide +kernel
theorem dX11_seen_52 : decode cX11_seen 52 = .ok (.iadd, 1) := by decide +kernel
theorem dX11_seen_53 : decode cX11_seen 53 = .ok (.iload_n 2, 1) := by decide +kernel
theorem dX11_seen_54 : decode cX11_seen 54 = .ok (.iastore, 1) := by decide +kernel
theorem dX11_seen_55 : decode cX11_seen 55 = .ok (.aload_n 0, 1) := by decide +kernel
theorem dX11_seen_56 : decode cX11_seen 56 = .ok (.dup, 1) := by decide +kernel
theorem dX11_seen_57 : decode cX11_seen 57 = .ok (.getfield 217, 3) := by decide +kernel
theorem dX11_seen_60 : decode cX11_seen 60 = .ok (.iconst 1, 1) := by decide +kernel
theorem dX11_seen_61 : decode cX11_seen 61 = .ok (.iadd, 1) := by decide +kernel
theorem dX11_seen_62 : decode cX11_seen 62 = .ok (.putfield 217, 3) := by decide +kernel
theorem dX11_seen_65 : decode cX11_seen 65 = .ok (.aload_n 0, 1) := by decide +kernel
theorem dX11_seen_66 : decode cX11_seen 66 = .ok (.getfield 217, 3) := by decide +kernel
theorem dX11_seen_69 : decode cX11_seen 69 = .ok (.ireturn, 1) := by decide +kernel
theorem dX11_forget_0 : decode cX11_forget 0 = .ok (.aload_n 0, 1) := by decide +kernel
theorem dX11_forget_1 : decode cX11_forget 1 = .ok (.getfield 217, 3) := by decide +kernel
theorem dX11_forget_4 : decode cX11_forget 4 = .ok (.istore_n 1, 1) := by decide +kernel
theorem dX11_forget_5 : decode cX11_forget 5 = .ok (.aload_n 0, 1) := by decide +kernel
theorem dX11_forget_6 : decode cX11_forget 6 = .ok (.iconst 0, 1) := by decide +kernel
theorem dX11_forget_7 : decode cX11_forget 7 = .ok (.putfield 217, 3) := by decide +kernel
theorem dX11_forget_10 : decode cX11_forget 10 = .ok (.iload_n 1, 1) := by decide +kernel
theorem dX11_forget_11 : decode cX11_forget 11 = .ok (.ireturn, 1) := by decide +kernel
theorem dX11_read_0 : decode cX11_read 0 = .ok (.iload_n 1, 1) := by decide +kernel
theorem dX11_read_1 : decode cX11_read 1 = .ok (.invokestatic 71, 3) := by decide +kernel
theorem dX11_read_4 : decode cX11_read 4 = .ok (.ifCond .ne 6, 3) := by decide +kernel
theorem dX11_read_7 : decode cX11_read 7 = .ok (.bipush (-2), 2) := by decide +kernel
theorem dX11_read_9 : decode cX11_read 9 = .ok (.ireturn, 1) := by decide +kernel
theorem dX11_read_10 : decode cX11_read 10 = .ok (.aload_n 0, 1) := by decide +kernel
theorem dX11_read_11 : decode cX11_read 11 = .ok (.getfield 7, 3) := by decide +kernel
theorem dX11_read_14 : decode cX11_read 14 = .ok (.iload_n 1, 1) := by decide +kernel
theorem dX11_read_15 : decode cX11_read 15 = .ok (.iaload, 1) := by decide +kernel
theorem dX11_read_16 : decode cX11_read 16 = .ok (.ifCond .ge 9, 3) := by decide +kernel
theorem dX11_read_19 : decode cX11_read 19 = .ok (.aload_n 0, 1) := by decide +kernel
theorem dX11_read_20 : decode cX11_read 20 = .ok (.iconst 1, 1) := by decide +kernel
theorem dX11_read_21 : decode cX11_read 21 = .ok (.invokevirtual 77, 3) := by decide +kernel
theorem dX11_read_24 : decode cX11_read 24 = .ok (.ireturn, 1) := by decide +kernel
theorem dX11_read_25 : decode cX11_read 25 = .ok (.iconst 0, 1) := by decide +kernel
theorem dX11_read_26 : decode cX11_read 26 = .ok (.istore_n 2, 1) := by decide +kernel
theorem dX11_read_27 : decode cX11_read 27 = .ok (.iconst 1, 1) := by decide +kernel
theorem dX11_read_28 : decode cX11_read 28 = .ok (.istore_n 3, 1) := by decide +kernel
theorem dX11_read_29 : decode cX11_read 29 = .ok (.iload_n 3, 1) := by decide +kernel
theorem dX11_read_30 : decode cX11_read 30 = .ok (.ifCond .eq 73, 3) := by decide +kernel
theorem dX11_read_33 : decode cX11_read 33 = .ok (.iconst 2, 1) := by decide +kernel
theorem dX11_read_34 : decode cX11_read 34 = .ok (.iload_n 2, 1) := by decide +kernel
theorem dX11_read_35 : decode cX11_read 35 = .ok (.imul, 1) := by decide +kernel
theorem dX11_read_36 : decode cX11_read 36 = .ok (.iconst 2, 1) := by decide +kernel
theorem dX11_read_37 : decode cX11_read 37 = .ok (.iadd, 1) := by decide +kernel
theorem dX11_read_38 : decode cX11_read 38 = .ok (.aload_n 0, 1) := by decide +kernel
theorem dX11_read_39 : decode cX11_read 39 = .ok (.getfield 13, 3) := by decide +kernel
theorem dX11_read_42 : decode cX11_read 42 = .ok (.iload_n 1, 1) := by decide +kernel
theorem dX11_read_43 : decode cX11_read 43 = .ok (.iaload, 1) := by decide +kernel
theorem dX11_read_44 : decode cX11_read 44 = .ok (.if_icmp .gt 59, 3) := by decide +kernel
theorem dX11_read_47 : decode cX11_read 47 = .ok (.aload_n 0, 1) := by decide +kernel
theorem dX11_read_48 : decode cX11_read 48 = .ok (.aload_n 0, 1) := by decide +kernel
theorem dX11_read_49 : decode cX11_read 49 = .ok (.getfield 16, 3) := by decide +kernel
theorem dX11_read_52 : decode cX11_read 52 = .ok (.bipush 60, 2) := by decide +kernel
theorem dX11_read_54 : decode cX11_read 54 = .ok (.iload_n 1, 1) := by decide +kernel
theorem dX11_read_55 : decode cX11_read 55 = .ok (.imul, 1) := by decide +kernel
theorem dX11_read_56 : decode cX11_read 56 = .ok (.iconst 2, 1) := by decide +kernel
theorem dX11_read_57 : decode cX11_read 57 = .ok (.iload_n 2, 1) := by decide +kernel
theorem dX11_read_58 : decode cX11_read 58 = .ok (.imul, 1) := by decide +kernel
theorem dX11_read_59 : decode cX11_read 59 = .ok (.iadd, 1) := by decide +kernel
theorem dX11_read_60 : decode cX11_read 60 = .ok (.iaload, 1) := by decide +kernel
theorem dX11_read_61 : decode cX11_read 61 = .ok (.aload_n 0, 1) := by decide +kernel
theorem dX11_read_62 : decode cX11_read 62 = .ok (.getfield 16, 3) := by decide +kernel
theorem dX11_read_65 : decode cX11_read 65 = .ok (.bipush 60, 2) := by decide +kernel
theorem dX11_read_67 : decode cX11_read 67 = .ok (.iload_n 1, 1) := by decide +kernel
theorem dX11_read_68 : decode cX11_read 68 = .ok (.imul, 1) := by decide +kernel
theorem dX11_read_69 : decode cX11_read 69 = .ok (.iconst 2, 1) := by decide +kernel
theorem dX11_read_70 : decode cX11_read 70 = .ok (.iload_n 2, 1) := by decide +kernel
theorem dX11_read_71 : decode cX11_read 71 = .ok (.imul, 1) := by decide +kernel
theorem dX11_read_72 : decode cX11_read 72 = .ok (.iadd, 1) := by decide +kernel
theorem dX11_read_73 : decode cX11_read 73 = .ok (.iconst 1, 1) := by decide +kernel
theorem dX11_read_74 : decode cX11_read 74 = .ok (.iadd, 1) := by decide +kernel
theorem dX11_read_75 : decode cX11_read 75 = .ok (.iaload, 1) := by decide +kernel
theorem dX11_read_76 : decode cX11_read 76 = .ok (.invokevirtual 220, 3) := by decide +kernel
theorem dX11_read_79 : decode cX11_read 79 = .ok (.ifCond .lt 7, 3) := by decide +kernel
theorem dX11_read_82 : decode cX11_read 82 = .ok (.iconst 1, 1) := by decide +kernel
theorem dX11_read_83 : decode cX11_read 83 = .ok (.goto 4, 3) := by decide +kernel
theorem dX11_read_86 : decode cX11_read 86 = .ok (.iconst 0, 1) := by decide +kernel
theorem dX11_read_87 : decode cX11_read 87 = .ok (.istore_n 3, 1) := by decide +kernel
theorem dX11_read_88 : decode cX11_read 88 = .ok (.iload_n 2, 1) := by decide +kernel
theorem dX11_read_89 : decode cX11_read 89 = .ok (.iload_n 3, 1) := by decide +kernel
theorem dX11_read_90 : decode cX11_read 90 = .ok (.ifCond .eq 7, 3) := by decide +kernel
theorem dX11_read_93 : decode cX11_read 93 = .ok (.iconst 1, 1) := by decide +kernel
theorem dX11_read_94 : decode cX11_read 94 = .ok (.goto 4, 3) := by decide +kernel
theorem dX11_read_97 : decode cX11_read 97 = .ok (.iconst 0, 1) := by decide +kernel
theorem dX11_read_98 : decode cX11_read 98 = .ok (.iadd, 1) := by decide +kernel
theorem dX11_read_99 : decode cX11_read 99 = .ok (.istore_n 2, 1) := by decide +kernel
theorem dX11_read_100 : decode cX11_read 100 = .ok (.goto (-71), 3) := by decide +kernel
theorem dX11_read_103 : decode cX11_read 103 = .ok (.iload_n 2, 1) := by decide +kernel
theorem dX11_read_104 : decode cX11_read 104 = .ok (.ireturn, 1) := by decide +kernel
theorem dX11_standsFor_0 : decode cX11_standsFor 0 = .ok (.iconst 1, 1) := by decide +kernel
theorem dX11_standsFor_1 : decode cX11_standsFor 1 = .ok (.istore_n 3, 1) := by decide +kernel
theorem dX11_standsFor_2 : decode cX11_standsFor 2 = .ok (.iconst 0, 1) := by decide +kernel
theorem dX11_standsFor_3 : decode cX11_standsFor 3 = .ok (.istore 4, 2) := by decide +kernel
theorem dX11_standsFor_5 : decode cX11_standsFor 5 = .ok (.iload 4, 2) := by decide +kernel
theorem dX11_standsFor_7 : decode cX11_standsFor 7 = .ok (.aload_n 0, 1) := by decide +kernel
theorem dX11_standsFor_8 : decode cX11_standsFor 8 = .ok (.getfield 217, 3) := by decide +kernel
theorem dX11_standsFor_11 : decode cX11_standsFor 11 = .ok (.if_icmp .ge 56, 3) := by decide +kernel
theorem dX11_standsFor_14 : decode cX11_standsFor 14 = .ok (.iload_n 3, 1) := by decide +kernel
theorem dX11_standsFor_15 : decode cX11_standsFor 15 = .ok (.ifCond .eq 44, 3) := by decide +kernel
theorem dX11_standsFor_18 : decode cX11_standsFor 18 = .ok (.iload_n 1, 1) := by decide +kernel
theorem dX11_standsFor_19 : decode cX11_standsFor 19 = .ok (.aload_n 0, 1) := by decide +kernel
theorem dX11_standsFor_20 : decode cX11_standsFor 20 = .ok (.getfield 56, 3) := by decide +kernel
theorem dX11_standsFor_23 : decode cX11_standsFor 23 = .ok (.iconst 2, 1) := by decide +kernel
theorem dX11_standsFor_24 : decode cX11_standsFor 24 = .ok (.iload 4, 2) := by decide +kernel
theorem dX11_standsFor_26 : decode cX11_standsFor 26 = .ok (.imul, 1) := by decide +kernel
theorem dX11_standsFor_27 : decode cX11_standsFor 27 = .ok (.iaload, 1) := by decide +kernel
theorem dX11_standsFor_28 : decode cX11_standsFor 28 = .ok (.iand, 1) := by decide +kernel
theorem dX11_standsFor_29 : decode cX11_standsFor 29 = .ok (.ifCond .eq 7, 3) := by decide +kernel
theorem dX11_standsFor_32 : decode cX11_standsFor 32 = .ok (.iconst 1, 1) := by decide +kernel
theorem dX11_standsFor_33 : decode cX11_standsFor 33 = .ok (.goto 4, 3) := by decide +kernel
theorem dX11_standsFor_36 : decode cX11_standsFor 36 = .ok (.iconst 0, 1) := by decide +kernel
theorem dX11_standsFor_37 : decode cX11_standsFor 37 = .ok (.aload_n 0, 1) := by decide +kernel
theorem dX11_standsFor_38 : decode cX11_standsFor 38 = .ok (.getfield 56, 3) := by decide +kernel
theorem dX11_standsFor_41 : decode cX11_standsFor 41 = .ok (.iconst 2, 1) := by decide +kernel
theorem dX11_standsFor_42 : decode cX11_standsFor 42 = .ok (.iload 4, 2) := by decide +kernel
theorem dX11_standsFor_44 : decode cX11_standsFor 44 = .ok (.imul, 1) := by decide +kernel
theorem dX11_standsFor_45 : decode cX11_standsFor 45 = .ok (.iconst 1, 1) := by decide +kernel
theorem dX11_standsFor_46 : decode cX11_standsFor 46 = .ok (.iadd, 1) := by decide +kernel
theorem dX11_standsFor_47 : decode cX11_standsFor 47 = .ok (.iaload, 1) := by decide +kernel
theorem dX11_standsFor_48 : decode cX11_standsFor 48 = .ok (.iload_n 2, 1) := by decide +kernel
theorem dX11_standsFor_49 : decode cX11_standsFor 49 = .ok (.invokestatic 142, 3) := by decide +kernel
theorem dX11_standsFor_52 : decode cX11_standsFor 52 = .ok (.if_icmp .ne 7, 3) := by decide +kernel
theorem dX11_standsFor_55 : decode cX11_standsFor 55 = .ok (.iconst 1, 1) := by decide +kernel
theorem dX11_standsFor_56 : decode cX11_standsFor 56 = .ok (.goto 4, 3) := by decide +kernel
theorem dX11_standsFor_59 : decode cX11_standsFor 59 = .ok (.iconst 0, 1) := by decide +kernel
theorem dX11_standsFor_60 : decode cX11_standsFor 60 = .ok (.istore_n 3, 1) := by decide +kernel
theorem dX11_standsFor_61 : decode cX11_standsFor 61 = .ok (.iinc 4 1, 3) := by decide +kernel
theorem dX11_standsFor_64 : decode cX11_standsFor 64 = .ok (.goto (-59), 3) := by decide +kernel
theorem dX11_standsFor_67 : decode cX11_standsFor 67 = .ok (.iload_n 3, 1) := by decide +kernel
theorem dX11_standsFor_68 : decode cX11_standsFor 68 = .ok (.ireturn, 1) := by decide +kernel
theorem dX11_standsOf_0 : decode cX11_standsOf 0 = .ok (.iconst 0, 1) := by decide +kernel
theorem dX11_standsOf_1 : decode cX11_standsOf 1 = .ok (.istore_n 3, 1) := by decide +kernel
theorem dX11_standsOf_2 : decode cX11_standsOf 2 = .ok (.iconst (-1), 1) := by decide +kernel
theorem dX11_standsOf_3 : decode cX11_standsOf 3 = .ok (.istore 4, 2) := by decide +kernel
theorem dX11_standsOf_5 : decode cX11_standsOf 5 = .ok (.iconst 0, 1) := by decide +kernel
theorem dX11_standsOf_6 : decode cX11_standsOf 6 = .ok (.istore 5, 2) := by decide +kernel
theorem dX11_standsOf_8 : decode cX11_standsOf 8 = .ok (.iload 5, 2) := by decide +kernel
theorem dX11_standsOf_10 : decode cX11_standsOf 10 = .ok (.sipush 256, 3) := by decide +kernel
theorem dX11_standsOf_13 : decode cX11_standsOf 13 = .ok (.if_icmp .ge 50, 3) := by decide +kernel
theorem dX11_standsOf_16 : decode cX11_standsOf 16 = .ok (.aload_n 0, 1) := by decide +kernel
theorem dX11_standsOf_17 : decode cX11_standsOf 17 = .ok (.iload 5, 2) := by decide +kernel
theorem dX11_standsOf_19 : decode cX11_standsOf 19 = .ok (.iload_n 1, 1) := by decide +kernel
theorem dX11_standsOf_20 : decode cX11_standsOf 20 = .ok (.invokevirtual 222, 3) := by decide +kernel
theorem dX11_standsOf_23 : decode cX11_standsOf 23 = .ok (.ifCond .eq 34, 3) := by decide +kernel
theorem dX11_standsOf_26 : decode cX11_standsOf 26 = .ok (.iinc 3 1, 3) := by decide +kernel
theorem dX11_standsOf_29 : decode cX11_standsOf 29 = .ok (.iload 4, 2) := by decide +kernel
theorem dX11_standsOf_31 : decode cX11_standsOf 31 = .ok (.iconst (-1), 1) := by decide +kernel
theorem dX11_standsOf_32 : decode cX11_standsOf 32 = .ok (.if_icmp .eq 16, 3) := by decide +kernel
theorem dX11_standsOf_35 : decode cX11_standsOf 35 = .ok (.iload 5, 2) := by decide +kernel
theorem dX11_standsOf_37 : decode cX11_standsOf 37 = .ok (.invokestatic 170, 3) := by decide +kernel
theorem dX11_standsOf_40 : decode cX11_standsOf 40 = .ok (.iload 4, 2) := by decide +kernel
theorem dX11_standsOf_42 : decode cX11_standsOf 42 = .ok (.invokestatic 170, 3) := by decide +kernel
theorem dX11_standsOf_45 : decode cX11_standsOf 45 = .ok (.if_icmp .ge 8, 3) := by decide +kernel
theorem dX11_standsOf_48 : decode cX11_standsOf 48 = .ok (.iload 5, 2) := by decide +kernel
theorem dX11_standsOf_50 : decode cX11_standsOf 50 = .ok (.goto 5, 3) := by decide +kernel
theorem dX11_standsOf_53 : decode cX11_standsOf 53 = .ok (.iload 4, 2) := by decide +kernel
theorem dX11_standsOf_55 : decode cX11_standsOf 55 = .ok (.istore 4, 2) := by decide +kernel
theorem dX11_standsOf_57 : decode cX11_standsOf 57 = .ok (.iinc 5 1, 3) := by decide +kernel
theorem dX11_standsOf_60 : decode cX11_standsOf 60 = .ok (.goto (-52), 3) := by decide +kernel
theorem dX11_standsOf_63 : decode cX11_standsOf 63 = .ok (.iload_n 2, 1) := by decide +kernel
theorem dX11_standsOf_64 : decode cX11_standsOf 64 = .ok (.ifCond .ne 7, 3) := by decide +kernel
theorem dX11_standsOf_67 : decode cX11_standsOf 67 = .ok (.iload_n 3, 1) := by decide +kernel
theorem dX11_standsOf_68 : decode cX11_standsOf 68 = .ok (.goto 5, 3) := by decide +kernel
theorem dX11_standsOf_71 : decode cX11_standsOf 71 = .ok (.iload 4, 2) := by decide +kernel
theorem dX11_standsOf_73 : decode cX11_standsOf 73 = .ok (.ireturn, 1) := by decide +kernel
theorem dX11_stands_0 : decode cX11_stands 0 = .ok (.iload_n 1, 1) := by decide +kernel
theorem dX11_stands_1 : decode cX11_stands 1 = .ok (.invokestatic 158, 3) := by decide +kernel
theorem dX11_stands_4 : decode cX11_stands 4 = .ok (.ifCond .eq 19, 3) := by decide +kernel
theorem dX11_stands_7 : decode cX11_stands 7 = .ok (.iload_n 2, 1) := by decide +kernel
theorem dX11_stands_8 : decode cX11_stands 8 = .ok (.invokestatic 90, 3) := by decide +kernel
theorem dX11_stands_11 : decode cX11_stands 11 = .ok (.ifCond .eq 12, 3) := by decide +kernel
theorem dX11_stands_14 : decode cX11_stands 14 = .ok (.aload_n 0, 1) := by decide +kernel
theorem dX11_stands_15 : decode cX11_stands 15 = .ok (.iload_n 1, 1) := by decide +kernel
theorem dX11_stands_16 : decode cX11_stands 16 = .ok (.iload_n 2, 1) := by decide +kernel
theorem dX11_stands_17 : decode cX11_stands 17 = .ok (.invokevirtual 225, 3) := by decide +kernel
theorem dX11_stands_20 : decode cX11_stands 20 = .ok (.goto 5, 3) := by decide +kernel
theorem dX11_stands_23 : decode cX11_stands 23 = .ok (.bipush (-2), 2) := by decide +kernel
theorem dX11_stands_25 : decode cX11_stands 25 = .ok (.ireturn, 1) := by decide +kernel
theorem dX11_watchOf_0 : decode cX11_watchOf 0 = .ok (.aload_n 0, 1) := by decide +kernel
theorem dX11_watchOf_1 : decode cX11_watchOf 1 = .ok (.iload_n 1, 1) := by decide +kernel
theorem dX11_watchOf_2 : decode cX11_watchOf 2 = .ok (.iconst 0, 1) := by decide +kernel
theorem dX11_watchOf_3 : decode cX11_watchOf 3 = .ok (.invokevirtual 225, 3) := by decide +kernel
theorem dX11_watchOf_6 : decode cX11_watchOf 6 = .ok (.istore_n 2, 1) := by decide +kernel
theorem dX11_watchOf_7 : decode cX11_watchOf 7 = .ok (.iconst (-1), 1) := by decide +kernel
theorem dX11_watchOf_8 : decode cX11_watchOf 8 = .ok (.istore_n 3, 1) := by decide +kernel
theorem dX11_watchOf_9 : decode cX11_watchOf 9 = .ok (.iconst 0, 1) := by decide +kernel
theorem dX11_watchOf_10 : decode cX11_watchOf 10 = .ok (.istore 4, 2) := by decide +kernel
theorem dX11_watchOf_12 : decode cX11_watchOf 12 = .ok (.iconst 0, 1) := by decide +kernel
theorem dX11_watchOf_13 : decode cX11_watchOf 13 = .ok (.istore 5, 2) := by decide +kernel
theorem dX11_watchOf_15 : decode cX11_watchOf 15 = .ok (.iload 5, 2) := by decide +kernel
theorem dX11_watchOf_17 : decode cX11_watchOf 17 = .ok (.bipush 8, 2) := by decide +kernel
theorem dX11_watchOf_19 : decode cX11_watchOf 19 = .ok (.if_icmp .ge 133, 3) := by decide +kernel
theorem dX11_watchOf_22 : decode cX11_watchOf 22 = .ok (.iload_n 2, 1) := by decide +kernel
theorem dX11_watchOf_23 : decode cX11_watchOf 23 = .ok (.ifCond .le 129, 3) := by decide +kernel
theorem dX11_watchOf_26 : decode cX11_watchOf 26 = .ok (.iconst 0, 1) := by decide +kernel
theorem dX11_watchOf_27 : decode cX11_watchOf 27 = .ok (.istore 6, 2) := by decide +kernel
theorem dX11_watchOf_29 : decode cX11_watchOf 29 = .ok (.iconst 0, 1) := by decide +kernel
theorem dX11_watchOf_30 : decode cX11_watchOf 30 = .ok (.istore 7, 2) := by decide +kernel
theorem dX11_watchOf_32 : decode cX11_watchOf 32 = .ok (.iload 7, 2) := by decide +kernel
theorem dX11_watchOf_34 : decode cX11_watchOf 34 = .ok (.sipush 256, 3) := by decide +kernel
theorem dX11_watchOf_37 : decode cX11_watchOf 37 = .ok (.if_icmp .ge 39, 3) := by decide +kernel
theorem dX11_watchOf_40 : decode cX11_watchOf 40 = .ok (.iload 6, 2) := by decide +kernel
theorem dX11_watchOf_42 : decode cX11_watchOf 42 = .ok (.iload 7, 2) := by decide +kernel
theorem dX11_watchOf_44 : decode cX11_watchOf 44 = .ok (.iload 5, 2) := by decide +kernel
theorem dX11_watchOf_46 : decode cX11_watchOf 46 = .ok (.invokestatic 142, 3) := by decide +kernel
theorem dX11_watchOf_49 : decode cX11_watchOf 49 = .ok (.ifCond .eq 17, 3) := by decide +kernel
theorem dX11_watchOf_52 : decode cX11_watchOf 52 = .ok (.aload_n 0, 1) := by decide +kernel
theorem dX11_watchOf_53 : decode cX11_watchOf 53 = .ok (.iload 7, 2) := by decide +kernel
theorem dX11_watchOf_55 : decode cX11_watchOf 55 = .ok (.iload_n 1, 1) := by decide +kernel
theorem dX11_watchOf_56 : decode cX11_watchOf 56 = .ok (.invokevirtual 222, 3) := by decide +kernel
theorem dX11_watchOf_59 : decode cX11_watchOf 59 = .ok (.ifCond .eq 7, 3) := by decide +kernel
theorem dX11_watchOf_62 : decode cX11_watchOf 62 = .ok (.iconst 1, 1) := by decide +kernel
theorem dX11_watchOf_63 : decode cX11_watchOf 63 = .ok (.goto 4, 3) := by decide +kernel
theorem dX11_watchOf_66 : decode cX11_watchOf 66 = .ok (.iconst 0, 1) := by decide +kernel
theorem dX11_watchOf_67 : decode cX11_watchOf 67 = .ok (.iadd, 1) := by decide +kernel
theorem dX11_watchOf_68 : decode cX11_watchOf 68 = .ok (.istore 6, 2) := by decide +kernel
theorem dX11_watchOf_70 : decode cX11_watchOf 70 = .ok (.iinc 7 1, 3) := by decide +kernel
theorem dX11_watchOf_73 : decode cX11_watchOf 73 = .ok (.goto (-41), 3) := by decide +kernel
theorem dX11_watchOf_76 : decode cX11_watchOf 76 = .ok (.iconst 2, 1) := by decide +kernel
theorem dX11_watchOf_77 : decode cX11_watchOf 77 = .ok (.iload 6, 2) := by decide +kernel
theorem dX11_watchOf_79 : decode cX11_watchOf 79 = .ok (.imul, 1) := by decide +kernel
theorem dX11_watchOf_80 : decode cX11_watchOf 80 = .ok (.iload_n 2, 1) := by decide +kernel
theorem dX11_watchOf_81 : decode cX11_watchOf 81 = .ok (.if_icmp .le 12, 3) := by decide +kernel
theorem dX11_watchOf_84 : decode cX11_watchOf 84 = .ok (.iconst 2, 1) := by decide +kernel
theorem dX11_watchOf_85 : decode cX11_watchOf 85 = .ok (.iload 6, 2) := by decide +kernel
theorem dX11_watchOf_87 : decode cX11_watchOf 87 = .ok (.imul, 1) := by decide +kernel
