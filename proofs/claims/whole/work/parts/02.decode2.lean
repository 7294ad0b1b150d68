theorem dX10_lay_29 : decode cX10_lay 29 = .ok (.iload_n 2, 1) := by decide +kernel
theorem dX10_lay_30 : decode cX10_lay 30 = .ok (.iload_n 3, 1) := by decide +kernel
theorem dX10_lay_31 : decode cX10_lay 31 = .ok (.invokevirtual 139, 3) := by decide +kernel
theorem dX10_lay_34 : decode cX10_lay 34 = .ok (.ifCond .ne 6, 3) := by decide +kernel
theorem dX10_lay_37 : decode cX10_lay 37 = .ok (.bipush (-4), 2) := by decide +kernel
theorem dX10_lay_39 : decode cX10_lay 39 = .ok (.ireturn, 1) := by decide +kernel
theorem dX10_lay_40 : decode cX10_lay 40 = .ok (.aload_n 0, 1) := by decide +kernel
theorem dX10_lay_41 : decode cX10_lay 41 = .ok (.getfield 49, 3) := by decide +kernel
theorem dX10_lay_44 : decode cX10_lay 44 = .ok (.invokevirtual 143, 3) := by decide +kernel
theorem dX10_lay_47 : decode cX10_lay 47 = .ok (.ireturn, 1) := by decide +kernel
theorem dX10_back_0 : decode cX10_back 0 = .ok (.aload_n 0, 1) := by decide +kernel
theorem dX10_back_1 : decode cX10_back 1 = .ok (.getfield 49, 3) := by decide +kernel
theorem dX10_back_4 : decode cX10_back 4 = .ok (.invokevirtual 146, 3) := by decide +kernel
theorem dX10_back_7 : decode cX10_back 7 = .ok (.ifCond .ne 6, 3) := by decide +kernel
theorem dX10_back_10 : decode cX10_back 10 = .ok (.bipush (-3), 2) := by decide +kernel
theorem dX10_back_12 : decode cX10_back 12 = .ok (.ireturn, 1) := by decide +kernel
theorem dX10_back_13 : decode cX10_back 13 = .ok (.aload_n 0, 1) := by decide +kernel
theorem dX10_back_14 : decode cX10_back 14 = .ok (.getfield 49, 3) := by decide +kernel
theorem dX10_back_17 : decode cX10_back 17 = .ok (.invokevirtual 143, 3) := by decide +kernel
theorem dX10_back_20 : decode cX10_back 20 = .ok (.ireturn, 1) := by decide +kernel
theorem dX10_week_0 : decode cX10_week 0 = .ok (.iload_n 1, 1) := by decide +kernel
theorem dX10_week_1 : decode cX10_week 1 = .ok (.invokestatic 133, 3) := by decide +kernel
theorem dX10_week_4 : decode cX10_week 4 = .ok (.ifCond .eq 10, 3) := by decide +kernel
theorem dX10_week_7 : decode cX10_week 7 = .ok (.iload_n 2, 1) := by decide +kernel
theorem dX10_week_8 : decode cX10_week 8 = .ok (.invokestatic 112, 3) := by decide +kernel
theorem dX10_week_11 : decode cX10_week 11 = .ok (.ifCond .ne 6, 3) := by decide +kernel
theorem dX10_week_14 : decode cX10_week 14 = .ok (.bipush (-2), 2) := by decide +kernel
theorem dX10_week_16 : decode cX10_week 16 = .ok (.ireturn, 1) := by decide +kernel
theorem dX10_week_17 : decode cX10_week 17 = .ok (.aload_n 0, 1) := by decide +kernel
theorem dX10_week_18 : decode cX10_week 18 = .ok (.getfield 49, 3) := by decide +kernel
theorem dX10_week_21 : decode cX10_week 21 = .ok (.aload_n 0, 1) := by decide +kernel
theorem dX10_week_22 : decode cX10_week 22 = .ok (.invokevirtual 123, 3) := by decide +kernel
theorem dX10_week_25 : decode cX10_week 25 = .ok (.iload_n 1, 1) := by decide +kernel
theorem dX10_week_26 : decode cX10_week 26 = .ok (.invokevirtual 149, 3) := by decide +kernel
theorem dX10_week_29 : decode cX10_week 29 = .ok (.iload_n 2, 1) := by decide +kernel
theorem dX10_week_30 : decode cX10_week 30 = .ok (.ifCond .ne 14, 3) := by decide +kernel
theorem dX10_week_33 : decode cX10_week 33 = .ok (.aload_n 0, 1) := by decide +kernel
theorem dX10_week_34 : decode cX10_week 34 = .ok (.getfield 49, 3) := by decide +kernel
theorem dX10_week_37 : decode cX10_week 37 = .ok (.iload_n 1, 1) := by decide +kernel
theorem dX10_week_38 : decode cX10_week 38 = .ok (.invokevirtual 153, 3) := by decide +kernel
theorem dX10_week_41 : decode cX10_week 41 = .ok (.goto 11, 3) := by decide +kernel
theorem dX10_week_44 : decode cX10_week 44 = .ok (.aload_n 0, 1) := by decide +kernel
theorem dX10_week_45 : decode cX10_week 45 = .ok (.getfield 49, 3) := by decide +kernel
theorem dX10_week_48 : decode cX10_week 48 = .ok (.iload_n 1, 1) := by decide +kernel
theorem dX10_week_49 : decode cX10_week 49 = .ok (.invokevirtual 156, 3) := by decide +kernel
theorem dX10_week_52 : decode cX10_week 52 = .ok (.ireturn, 1) := by decide +kernel
theorem dX10_judged_0 : decode cX10_judged 0 = .ok (.aload_n 0, 1) := by decide +kernel
theorem dX10_judged_1 : decode cX10_judged 1 = .ok (.invokevirtual 123, 3) := by decide +kernel
theorem dX10_judged_4 : decode cX10_judged 4 = .ok (.astore_n 1, 1) := by decide +kernel
theorem dX10_judged_5 : decode cX10_judged 5 = .ok (.aload_n 0, 1) := by decide +kernel
theorem dX10_judged_6 : decode cX10_judged 6 = .ok (.getfield 49, 3) := by decide +kernel
theorem dX10_judged_9 : decode cX10_judged 9 = .ok (.aload_n 1, 1) := by decide +kernel
theorem dX10_judged_10 : decode cX10_judged 10 = .ok (.bipush 29, 2) := by decide +kernel
theorem dX10_judged_12 : decode cX10_judged 12 = .ok (.invokevirtual 149, 3) := by decide +kernel
theorem dX10_judged_15 : decode cX10_judged 15 = .ok (.iconst 0, 1) := by decide +kernel
theorem dX10_judged_16 : decode cX10_judged 16 = .ok (.istore_n 2, 1) := by decide +kernel
theorem dX10_judged_17 : decode cX10_judged 17 = .ok (.iload_n 2, 1) := by decide +kernel
theorem dX10_judged_18 : decode cX10_judged 18 = .ok (.bipush 30, 2) := by decide +kernel
theorem dX10_judged_20 : decode cX10_judged 20 = .ok (.if_icmp .ge 26, 3) := by decide +kernel
theorem dX10_judged_23 : decode cX10_judged 23 = .ok (.aload_n 1, 1) := by decide +kernel
theorem dX10_judged_24 : decode cX10_judged 24 = .ok (.aload_n 0, 1) := by decide +kernel
theorem dX10_judged_25 : decode cX10_judged 25 = .ok (.getfield 49, 3) := by decide +kernel
theorem dX10_judged_28 : decode cX10_judged 28 = .ok (.iload_n 2, 1) := by decide +kernel
theorem dX10_judged_29 : decode cX10_judged 29 = .ok (.invokevirtual 153, 3) := by decide +kernel
theorem dX10_judged_32 : decode cX10_judged 32 = .ok (.invokevirtual 159, 3) := by decide +kernel
theorem dX10_judged_35 : decode cX10_judged 35 = .ok (.ifCond .eq 5, 3) := by decide +kernel
theorem dX10_judged_38 : decode cX10_judged 38 = .ok (.iload_n 2, 1) := by decide +kernel
theorem dX10_judged_39 : decode cX10_judged 39 = .ok (.ireturn, 1) := by decide +kernel
theorem dX10_judged_40 : decode cX10_judged 40 = .ok (.iinc 2 1, 3) := by decide +kernel
theorem dX10_judged_43 : decode cX10_judged 43 = .ok (.goto (-26), 3) := by decide +kernel
theorem dX10_judged_46 : decode cX10_judged 46 = .ok (.iconst (-1), 1) := by decide +kernel
theorem dX10_judged_47 : decode cX10_judged 47 = .ok (.ireturn, 1) := by decide +kernel
theorem dX10_two_0 : decode cX10_two 0 = .ok (.iconst 0, 1) := by decide +kernel
theorem dX10_two_1 : decode cX10_two 1 = .ok (.istore_n 1, 1) := by decide +kernel
theorem dX10_two_2 : decode cX10_two 2 = .ok (.iload_n 1, 1) := by decide +kernel
theorem dX10_two_3 : decode cX10_two 3 = .ok (.bipush 8, 2) := by decide +kernel
theorem dX10_two_5 : decode cX10_two 5 = .ok (.if_icmp .ge 26, 3) := by decide +kernel
theorem dX10_two_8 : decode cX10_two 8 = .ok (.aload_n 0, 1) := by decide +kernel
theorem dX10_two_9 : decode cX10_two 9 = .ok (.getfield 24, 3) := by decide +kernel
theorem dX10_two_12 : decode cX10_two 12 = .ok (.iload_n 1, 1) := by decide +kernel
theorem dX10_two_13 : decode cX10_two 13 = .ok (.invokevirtual 162, 3) := by decide +kernel
theorem dX10_two_16 : decode cX10_two 16 = .ok (.invokestatic 165, 3) := by decide +kernel
theorem dX10_two_19 : decode cX10_two 19 = .ok (.iconst 2, 1) := by decide +kernel
theorem dX10_two_20 : decode cX10_two 20 = .ok (.if_icmp .lt 5, 3) := by decide +kernel
theorem dX10_two_23 : decode cX10_two 23 = .ok (.iload_n 1, 1) := by decide +kernel
theorem dX10_two_24 : decode cX10_two 24 = .ok (.ireturn, 1) := by decide +kernel
theorem dX10_two_25 : decode cX10_two 25 = .ok (.iinc 1 1, 3) := by decide +kernel
theorem dX10_two_28 : decode cX10_two 28 = .ok (.goto (-26), 3) := by decide +kernel
theorem dX10_two_31 : decode cX10_two 31 = .ok (.iconst (-1), 1) := by decide +kernel
theorem dX10_two_32 : decode cX10_two 32 = .ok (.ireturn, 1) := by decide +kernel
theorem dX10_second_0 : decode cX10_second 0 = .ok (.iload_n 1, 1) := by decide +kernel
theorem dX10_second_1 : decode cX10_second 1 = .ok (.invokestatic 75, 3) := by decide +kernel
theorem dX10_second_4 : decode cX10_second 4 = .ok (.ifCond .ne 6, 3) := by decide +kernel
theorem dX10_second_7 : decode cX10_second 7 = .ok (.bipush (-2), 2) := by decide +kernel
theorem dX10_second_9 : decode cX10_second 9 = .ok (.ireturn, 1) := by decide +kernel
theorem dX10_second_10 : decode cX10_second 10 = .ok (.aload_n 0, 1) := by decide +kernel
theorem dX10_second_11 : decode cX10_second 11 = .ok (.invokevirtual 123, 3) := by decide +kernel
theorem dX10_second_14 : decode cX10_second 14 = .ok (.astore_n 2, 1) := by decide +kernel
theorem dX10_second_15 : decode cX10_second 15 = .ok (.aload_n 2, 1) := by decide +kernel
theorem dX10_second_16 : decode cX10_second 16 = .ok (.aload_n 2, 1) := by decide +kernel
theorem dX10_second_17 : decode cX10_second 17 = .ok (.iload_n 1, 1) := by decide +kernel
theorem dX10_second_18 : decode cX10_second 18 = .ok (.invokevirtual 127, 3) := by decide +kernel
theorem dX10_second_21 : decode cX10_second 21 = .ok (.invokevirtual 127, 3) := by decide +kernel
theorem dX10_second_24 : decode cX10_second 24 = .ok (.ireturn, 1) := by decide +kernel
theorem dX10_touch_0 : decode cX10_touch 0 = .ok (.iload_n 1, 1) := by decide +kernel
theorem dX10_touch_1 : decode cX10_touch 1 = .ok (.invokestatic 170, 3) := by decide +kernel
theorem dX10_touch_4 : decode cX10_touch 4 = .ok (.ifCond .eq 31, 3) := by decide +kernel
theorem dX10_touch_7 : decode cX10_touch 7 = .ok (.iload_n 2, 1) := by decide +kernel
theorem dX10_touch_8 : decode cX10_touch 8 = .ok (.invokestatic 75, 3) := by decide +kernel
theorem dX10_touch_11 : decode cX10_touch 11 = .ok (.ifCond .eq 24, 3) := by decide +kernel
theorem dX10_touch_14 : decode cX10_touch 14 = .ok (.iload_n 3, 1) := by decide +kernel
theorem dX10_touch_15 : decode cX10_touch 15 = .ok (.invokestatic 75, 3) := by decide +kernel
theorem dX10_touch_18 : decode cX10_touch 18 = .ok (.ifCond .eq 17, 3) := by decide +kernel
theorem dX10_touch_21 : decode cX10_touch 21 = .ok (.iload 4, 2) := by decide +kernel
theorem dX10_touch_23 : decode cX10_touch 23 = .ok (.invokestatic 112, 3) := by decide +kernel
theorem dX10_touch_26 : decode cX10_touch 26 = .ok (.ifCond .eq 9, 3) := by decide +kernel
theorem dX10_touch_29 : decode cX10_touch 29 = .ok (.iload_n 2, 1) := by decide +kernel
theorem dX10_touch_30 : decode cX10_touch 30 = .ok (.iload_n 3, 1) := by decide +kernel
theorem dX10_touch_31 : decode cX10_touch 31 = .ok (.iand, 1) := by decide +kernel
theorem dX10_touch_32 : decode cX10_touch 32 = .ok (.ifCond .eq 6, 3) := by decide +kernel
theorem dX10_touch_35 : decode cX10_touch 35 = .ok (.bipush (-2), 2) := by decide +kernel
theorem dX10_touch_37 : decode cX10_touch 37 = .ok (.ireturn, 1) := by decide +kernel
theorem dX10_touch_38 : decode cX10_touch 38 = .ok (.aload_n 0, 1) := by decide +kernel
theorem dX10_touch_39 : decode cX10_touch 39 = .ok (.invokevirtual 123, 3) := by decide +kernel
theorem dX10_touch_42 : decode cX10_touch 42 = .ok (.aload_n 0, 1) := by decide +kernel
theorem dX10_touch_43 : decode cX10_touch 43 = .ok (.getfield 49, 3) := by decide +kernel
theorem dX10_touch_46 : decode cX10_touch 46 = .ok (.invokevirtual 117, 3) := by decide +kernel
theorem dX10_touch_49 : decode cX10_touch 49 = .ok (.iload_n 1, 1) := by decide +kernel
theorem dX10_touch_50 : decode cX10_touch 50 = .ok (.iload_n 2, 1) := by decide +kernel
theorem dX10_touch_51 : decode cX10_touch 51 = .ok (.iload_n 3, 1) := by decide +kernel
theorem dX10_touch_52 : decode cX10_touch 52 = .ok (.invokestatic 173, 3) := by decide +kernel
theorem dX10_touch_55 : decode cX10_touch 55 = .ok (.iload 4, 2) := by decide +kernel
theorem dX10_touch_57 : decode cX10_touch 57 = .ok (.invokestatic 179, 3) := by decide +kernel
theorem dX10_touch_60 : decode cX10_touch 60 = .ok (.ireturn, 1) := by decide +kernel
theorem dX10_keepOff_0 : decode cX10_keepOff 0 = .ok (.iload_n 1, 1) := by decide +kernel
theorem dX10_keepOff_1 : decode cX10_keepOff 1 = .ok (.invokestatic 170, 3) := by decide +kernel
theorem dX10_keepOff_4 : decode cX10_keepOff 4 = .ok (.ifCond .eq 17, 3) := by decide +kernel
theorem dX10_keepOff_7 : decode cX10_keepOff 7 = .ok (.iload_n 2, 1) := by decide +kernel
theorem dX10_keepOff_8 : decode cX10_keepOff 8 = .ok (.invokestatic 136, 3) := by decide +kernel
theorem dX10_keepOff_11 : decode cX10_keepOff 11 = .ok (.ifCond .eq 10, 3) := by decide +kernel
theorem dX10_keepOff_14 : decode cX10_keepOff 14 = .ok (.iload_n 3, 1) := by decide +kernel
theorem dX10_keepOff_15 : decode cX10_keepOff 15 = .ok (.invokestatic 112, 3) := by decide +kernel
theorem dX10_keepOff_18 : decode cX10_keepOff 18 = .ok (.ifCond .ne 6, 3) := by decide +kernel
theorem dX10_keepOff_21 : decode cX10_keepOff 21 = .ok (.bipush (-2), 2) := by decide +kernel
theorem dX10_keepOff_23 : decode cX10_keepOff 23 = .ok (.ireturn, 1) := by decide +kernel
theorem dX10_keepOff_24 : decode cX10_keepOff 24 = .ok (.aload_n 0, 1) := by decide +kernel
theorem dX10_keepOff_25 : decode cX10_keepOff 25 = .ok (.invokevirtual 123, 3) := by decide +kernel
theorem dX10_keepOff_28 : decode cX10_keepOff 28 = .ok (.aload_n 0, 1) := by decide +kernel
theorem dX10_keepOff_29 : decode cX10_keepOff 29 = .ok (.getfield 49, 3) := by decide +kernel
theorem dX10_keepOff_32 : decode cX10_keepOff 32 = .ok (.invokevirtual 117, 3) := by decide +kernel
theorem dX10_keepOff_35 : decode cX10_keepOff 35 = .ok (.iload_n 1, 1) := by decide +kernel
theorem dX10_keepOff_36 : decode cX10_keepOff 36 = .ok (.iconst 1, 1) := by decide +kernel
theorem dX10_keepOff_37 : decode cX10_keepOff 37 = .ok (.iload_n 2, 1) := by decide +kernel
theorem dX10_keepOff_38 : decode cX10_keepOff 38 = .ok (.ishl, 1) := by decide +kernel
theorem dX10_keepOff_39 : decode cX10_keepOff 39 = .ok (.invokestatic 183, 3) := by decide +kernel
theorem dX10_keepOff_42 : decode cX10_keepOff 42 = .ok (.iload_n 3, 1) := by decide +kernel
theorem dX10_keepOff_43 : decode cX10_keepOff 43 = .ok (.invokestatic 179, 3) := by decide +kernel
theorem dX10_keepOff_46 : decode cX10_keepOff 46 = .ok (.ireturn, 1) := by decide +kernel
theorem dX10_bars_0 : decode cX10_bars 0 = .ok (.iload_n 1, 1) := by decide +kernel
theorem dX10_bars_1 : decode cX10_bars 1 = .ok (.invokestatic 136, 3) := by decide +kernel
theorem dX10_bars_4 : decode cX10_bars 4 = .ok (.ifCond .ne 6, 3) := by decide +kernel
theorem dX10_bars_7 : decode cX10_bars 7 = .ok (.bipush (-2), 2) := by decide +kernel
theorem dX10_bars_9 : decode cX10_bars 9 = .ok (.ireturn, 1) := by decide +kernel
theorem dX10_bars_10 : decode cX10_bars 10 = .ok (.aload_n 0, 1) := by decide +kernel
theorem dX10_bars_11 : decode cX10_bars 11 = .ok (.invokevirtual 123, 3) := by decide +kernel
theorem dX10_bars_14 : decode cX10_bars 14 = .ok (.astore_n 2, 1) := by decide +kernel
theorem dX10_bars_15 : decode cX10_bars 15 = .ok (.iconst 0, 1) := by decide +kernel
theorem dX10_bars_16 : decode cX10_bars 16 = .ok (.istore_n 3, 1) := by decide +kernel
theorem dX10_bars_17 : decode cX10_bars 17 = .ok (.iconst 0, 1) := by decide +kernel
theorem dX10_bars_18 : decode cX10_bars 18 = .ok (.istore 4, 2) := by decide +kernel
theorem dX10_bars_20 : decode cX10_bars 20 = .ok (.iload 4, 2) := by decide +kernel
theorem dX10_bars_22 : decode cX10_bars 22 = .ok (.sipush 256, 3) := by decide +kernel
theorem dX10_bars_25 : decode cX10_bars 25 = .ok (.if_icmp .ge 22, 3) := by decide +kernel
theorem dX10_bars_28 : decode cX10_bars 28 = .ok (.iload_n 3, 1) := by decide +kernel
theorem dX10_bars_29 : decode cX10_bars 29 = .ok (.aload_n 2, 1) := by decide +kernel
theorem dX10_bars_30 : decode cX10_bars 30 = .ok (.iload 4, 2) := by decide +kernel
theorem dX10_bars_32 : decode cX10_bars 32 = .ok (.invokevirtual 159, 3) := by decide +kernel
theorem dX10_bars_35 : decode cX10_bars 35 = .ok (.iload_n 1, 1) := by decide +kernel
theorem dX10_bars_36 : decode cX10_bars 36 = .ok (.ishr, 1) := by decide +kernel
theorem dX10_bars_37 : decode cX10_bars 37 = .ok (.iconst 1, 1) := by decide +kernel
theorem dX10_bars_38 : decode cX10_bars 38 = .ok (.iand, 1) := by decide +kernel
theorem dX10_bars_39 : decode cX10_bars 39 = .ok (.iadd, 1) := by decide +kernel
theorem dX10_bars_40 : decode cX10_bars 40 = .ok (.istore_n 3, 1) := by decide +kernel
theorem dX10_bars_41 : decode cX10_bars 41 = .ok (.iinc 4 1, 3) := by decide +kernel
theorem dX10_bars_44 : decode cX10_bars 44 = .ok (.goto (-24), 3) := by decide +kernel
theorem dX10_bars_47 : decode cX10_bars 47 = .ok (.iload_n 3, 1) := by decide +kernel
theorem dX10_bars_48 : decode cX10_bars 48 = .ok (.ireturn, 1) := by decide +kernel
theorem dX10_play_0 : decode cX10_play 0 = .ok (.iload_n 1, 1) := by decide +kernel
theorem dX10_play_1 : decode cX10_play 1 = .ok (.ifCond .lt 22, 3) := by decide +kernel
theorem dX10_play_4 : decode cX10_play 4 = .ok (.iload_n 1, 1) := by decide +kernel
theorem dX10_play_5 : decode cX10_play 5 = .ok (.iconst 4, 1) := by decide +kernel
theorem dX10_play_6 : decode cX10_play 6 = .ok (.if_icmp .gt 17, 3) := by decide +kernel
theorem dX10_play_9 : decode cX10_play 9 = .ok (.iload_n 2, 1) := by decide +kernel
theorem dX10_play_10 : decode cX10_play 10 = .ok (.invokestatic 136, 3) := by decide +kernel
theorem dX10_play_13 : decode cX10_play 13 = .ok (.ifCond .eq 10, 3) := by decide +kernel
theorem dX10_play_16 : decode cX10_play 16 = .ok (.iload_n 3, 1) := by decide +kernel
theorem dX10_play_17 : decode cX10_play 17 = .ok (.invokestatic 112, 3) := by decide +kernel
theorem dX10_play_20 : decode cX10_play 20 = .ok (.ifCond .ne 6, 3) := by decide +kernel
theorem dX10_play_23 : decode cX10_play 23 = .ok (.bipush (-2), 2) := by decide +kernel
theorem dX10_play_25 : decode cX10_play 25 = .ok (.ireturn, 1) := by decide +kernel
theorem dX10_play_26 : decode cX10_play 26 = .ok (.aload_n 0, 1) := by decide +kernel
theorem dX10_play_27 : decode cX10_play 27 = .ok (.invokevirtual 123, 3) := by decide +kernel
theorem dX10_play_30 : decode cX10_play 30 = .ok (.astore 4, 2) := by decide +kernel
theorem dX10_play_32 : decode cX10_play 32 = .ok (.iconst 1, 1) := by decide +kernel
theorem dX10_play_33 : decode cX10_play 33 = .ok (.iload_n 2, 1) := by decide +kernel
theorem dX10_play_34 : decode cX10_play 34 = .ok (.ishl, 1) := by decide +kernel
theorem dX10_play_35 : decode cX10_play 35 = .ok (.istore 5, 2) := by decide +kernel
theorem dX10_play_37 : decode cX10_play 37 = .ok (.iload_n 3, 1) := by decide +kernel
theorem dX10_play_38 : decode cX10_play 38 = .ok (.ifCond .ne 27, 3) := by decide +kernel
theorem dX10_play_41 : decode cX10_play 41 = .ok (.aload 4, 2) := by decide +kernel
theorem dX10_play_43 : decode cX10_play 43 = .ok (.aload_n 0, 1) := by decide +kernel
theorem dX10_play_44 : decode cX10_play 44 = .ok (.getfield 49, 3) := by decide +kernel
theorem dX10_play_47 : decode cX10_play 47 = .ok (.invokevirtual 117, 3) := by decide +kernel
theorem dX10_play_50 : decode cX10_play 50 = .ok (.iload 5, 2) := by decide +kernel
theorem dX10_play_52 : decode cX10_play 52 = .ok (.iload_n 1, 1) := by decide +kernel
theorem dX10_play_53 : decode cX10_play 53 = .ok (.invokestatic 187, 3) := by decide +kernel
theorem dX10_play_56 : decode cX10_play 56 = .ok (.ifCond .eq 7, 3) := by decide +kernel
theorem dX10_play_59 : decode cX10_play 59 = .ok (.iconst 1, 1) := by decide +kernel
theorem dX10_play_60 : decode cX10_play 60 = .ok (.goto 4, 3) := by decide +kernel
theorem dX10_play_63 : decode cX10_play 63 = .ok (.iconst 0, 1) := by decide +kernel
theorem dX10_play_64 : decode cX10_play 64 = .ok (.ireturn, 1) := by decide +kernel
theorem dX10_play_65 : decode cX10_play 65 = .ok (.aload 4, 2) := by decide +kernel
theorem dX10_play_67 : decode cX10_play 67 = .ok (.aload_n 0, 1) := by decide +kernel
theorem dX10_play_68 : decode cX10_play 68 = .ok (.getfield 49, 3) := by decide +kernel
theorem dX10_play_71 : decode cX10_play 71 = .ok (.invokevirtual 117, 3) := by decide +kernel
theorem dX10_play_74 : decode cX10_play 74 = .ok (.iload 5, 2) := by decide +kernel
theorem dX10_play_76 : decode cX10_play 76 = .ok (.iload_n 1, 1) := by decide +kernel
theorem dX10_play_77 : decode cX10_play 77 = .ok (.invokestatic 191, 3) := by decide +kernel
theorem dX10_play_80 : decode cX10_play 80 = .ok (.ireturn, 1) := by decide +kernel
theorem dX10_steady_0 : decode cX10_steady 0 = .ok (.iload_n 1, 1) := by decide +kernel
theorem dX10_steady_1 : decode cX10_steady 1 = .ok (.iconst (-1), 1) := by decide +kernel
theorem dX10_steady_2 : decode cX10_steady 2 = .ok (.if_icmp .lt 10, 3) := by decide +kernel
theorem dX10_steady_5 : decode cX10_steady 5 = .ok (.iload_n 1, 1) := by decide +kernel
theorem dX10_steady_6 : decode cX10_steady 6 = .ok (.sipush 255, 3) := by decide +kernel
theorem dX10_steady_9 : decode cX10_steady 9 = .ok (.if_icmp .le 6, 3) := by decide +kernel
theorem dX10_steady_12 : decode cX10_steady 12 = .ok (.bipush (-2), 2) := by decide +kernel
theorem dX10_steady_14 : decode cX10_steady 14 = .ok (.ireturn, 1) := by decide +kernel
theorem dX10_steady_15 : decode cX10_steady 15 = .ok (.aload_n 0, 1) := by decide +kernel
theorem dX10_steady_16 : decode cX10_steady 16 = .ok (.invokevirtual 123, 3) := by decide +kernel
theorem dX10_steady_19 : decode cX10_steady 19 = .ok (.astore_n 2, 1) := by decide +kernel
theorem dX10_steady_20 : decode cX10_steady 20 = .ok (.iconst 0, 1) := by decide +kernel
theorem dX10_steady_21 : decode cX10_steady 21 = .ok (.istore_n 3, 1) := by decide +kernel
theorem dX10_steady_22 : decode cX10_steady 22 = .ok (.iconst 0, 1) := by decide +kernel
theorem dX10_steady_23 : decode cX10_steady 23 = .ok (.istore 4, 2) := by decide +kernel
theorem dX10_steady_25 : decode cX10_steady 25 = .ok (.iload 4, 2) := by decide +kernel
theorem dX10_steady_27 : decode cX10_steady 27 = .ok (.sipush 256, 3) := by decide +kernel
theorem dX10_steady_30 : decode cX10_steady 30 = .ok (.if_icmp .ge 31, 3) := by decide +kernel
theorem dX10_steady_33 : decode cX10_steady 33 = .ok (.aload_n 2, 1) := by decide +kernel
theorem dX10_steady_34 : decode cX10_steady 34 = .ok (.iload 4, 2) := by decide +kernel
theorem dX10_steady_36 : decode cX10_steady 36 = .ok (.invokevirtual 194, 3) := by decide +kernel
theorem dX10_steady_39 : decode cX10_steady 39 = .ok (.iload 4, 2) := by decide +kernel
theorem dX10_steady_41 : decode cX10_steady 41 = .ok (.if_icmp .ne 14, 3) := by decide +kernel
theorem dX10_steady_44 : decode cX10_steady 44 = .ok (.iload_n 3, 1) := by decide +kernel
theorem dX10_steady_45 : decode cX10_steady 45 = .ok (.iload_n 1, 1) := by decide +kernel
theorem dX10_steady_46 : decode cX10_steady 46 = .ok (.if_icmp .ne 6, 3) := by decide +kernel
theorem dX10_steady_49 : decode cX10_steady 49 = .ok (.iload 4, 2) := by decide +kernel
theorem dX10_steady_51 : decode cX10_steady 51 = .ok (.ireturn, 1) := by decide +kernel
theorem dX10_steady_52 : decode cX10_steady 52 = .ok (.iinc 3 1, 3) := by decide +kernel
theorem dX10_steady_55 : decode cX10_steady 55 = .ok (.iinc 4 1, 3) := by decide +kernel
theorem dX10_steady_58 : decode cX10_steady 58 = .ok (.goto (-33), 3) := by decide +kernel
theorem dX10_steady_61 : decode cX10_steady 61 = .ok (.iload_n 1, 1) := by decide +kernel
theorem dX10_steady_62 : decode cX10_steady 62 = .ok (.iconst (-1), 1) := by decide +kernel
theorem dX10_steady_63 : decode cX10_steady 63 = .ok (.if_icmp .ne 7, 3) := by decide +kernel
theorem dX10_steady_66 : decode cX10_steady 66 = .ok (.iload_n 3, 1) := by decide +kernel
theorem dX10_steady_67 : decode cX10_steady 67 = .ok (.goto 4, 3) := by decide +kernel
theorem dX10_steady_70 : decode cX10_steady 70 = .ok (.iconst (-1), 1) := by decide +kernel
theorem dX10_steady_71 : decode cX10_steady 71 = .ok (.ireturn, 1) := by decide +kernel
theorem dX10_round_0 : decode cX10_round 0 = .ok (.iload_n 1, 1) := by decide +kernel
theorem dX10_round_1 : decode cX10_round 1 = .ok (.invokestatic 75, 3) := by decide +kernel
theorem dX10_round_4 : decode cX10_round 4 = .ok (.ifCond .eq 10, 3) := by decide +kernel
theorem dX10_round_7 : decode cX10_round 7 = .ok (.iload_n 2, 1) := by decide +kernel
theorem dX10_round_8 : decode cX10_round 8 = .ok (.invokestatic 112, 3) := by decide +kernel
theorem dX10_round_11 : decode cX10_round 11 = .ok (.ifCond .ne 6, 3) := by decide +kernel
theorem dX10_round_14 : decode cX10_round 14 = .ok (.bipush (-2), 2) := by decide +kernel
theorem dX10_round_16 : decode cX10_round 16 = .ok (.ireturn, 1) := by decide +kernel
theorem dX10_round_17 : decode cX10_round 17 = .ok (.aload_n 0, 1) := by decide +kernel
theorem dX10_round_18 : decode cX10_round 18 = .ok (.invokevirtual 123, 3) := by decide +kernel
theorem dX10_round_21 : decode cX10_round 21 = .ok (.astore_n 3, 1) := by decide +kernel
theorem dX10_round_22 : decode cX10_round 22 = .ok (.iload_n 2, 1) := by decide +kernel
theorem dX10_round_23 : decode cX10_round 23 = .ok (.ifCond .ne 11, 3) := by decide +kernel
theorem dX10_round_26 : decode cX10_round 26 = .ok (.aload_n 3, 1) := by decide +kernel
theorem dX10_round_27 : decode cX10_round 27 = .ok (.iload_n 1, 1) := by decide +kernel
theorem dX10_round_28 : decode cX10_round 28 = .ok (.invokestatic 197, 3) := by decide +kernel
theorem dX10_round_31 : decode cX10_round 31 = .ok (.goto 8, 3) := by decide +kernel
theorem dX10_round_34 : decode cX10_round 34 = .ok (.aload_n 3, 1) := by decide +kernel
theorem dX10_round_35 : decode cX10_round 35 = .ok (.iload_n 1, 1) := by decide +kernel
theorem dX10_round_36 : decode cX10_round 36 = .ok (.invokestatic 201, 3) := by decide +kernel
theorem dX10_round_39 : decode cX10_round 39 = .ok (.ireturn, 1) := by decide +kernel
theorem dX10_seen_0 : decode cX10_seen 0 = .ok (.iload_n 1, 1) := by decide +kernel
theorem dX10_seen_1 : decode cX10_seen 1 = .ok (.invokestatic 75, 3) := by decide +kernel
theorem dX10_seen_4 : decode cX10_seen 4 = .ok (.ifCond .eq 10, 3) := by decide +kernel
theorem dX10_seen_7 : decode cX10_seen 7 = .ok (.iload_n 2, 1) := by decide +kernel
theorem dX10_seen_8 : decode cX10_seen 8 = .ok (.invokestatic 75, 3) := by decide +kernel
theorem dX10_seen_11 : decode cX10_seen 11 = .ok (.ifCond .ne 6, 3) := by decide +kernel
theorem dX10_seen_14 : decode cX10_seen 14 = .ok (.bipush (-2), 2) := by decide +kernel
theorem dX10_seen_16 : decode cX10_seen 16 = .ok (.ireturn, 1) := by decide +kernel
theorem dX10_seen_17 : decode cX10_seen 17 = .ok (.aload_n 0, 1) := by decide +kernel
theorem dX10_seen_18 : decode cX10_seen 18 = .ok (.getfield 56, 3) := by decide +kernel
theorem dX10_seen_21 : decode cX10_seen 21 = .ok (.iload_n 1, 1) := by decide +kernel
theorem dX10_seen_22 : decode cX10_seen 22 = .ok (.iload_n 2, 1) := by decide +kernel
theorem dX10_seen_23 : decode cX10_seen 23 = .ok (.invokevirtual 204, 3) := by decide +kernel
theorem dX10_seen_26 : decode cX10_seen 26 = .ok (.ifCond .ne 6, 3) := by decide +kernel
theorem dX10_seen_29 : decode cX10_seen 29 = .ok (.bipush (-4), 2) := by decide +kernel
theorem dX10_seen_31 : decode cX10_seen 31 = .ok (.ireturn, 1) := by decide +kernel
theorem dX10_seen_32 : decode cX10_seen 32 = .ok (.aload_n 0, 1) := by decide +kernel
theorem dX10_seen_33 : decode cX10_seen 33 = .ok (.getfield 56, 3) := by decide +kernel
theorem dX10_seen_36 : decode cX10_seen 36 = .ok (.invokevirtual 208, 3) := by decide +kernel
theorem dX10_seen_39 : decode cX10_seen 39 = .ok (.ireturn, 1) := by decide +kernel
theorem dX10_forget_0 : decode cX10_forget 0 = .ok (.aload_n 0, 1) := by decide +kernel
theorem dX10_forget_1 : decode cX10_forget 1 = .ok (.getfield 56, 3) := by decide +kernel
theorem dX10_forget_4 : decode cX10_forget 4 = .ok (.invokevirtual 208, 3) := by decide +kernel
theorem dX10_forget_7 : decode cX10_forget 7 = .ok (.istore_n 1, 1) := by decide +kernel
theorem dX10_forget_8 : decode cX10_forget 8 = .ok (.aload_n 0, 1) := by decide +kernel
theorem dX10_forget_9 : decode cX10_forget 9 = .ok (.getfield 56, 3) := by decide +kernel
theorem dX10_forget_12 : decode cX10_forget 12 = .ok (.invokevirtual 209, 3) := by decide +kernel
theorem dX10_forget_15 : decode cX10_forget 15 = .ok (.iload_n 1, 1) := by decide +kernel
theorem dX10_forget_16 : decode cX10_forget 16 = .ok (.ireturn, 1) := by decide +kernel
theorem dX10_read_0 : decode cX10_read 0 = .ok (.iload_n 1, 1) := by decide +kernel
theorem dX10_read_1 : decode cX10_read 1 = .ok (.invokestatic 210, 3) := by decide +kernel
theorem dX10_read_4 : decode cX10_read 4 = .ok (.ifCond .ne 6, 3) := by decide +kernel
theorem dX10_read_7 : decode cX10_read 7 = .ok (.bipush (-2), 2) := by decide +kernel
theorem dX10_read_9 : decode cX10_read 9 = .ok (.ireturn, 1) := by decide +kernel
theorem dX10_read_10 : decode cX10_read 10 = .ok (.aload_n 0, 1) := by decide +kernel
theorem dX10_read_11 : decode cX10_read 11 = .ok (.getfield 62, 3) := by decide +kernel
theorem dX10_read_14 : decode cX10_read 14 = .ok (.iload_n 1, 1) := by decide +kernel
theorem dX10_read_15 : decode cX10_read 15 = .ok (.aaload, 1) := by decide +kernel
theorem dX10_read_16 : decode cX10_read 16 = .ok (.invokevirtual 213, 3) := by decide +kernel
theorem dX10_read_19 : decode cX10_read 19 = .ok (.ifCond .eq 9, 3) := by decide +kernel
theorem dX10_read_22 : decode cX10_read 22 = .ok (.aload_n 0, 1) := by decide +kernel
theorem dX10_read_23 : decode cX10_read 23 = .ok (.iconst 1, 1) := by decide +kernel
theorem dX10_read_24 : decode cX10_read 24 = .ok (.invokevirtual 216, 3) := by decide +kernel
theorem dX10_read_27 : decode cX10_read 27 = .ok (.ireturn, 1) := by decide +kernel
theorem dX10_read_28 : decode cX10_read 28 = .ok (.aload_n 0, 1) := by decide +kernel
theorem dX10_read_29 : decode cX10_read 29 = .ok (.getfield 62, 3) := by decide +kernel
theorem dX10_read_32 : decode cX10_read 32 = .ok (.iload_n 1, 1) := by decide +kernel
theorem dX10_read_33 : decode cX10_read 33 = .ok (.aaload, 1) := by decide +kernel
theorem dX10_read_34 : decode cX10_read 34 = .ok (.astore_n 2, 1) := by decide +kernel
theorem dX10_read_35 : decode cX10_read 35 = .ok (.iconst 0, 1) := by decide +kernel
theorem dX10_read_36 : decode cX10_read 36 = .ok (.istore_n 3, 1) := by decide +kernel
theorem dX10_read_37 : decode cX10_read 37 = .ok (.iconst 0, 1) := by decide +kernel
theorem dX10_read_38 : decode cX10_read 38 = .ok (.istore 4, 2) := by decide +kernel
theorem dX10_read_40 : decode cX10_read 40 = .ok (.iload 4, 2) := by decide +kernel
theorem dX10_read_42 : decode cX10_read 42 = .ok (.iconst 1, 1) := by decide +kernel
theorem dX10_read_43 : decode cX10_read 43 = .ok (.iadd, 1) := by decide +kernel
theorem dX10_read_44 : decode cX10_read 44 = .ok (.aload_n 2, 1) := by decide +kernel
theorem dX10_read_45 : decode cX10_read 45 = .ok (.invokevirtual 219, 3) := by decide +kernel
theorem dX10_read_48 : decode cX10_read 48 = .ok (.if_icmp .ge 62, 3) := by decide +kernel
theorem dX10_read_51 : decode cX10_read 51 = .ok (.aload_n 2, 1) := by decide +kernel
theorem dX10_read_52 : decode cX10_read 52 = .ok (.iload 4, 2) := by decide +kernel
theorem dX10_read_54 : decode cX10_read 54 = .ok (.invokevirtual 220, 3) := by decide +kernel
theorem dX10_read_57 : decode cX10_read 57 = .ok (.istore 5, 2) := by decide +kernel
theorem dX10_read_59 : decode cX10_read 59 = .ok (.aload_n 2, 1) := by decide +kernel
theorem dX10_read_60 : decode cX10_read 60 = .ok (.iload 4, 2) := by decide +kernel
theorem dX10_read_62 : decode cX10_read 62 = .ok (.iconst 1, 1) := by decide +kernel
theorem dX10_read_63 : decode cX10_read 63 = .ok (.iadd, 1) := by decide +kernel
theorem dX10_read_64 : decode cX10_read 64 = .ok (.invokevirtual 220, 3) := by decide +kernel
theorem dX10_read_67 : decode cX10_read 67 = .ok (.istore 6, 2) := by decide +kernel
theorem dX10_read_69 : decode cX10_read 69 = .ok (.iload 5, 2) := by decide +kernel
theorem dX10_read_71 : decode cX10_read 71 = .ok (.invokestatic 75, 3) := by decide +kernel
theorem dX10_read_74 : decode cX10_read 74 = .ok (.ifCond .eq 25, 3) := by decide +kernel
theorem dX10_read_77 : decode cX10_read 77 = .ok (.iload 6, 2) := by decide +kernel
theorem dX10_read_79 : decode cX10_read 79 = .ok (.invokestatic 75, 3) := by decide +kernel
theorem dX10_read_82 : decode cX10_read 82 = .ok (.ifCond .eq 17, 3) := by decide +kernel
theorem dX10_read_85 : decode cX10_read 85 = .ok (.aload_n 0, 1) := by decide +kernel
theorem dX10_read_86 : decode cX10_read 86 = .ok (.getfield 56, 3) := by decide +kernel
theorem dX10_read_89 : decode cX10_read 89 = .ok (.iload 5, 2) := by decide +kernel
theorem dX10_read_91 : decode cX10_read 91 = .ok (.iload 6, 2) := by decide +kernel
theorem dX10_read_93 : decode cX10_read 93 = .ok (.invokevirtual 204, 3) := by decide +kernel
theorem dX10_read_96 : decode cX10_read 96 = .ok (.ifCond .ne 5, 3) := by decide +kernel
theorem dX10_read_99 : decode cX10_read 99 = .ok (.iload_n 3, 1) := by decide +kernel
theorem dX10_read_100 : decode cX10_read 100 = .ok (.ireturn, 1) := by decide +kernel
theorem dX10_read_101 : decode cX10_read 101 = .ok (.iinc 3 1, 3) := by decide +kernel
theorem dX10_read_104 : decode cX10_read 104 = .ok (.iinc 4 2, 3) := by decide +kernel
theorem dX10_read_107 : decode cX10_read 107 = .ok (.goto (-67), 3) := by decide +kernel
theorem dX10_read_110 : decode cX10_read 110 = .ok (.iload_n 3, 1) := by decide +kernel
theorem dX10_read_111 : decode cX10_read 111 = .ok (.ireturn, 1) := by decide +kernel
theorem dX10_stands_0 : decode cX10_stands 0 = .ok (.iload_n 1, 1) := by decide +kernel
theorem dX10_stands_1 : decode cX10_stands 1 = .ok (.invokestatic 136, 3) := by decide +kernel
theorem dX10_stands_4 : decode cX10_stands 4 = .ok (.ifCond .eq 10, 3) := by decide +kernel
theorem dX10_stands_7 : decode cX10_stands 7 = .ok (.iload_n 2, 1) := by decide +kernel
theorem dX10_stands_8 : decode cX10_stands 8 = .ok (.invokestatic 112, 3) := by decide +kernel
theorem dX10_stands_11 : decode cX10_stands 11 = .ok (.ifCond .ne 6, 3) := by decide +kernel
theorem dX10_stands_14 : decode cX10_stands 14 = .ok (.bipush (-2), 2) := by decide +kernel
theorem dX10_stands_16 : decode cX10_stands 16 = .ok (.ireturn, 1) := by decide +kernel
theorem dX10_stands_17 : decode cX10_stands 17 = .ok (.iload_n 2, 1) := by decide +kernel
theorem dX10_stands_18 : decode cX10_stands 18 = .ok (.ifCond .ne 14, 3) := by decide +kernel
theorem dX10_stands_21 : decode cX10_stands 21 = .ok (.aload_n 0, 1) := by decide +kernel
theorem dX10_stands_22 : decode cX10_stands 22 = .ok (.getfield 56, 3) := by decide +kernel
theorem dX10_stands_25 : decode cX10_stands 25 = .ok (.iload_n 1, 1) := by decide +kernel
theorem dX10_stands_26 : decode cX10_stands 26 = .ok (.invokevirtual 223, 3) := by decide +kernel
theorem dX10_stands_29 : decode cX10_stands 29 = .ok (.goto 11, 3) := by decide +kernel
theorem dX10_stands_32 : decode cX10_stands 32 = .ok (.aload_n 0, 1) := by decide +kernel
theorem dX10_stands_33 : decode cX10_stands 33 = .ok (.getfield 56, 3) := by decide +kernel
theorem dX10_stands_36 : decode cX10_stands 36 = .ok (.iload_n 1, 1) := by decide +kernel
theorem dX10_stands_37 : decode cX10_stands 37 = .ok (.invokevirtual 226, 3) := by decide +kernel
theorem dX10_stands_40 : decode cX10_stands 40 = .ok (.ireturn, 1) := by decide +kernel
theorem dX10_watch_0 : decode cX10_watch 0 = .ok (.iload_n 1, 1) := by decide +kernel
theorem dX10_watch_1 : decode cX10_watch 1 = .ok (.invokestatic 136, 3) := by decide +kernel
theorem dX10_watch_4 : decode cX10_watch 4 = .ok (.ifCond .eq 14, 3) := by decide +kernel
theorem dX10_watch_7 : decode cX10_watch 7 = .ok (.aload_n 0, 1) := by decide +kernel
theorem dX10_watch_8 : decode cX10_watch 8 = .ok (.getfield 56, 3) := by decide +kernel
theorem dX10_watch_11 : decode cX10_watch 11 = .ok (.iload_n 1, 1) := by decide +kernel
theorem dX10_watch_12 : decode cX10_watch 12 = .ok (.invokevirtual 229, 3) := by decide +kernel
theorem dX10_watch_15 : decode cX10_watch 15 = .ok (.goto 5, 3) := by decide +kernel
theorem dX10_watch_18 : decode cX10_watch 18 = .ok (.bipush (-2), 2) := by decide +kernel
theorem dX10_watch_20 : decode cX10_watch 20 = .ok (.ireturn, 1) := by decide +kernel
theorem dX10_moved_0 : decode cX10_moved 0 = .ok (.iload_n 1, 1) := by decide +kernel
theorem dX10_moved_1 : decode cX10_moved 1 = .ok (.invokestatic 75, 3) := by decide +kernel
theorem dX10_moved_4 : decode cX10_moved 4 = .ok (.ifCond .ne 6, 3) := by decide +kernel
theorem dX10_moved_7 : decode cX10_moved 7 = .ok (.bipush (-2), 2) := by decide +kernel
theorem dX10_moved_9 : decode cX10_moved 9 = .ok (.ireturn, 1) := by decide +kernel
theorem dX10_moved_10 : decode cX10_moved 10 = .ok (.aload_n 0, 1) := by decide +kernel
theorem dX10_moved_11 : decode cX10_moved 11 = .ok (.invokevirtual 123, 3) := by decide +kernel
theorem dX10_moved_14 : decode cX10_moved 14 = .ok (.astore_n 2, 1) := by decide +kernel
theorem dX10_moved_15 : decode cX10_moved 15 = .ok (.iconst 0, 1) := by decide +kernel
theorem dX10_moved_16 : decode cX10_moved 16 = .ok (.istore_n 3, 1) := by decide +kernel
theorem dX10_moved_17 : decode cX10_moved 17 = .ok (.iconst 0, 1) := by decide +kernel
theorem dX10_moved_18 : decode cX10_moved 18 = .ok (.istore 4, 2) := by decide +kernel
theorem dX10_moved_20 : decode cX10_moved 20 = .ok (.iload 4, 2) := by decide +kernel
theorem dX10_moved_22 : decode cX10_moved 22 = .ok (.bipush 8, 2) := by decide +kernel
theorem dX10_moved_24 : decode cX10_moved 24 = .ok (.if_icmp .ge 36, 3) := by decide +kernel
theorem dX10_moved_27 : decode cX10_moved 27 = .ok (.aload_n 2, 1) := by decide +kernel
theorem dX10_moved_28 : decode cX10_moved 28 = .ok (.aload_n 0, 1) := by decide +kernel
theorem dX10_moved_29 : decode cX10_moved 29 = .ok (.getfield 49, 3) := by decide +kernel
theorem dX10_moved_32 : decode cX10_moved 32 = .ok (.invokevirtual 117, 3) := by decide +kernel
theorem dX10_moved_35 : decode cX10_moved 35 = .ok (.iconst 1, 1) := by decide +kernel
theorem dX10_moved_36 : decode cX10_moved 36 = .ok (.iload 4, 2) := by decide +kernel
theorem dX10_moved_38 : decode cX10_moved 38 = .ok (.ishl, 1) := by decide +kernel
theorem dX10_moved_39 : decode cX10_moved 39 = .ok (.ixor, 1) := by decide +kernel
theorem dX10_moved_40 : decode cX10_moved 40 = .ok (.invokevirtual 127, 3) := by decide +kernel
theorem dX10_moved_43 : decode cX10_moved 43 = .ok (.iload_n 1, 1) := by decide +kernel
theorem dX10_moved_44 : decode cX10_moved 44 = .ok (.if_icmp .ne 10, 3) := by decide +kernel
theorem dX10_moved_47 : decode cX10_moved 47 = .ok (.iload_n 3, 1) := by decide +kernel
theorem dX10_moved_48 : decode cX10_moved 48 = .ok (.iconst 1, 1) := by decide +kernel
theorem dX10_moved_49 : decode cX10_moved 49 = .ok (.iload 4, 2) := by decide +kernel
theorem dX10_moved_51 : decode cX10_moved 51 = .ok (.ishl, 1) := by decide +kernel
theorem dX10_moved_52 : decode cX10_moved 52 = .ok (.ior, 1) := by decide +kernel
theorem dX10_moved_53 : decode cX10_moved 53 = .ok (.istore_n 3, 1) := by decide +kernel
theorem dX10_moved_54 : decode cX10_moved 54 = .ok (.iinc 4 1, 3) := by decide +kernel
theorem dX10_moved_57 : decode cX10_moved 57 = .ok (.goto (-37), 3) := by decide +kernel
theorem dX10_moved_60 : decode cX10_moved 60 = .ok (.iload_n 3, 1) := by decide +kernel
theorem dX10_moved_61 : decode cX10_moved 61 = .ok (.ireturn, 1) := by decide +kernel
theorem dX10_cat_0 : decode cX10_cat 0 = .ok (.iload_n 1, 1) := by decide +kernel
theorem dX10_cat_1 : decode cX10_cat 1 = .ok (.invokestatic 232, 3) := by decide +kernel
theorem dX10_cat_4 : decode cX10_cat 4 = .ok (.ifCond .eq 17, 3) := by decide +kernel
theorem dX10_cat_7 : decode cX10_cat 7 = .ok (.iload_n 2, 1) := by decide +kernel
theorem dX10_cat_8 : decode cX10_cat 8 = .ok (.invokestatic 136, 3) := by decide +kernel
theorem dX10_cat_11 : decode cX10_cat 11 = .ok (.ifCond .eq 10, 3) := by decide +kernel
theorem dX10_cat_14 : decode cX10_cat 14 = .ok (.iload_n 3, 1) := by decide +kernel
theorem dX10_cat_15 : decode cX10_cat 15 = .ok (.invokestatic 112, 3) := by decide +kernel
theorem dX10_cat_18 : decode cX10_cat 18 = .ok (.ifCond .ne 7, 3) := by decide +kernel
theorem dX10_cat_21 : decode cX10_cat 21 = .ok (.ldc2_w 235, 3) := by decide +kernel
theorem dX10_cat_24 : decode cX10_cat 24 = .ok (.lreturn, 1) := by decide +kernel
theorem dX10_cat_25 : decode cX10_cat 25 = .ok (.sipush 128, 3) := by decide +kernel
theorem dX10_cat_28 : decode cX10_cat 28 = .ok (.istore 4, 2) := by decide +kernel
theorem dX10_cat_30 : decode cX10_cat 30 = .ok (.aload_n 0, 1) := by decide +kernel
theorem dX10_cat_31 : decode cX10_cat 31 = .ok (.invokevirtual 123, 3) := by decide +kernel
theorem dX10_cat_34 : decode cX10_cat 34 = .ok (.aload_n 0, 1) := by decide +kernel
theorem dX10_cat_35 : decode cX10_cat 35 = .ok (.getfield 49, 3) := by decide +kernel
theorem dX10_cat_38 : decode cX10_cat 38 = .ok (.invokevirtual 117, 3) := by decide +kernel
theorem dX10_cat_41 : decode cX10_cat 41 = .ok (.iconst 1, 1) := by decide +kernel
theorem dX10_cat_42 : decode cX10_cat 42 = .ok (.iload_n 2, 1) := by decide +kernel
theorem dX10_cat_43 : decode cX10_cat 43 = .ok (.ishl, 1) := by decide +kernel
theorem dX10_cat_44 : decode cX10_cat 44 = .ok (.iload_n 1, 1) := by decide +kernel
theorem dX10_cat_45 : decode cX10_cat 45 = .ok (.invokestatic 239, 3) := by decide +kernel
theorem dX10_cat_48 : decode cX10_cat 48 = .ok (.istore 5, 2) := by decide +kernel
theorem dX10_cat_50 : decode cX10_cat 50 = .ok (.iload_n 3, 1) := by decide +kernel
theorem dX10_cat_51 : decode cX10_cat 51 = .ok (.ifCond .ne 8, 3) := by decide +kernel
theorem dX10_cat_54 : decode cX10_cat 54 = .ok (.iload 5, 2) := by decide +kernel
theorem dX10_cat_56 : decode cX10_cat 56 = .ok (.goto 5, 3) := by decide +kernel
theorem dX10_cat_59 : decode cX10_cat 59 = .ok (.iload 4, 2) := by decide +kernel
theorem dX10_cat_61 : decode cX10_cat 61 = .ok (.iload 5, 2) := by decide +kernel
theorem dX10_cat_63 : decode cX10_cat 63 = .ok (.iload 4, 2) := by decide +kernel
theorem dX10_cat_65 : decode cX10_cat 65 = .ok (.invokestatic 242, 3) := by decide +kernel
theorem dX10_cat_68 : decode cX10_cat 68 = .ok (.i2l, 1) := by decide +kernel
theorem dX10_cat_69 : decode cX10_cat 69 = .ok (.lreturn, 1) := by decide +kernel
theorem dX10_let_0 : decode cX10_let 0 = .ok (.iload_n 1, 1) := by decide +kernel
theorem dX10_let_1 : decode cX10_let 1 = .ok (.invokestatic 232, 3) := by decide +kernel
theorem dX10_let_4 : decode cX10_let 4 = .ok (.ifCond .eq 10, 3) := by decide +kernel
theorem dX10_let_7 : decode cX10_let 7 = .ok (.iload_n 2, 1) := by decide +kernel
theorem dX10_let_8 : decode cX10_let 8 = .ok (.invokestatic 136, 3) := by decide +kernel
theorem dX10_let_11 : decode cX10_let 11 = .ok (.ifCond .ne 6, 3) := by decide +kernel
theorem dX10_let_14 : decode cX10_let 14 = .ok (.bipush (-2), 2) := by decide +kernel
theorem dX10_let_16 : decode cX10_let 16 = .ok (.ireturn, 1) := by decide +kernel
theorem dX10_let_17 : decode cX10_let 17 = .ok (.aload_n 0, 1) := by decide +kernel
theorem dX10_let_18 : decode cX10_let 18 = .ok (.invokevirtual 123, 3) := by decide +kernel
theorem dX10_let_21 : decode cX10_let 21 = .ok (.astore_n 3, 1) := by decide +kernel
theorem dX10_let_22 : decode cX10_let 22 = .ok (.iconst 1, 1) := by decide +kernel
theorem dX10_let_23 : decode cX10_let 23 = .ok (.iload_n 2, 1) := by decide +kernel
theorem dX10_let_24 : decode cX10_let 24 = .ok (.ishl, 1) := by decide +kernel
theorem dX10_let_25 : decode cX10_let 25 = .ok (.istore 4, 2) := by decide +kernel
theorem dX10_let_27 : decode cX10_let 27 = .ok (.aload_n 3, 1) := by decide +kernel
theorem dX10_let_28 : decode cX10_let 28 = .ok (.aload_n 0, 1) := by decide +kernel
theorem dX10_let_29 : decode cX10_let 29 = .ok (.getfield 49, 3) := by decide +kernel
theorem dX10_let_32 : decode cX10_let 32 = .ok (.invokevirtual 117, 3) := by decide +kernel
theorem dX10_let_35 : decode cX10_let 35 = .ok (.iload 4, 2) := by decide +kernel
theorem dX10_let_37 : decode cX10_let 37 = .ok (.iload_n 1, 1) := by decide +kernel
theorem dX10_let_38 : decode cX10_let 38 = .ok (.invokestatic 239, 3) := by decide +kernel
theorem dX10_let_41 : decode cX10_let 41 = .ok (.istore 5, 2) := by decide +kernel
theorem dX10_let_43 : decode cX10_let 43 = .ok (.aload_n 3, 1) := by decide +kernel
theorem dX10_let_44 : decode cX10_let 44 = .ok (.aload_n 0, 1) := by decide +kernel
theorem dX10_let_45 : decode cX10_let 45 = .ok (.getfield 49, 3) := by decide +kernel
theorem dX10_let_48 : decode cX10_let 48 = .ok (.invokevirtual 117, 3) := by decide +kernel
theorem dX10_let_51 : decode cX10_let 51 = .ok (.iload 4, 2) := by decide +kernel
theorem dX10_let_53 : decode cX10_let 53 = .ok (.iconst 0, 1) := by decide +kernel
theorem dX10_let_54 : decode cX10_let 54 = .ok (.invokestatic 239, 3) := by decide +kernel
theorem dX10_let_57 : decode cX10_let 57 = .ok (.istore 6, 2) := by decide +kernel
theorem dX10_let_59 : decode cX10_let 59 = .ok (.iload 5, 2) := by decide +kernel
theorem dX10_let_61 : decode cX10_let 61 = .ok (.iload 6, 2) := by decide +kernel
theorem dX10_let_63 : decode cX10_let 63 = .ok (.if_icmp .ge 7, 3) := by decide +kernel
theorem dX10_let_66 : decode cX10_let 66 = .ok (.iconst 1, 1) := by decide +kernel
theorem dX10_let_67 : decode cX10_let 67 = .ok (.goto 4, 3) := by decide +kernel
theorem dX10_let_70 : decode cX10_let 70 = .ok (.iconst 0, 1) := by decide +kernel
theorem dX10_let_71 : decode cX10_let 71 = .ok (.ireturn, 1) := by decide +kernel
theorem dX10_lot_0 : decode cX10_lot 0 = .ok (.iload_n 2, 1) := by decide +kernel
theorem dX10_lot_1 : decode cX10_lot 1 = .ok (.ifCond .lt 21, 3) := by decide +kernel
theorem dX10_lot_4 : decode cX10_lot 4 = .ok (.iload_n 2, 1) := by decide +kernel
theorem dX10_lot_5 : decode cX10_lot 5 = .ok (.bipush 99, 2) := by decide +kernel
theorem dX10_lot_7 : decode cX10_lot 7 = .ok (.if_icmp .gt 15, 3) := by decide +kernel
theorem dX10_lot_10 : decode cX10_lot 10 = .ok (.iload_n 3, 1) := by decide +kernel
theorem dX10_lot_11 : decode cX10_lot 11 = .ok (.iconst (-1), 1) := by decide +kernel
theorem dX10_lot_12 : decode cX10_lot 12 = .ok (.if_icmp .eq 13, 3) := by decide +kernel
theorem dX10_lot_15 : decode cX10_lot 15 = .ok (.iload_n 3, 1) := by decide +kernel
theorem dX10_lot_16 : decode cX10_lot 16 = .ok (.invokestatic 136, 3) := by decide +kernel
theorem dX10_lot_19 : decode cX10_lot 19 = .ok (.ifCond .ne 6, 3) := by decide +kernel
theorem dX10_lot_22 : decode cX10_lot 22 = .ok (.bipush (-2), 2) := by decide +kernel
theorem dX10_lot_24 : decode cX10_lot 24 = .ok (.ireturn, 1) := by decide +kernel
theorem dX10_lot_25 : decode cX10_lot 25 = .ok (.aload_n 0, 1) := by decide +kernel
theorem dX10_lot_26 : decode cX10_lot 26 = .ok (.invokevirtual 123, 3) := by decide +kernel
theorem dX10_lot_29 : decode cX10_lot 29 = .ok (.astore 4, 2) := by decide +kernel
theorem dX10_lot_31 : decode cX10_lot 31 = .ok (.aload_n 0, 1) := by decide +kernel
theorem dX10_lot_32 : decode cX10_lot 32 = .ok (.getfield 49, 3) := by decide +kernel
theorem dX10_lot_35 : decode cX10_lot 35 = .ok (.invokevirtual 117, 3) := by decide +kernel
theorem dX10_lot_38 : decode cX10_lot 38 = .ok (.istore 5, 2) := by decide +kernel
theorem dX10_lot_40 : decode cX10_lot 40 = .ok (.iload_n 1, 1) := by decide +kernel
theorem dX10_lot_41 : decode cX10_lot 41 = .ok (.istore 6, 2) := by decide +kernel
theorem dX10_lot_43 : decode cX10_lot 43 = .ok (.iconst 0, 1) := by decide +kernel
theorem dX10_lot_44 : decode cX10_lot 44 = .ok (.istore 7, 2) := by decide +kernel
theorem dX10_lot_46 : decode cX10_lot 46 = .ok (.iconst 0, 1) := by decide +kernel
theorem dX10_lot_47 : decode cX10_lot 47 = .ok (.istore 8, 2) := by decide +kernel
theorem dX10_lot_49 : decode cX10_lot 49 = .ok (.iload 8, 2) := by decide +kernel
theorem dX10_lot_51 : decode cX10_lot 51 = .ok (.iload_n 2, 1) := by decide +kernel
theorem dX10_lot_52 : decode cX10_lot 52 = .ok (.if_icmp .ge 65, 3) := by decide +kernel
theorem dX10_lot_55 : decode cX10_lot 55 = .ok (.ldc 246, 2) := by decide +kernel
theorem dX10_lot_57 : decode cX10_lot 57 = .ok (.iload 6, 2) := by decide +kernel
theorem dX10_lot_59 : decode cX10_lot 59 = .ok (.imul, 1) := by decide +kernel
theorem dX10_lot_60 : decode cX10_lot 60 = .ok (.sipush 12345, 3) := by decide +kernel
theorem dX10_lot_63 : decode cX10_lot 63 = .ok (.iadd, 1) := by decide +kernel
theorem dX10_lot_64 : decode cX10_lot 64 = .ok (.istore 6, 2) := by decide +kernel
theorem dX10_lot_66 : decode cX10_lot 66 = .ok (.iload 5, 2) := by decide +kernel
theorem dX10_lot_68 : decode cX10_lot 68 = .ok (.iconst 1, 1) := by decide +kernel
theorem dX10_lot_69 : decode cX10_lot 69 = .ok (.iload 6, 2) := by decide +kernel
theorem dX10_lot_71 : decode cX10_lot 71 = .ok (.bipush 16, 2) := by decide +kernel
theorem dX10_lot_73 : decode cX10_lot 73 = .ok (.iushr, 1) := by decide +kernel
theorem dX10_lot_74 : decode cX10_lot 74 = .ok (.bipush 8, 2) := by decide +kernel
theorem dX10_lot_76 : decode cX10_lot 76 = .ok (.irem, 1) := by decide +kernel
theorem dX10_lot_77 : decode cX10_lot 77 = .ok (.ishl, 1) := by decide +kernel
theorem dX10_lot_78 : decode cX10_lot 78 = .ok (.ixor, 1) := by decide +kernel
theorem dX10_lot_79 : decode cX10_lot 79 = .ok (.istore 5, 2) := by decide +kernel
theorem dX10_lot_81 : decode cX10_lot 81 = .ok (.iload_n 3, 1) := by decide +kernel
theorem dX10_lot_82 : decode cX10_lot 82 = .ok (.iconst (-1), 1) := by decide +kernel
theorem dX10_lot_83 : decode cX10_lot 83 = .ok (.if_icmp .eq 19, 3) := by decide +kernel
theorem dX10_lot_86 : decode cX10_lot 86 = .ok (.iload 7, 2) := by decide +kernel
theorem dX10_lot_88 : decode cX10_lot 88 = .ok (.aload 4, 2) := by decide +kernel
theorem dX10_lot_90 : decode cX10_lot 90 = .ok (.iload 5, 2) := by decide +kernel
theorem dX10_lot_92 : decode cX10_lot 92 = .ok (.invokevirtual 127, 3) := by decide +kernel
theorem dX10_lot_95 : decode cX10_lot 95 = .ok (.iload_n 3, 1) := by decide +kernel
theorem dX10_lot_96 : decode cX10_lot 96 = .ok (.ishr, 1) := by decide +kernel
theorem dX10_lot_97 : decode cX10_lot 97 = .ok (.iconst 1, 1) := by decide +kernel
theorem dX10_lot_98 : decode cX10_lot 98 = .ok (.iand, 1) := by decide +kernel
theorem dX10_lot_99 : decode cX10_lot 99 = .ok (.iadd, 1) := by decide +kernel
theorem dX10_lot_100 : decode cX10_lot 100 = .ok (.istore 7, 2) := by decide +kernel
theorem dX10_lot_102 : decode cX10_lot 102 = .ok (.aload 4, 2) := by decide +kernel
theorem dX10_lot_104 : decode cX10_lot 104 = .ok (.iload 5, 2) := by decide +kernel
theorem dX10_lot_106 : decode cX10_lot 106 = .ok (.invokevirtual 194, 3) := by decide +kernel
theorem dX10_lot_109 : decode cX10_lot 109 = .ok (.istore 5, 2) := by decide +kernel
theorem dX10_lot_111 : decode cX10_lot 111 = .ok (.iinc 8 1, 3) := by decide +kernel
theorem dX10_lot_114 : decode cX10_lot 114 = .ok (.goto (-65), 3) := by decide +kernel
theorem dX10_lot_117 : decode cX10_lot 117 = .ok (.iload_n 3, 1) := by decide +kernel
theorem dX10_lot_118 : decode cX10_lot 118 = .ok (.iconst (-1), 1) := by decide +kernel
theorem dX10_lot_119 : decode cX10_lot 119 = .ok (.if_icmp .ne 8, 3) := by decide +kernel
theorem dX10_lot_122 : decode cX10_lot 122 = .ok (.iload 5, 2) := by decide +kernel
theorem dX10_lot_124 : decode cX10_lot 124 = .ok (.goto 5, 3) := by decide +kernel
theorem dX10_lot_127 : decode cX10_lot 127 = .ok (.iload 7, 2) := by decide +kernel
theorem dX10_lot_129 : decode cX10_lot 129 = .ok (.ireturn, 1) := by decide +kernel
theorem dX10_sheet_0 : decode cX10_sheet 0 = .ok (.iload_n 1, 1) := by decide +kernel
theorem dX10_sheet_1 : decode cX10_sheet 1 = .ok (.invokestatic 210, 3) := by decide +kernel
theorem dX10_sheet_4 : decode cX10_sheet 4 = .ok (.ifCond .eq 16, 3) := by decide +kernel
theorem dX10_sheet_7 : decode cX10_sheet 7 = .ok (.iload_n 2, 1) := by decide +kernel
theorem dX10_sheet_8 : decode cX10_sheet 8 = .ok (.invokestatic 247, 3) := by decide +kernel
theorem dX10_sheet_11 : decode cX10_sheet 11 = .ok (.ifCond .eq 9, 3) := by decide +kernel
theorem dX10_sheet_14 : decode cX10_sheet 14 = .ok (.iload_n 3, 1) := by decide +kernel
theorem dX10_sheet_15 : decode cX10_sheet 15 = .ok (.bipush 60, 2) := by decide +kernel
theorem dX10_sheet_17 : decode cX10_sheet 17 = .ok (.if_icmp .le 6, 3) := by decide +kernel
theorem dX10_sheet_20 : decode cX10_sheet 20 = .ok (.bipush (-2), 2) := by decide +kernel
theorem dX10_sheet_22 : decode cX10_sheet 22 = .ok (.ireturn, 1) := by decide +kernel
theorem dX10_sheet_23 : decode cX10_sheet 23 = .ok (.iload_n 3, 1) := by decide +kernel
theorem dX10_sheet_24 : decode cX10_sheet 24 = .ok (.ifCond .ge 9, 3) := by decide +kernel
theorem dX10_sheet_27 : decode cX10_sheet 27 = .ok (.aload_n 0, 1) := by decide +kernel
theorem dX10_sheet_28 : decode cX10_sheet 28 = .ok (.iconst 5, 1) := by decide +kernel
theorem dX10_sheet_29 : decode cX10_sheet 29 = .ok (.invokevirtual 216, 3) := by decide +kernel
theorem dX10_sheet_32 : decode cX10_sheet 32 = .ok (.ireturn, 1) := by decide +kernel
theorem dX10_sheet_33 : decode cX10_sheet 33 = .ok (.aload_n 0, 1) := by decide +kernel
theorem dX10_sheet_34 : decode cX10_sheet 34 = .ok (.getfield 62, 3) := by decide +kernel
theorem dX10_sheet_37 : decode cX10_sheet 37 = .ok (.iload_n 1, 1) := by decide +kernel
theorem dX10_sheet_38 : decode cX10_sheet 38 = .ok (.aaload, 1) := by decide +kernel
theorem dX10_sheet_39 : decode cX10_sheet 39 = .ok (.iload_n 2, 1) := by decide +kernel
theorem dX10_sheet_40 : decode cX10_sheet 40 = .ok (.iload_n 3, 1) := by decide +kernel
theorem dX10_sheet_41 : decode cX10_sheet 41 = .ok (.invokevirtual 250, 3) := by decide +kernel
theorem dX10_sheet_44 : decode cX10_sheet 44 = .ok (.iload_n 3, 1) := by decide +kernel
theorem dX10_sheet_45 : decode cX10_sheet 45 = .ok (.ireturn, 1) := by decide +kernel
theorem dX10_lose_0 : decode cX10_lose 0 = .ok (.iload_n 1, 1) := by decide +kernel
theorem dX10_lose_1 : decode cX10_lose 1 = .ok (.invokestatic 210, 3) := by decide +kernel
theorem dX10_lose_4 : decode cX10_lose 4 = .ok (.ifCond .ne 6, 3) := by decide +kernel
theorem dX10_lose_7 : decode cX10_lose 7 = .ok (.bipush (-2), 2) := by decide +kernel
theorem dX10_lose_9 : decode cX10_lose 9 = .ok (.ireturn, 1) := by decide +kernel
theorem dX10_lose_10 : decode cX10_lose 10 = .ok (.aload_n 0, 1) := by decide +kernel
theorem dX10_lose_11 : decode cX10_lose 11 = .ok (.getfield 62, 3) := by decide +kernel
theorem dX10_lose_14 : decode cX10_lose 14 = .ok (.iload_n 1, 1) := by decide +kernel
theorem dX10_lose_15 : decode cX10_lose 15 = .ok (.aaload, 1) := by decide +kernel
theorem dX10_lose_16 : decode cX10_lose 16 = .ok (.invokevirtual 213, 3) := by decide +kernel
theorem dX10_lose_19 : decode cX10_lose 19 = .ok (.ifCond .eq 9, 3) := by decide +kernel
theorem dX10_lose_22 : decode cX10_lose 22 = .ok (.aload_n 0, 1) := by decide +kernel
theorem dX10_lose_23 : decode cX10_lose 23 = .ok (.iconst 1, 1) := by decide +kernel
theorem dX10_lose_24 : decode cX10_lose 24 = .ok (.invokevirtual 216, 3) := by decide +kernel
theorem dX10_lose_27 : decode cX10_lose 27 = .ok (.ireturn, 1) := by decide +kernel
theorem dX10_lose_28 : decode cX10_lose 28 = .ok (.aload_n 0, 1) := by decide +kernel
theorem dX10_lose_29 : decode cX10_lose 29 = .ok (.getfield 62, 3) := by decide +kernel
theorem dX10_lose_32 : decode cX10_lose 32 = .ok (.iload_n 1, 1) := by decide +kernel
theorem dX10_lose_33 : decode cX10_lose 33 = .ok (.aaload, 1) := by decide +kernel
theorem dX10_lose_34 : decode cX10_lose 34 = .ok (.invokevirtual 219, 3) := by decide +kernel
theorem dX10_lose_37 : decode cX10_lose 37 = .ok (.istore_n 2, 1) := by decide +kernel
theorem dX10_lose_38 : decode cX10_lose 38 = .ok (.aload_n 0, 1) := by decide +kernel
theorem dX10_lose_39 : decode cX10_lose 39 = .ok (.getfield 62, 3) := by decide +kernel
theorem dX10_lose_42 : decode cX10_lose 42 = .ok (.iload_n 1, 1) := by decide +kernel
theorem dX10_lose_43 : decode cX10_lose 43 = .ok (.aaload, 1) := by decide +kernel
theorem dX10_lose_44 : decode cX10_lose 44 = .ok (.invokevirtual 254, 3) := by decide +kernel
theorem dX10_lose_47 : decode cX10_lose 47 = .ok (.iload_n 2, 1) := by decide +kernel
theorem dX10_lose_48 : decode cX10_lose 48 = .ok (.ireturn, 1) := by decide +kernel
theorem dX10_put_0 : decode cX10_put 0 = .ok (.aload_n 0, 1) := by decide +kernel
theorem dX10_put_1 : decode cX10_put 1 = .ok (.iload_n 1, 1) := by decide +kernel
theorem dX10_put_2 : decode cX10_put 2 = .ok (.iload_n 2, 1) := by decide +kernel
theorem dX10_put_3 : decode cX10_put 3 = .ok (.iload_n 3, 1) := by decide +kernel
theorem dX10_put_4 : decode cX10_put 4 = .ok (.invokevirtual 257, 3) := by decide +kernel
theorem dX10_put_7 : decode cX10_put 7 = .ok (.istore 5, 2) := by decide +kernel
theorem dX10_put_9 : decode cX10_put 9 = .ok (.iload 5, 2) := by decide +kernel
theorem dX10_put_11 : decode cX10_put 11 = .ok (.ifCond .eq 6, 3) := by decide +kernel
theorem dX10_put_14 : decode cX10_put 14 = .ok (.iload 5, 2) := by decide +kernel
theorem dX10_put_16 : decode cX10_put 16 = .ok (.ireturn, 1) := by decide +kernel
theorem dX10_put_17 : decode cX10_put 17 = .ok (.aload_n 0, 1) := by decide +kernel
theorem dX10_put_18 : decode cX10_put 18 = .ok (.getfield 62, 3) := by decide +kernel
theorem dX10_put_21 : decode cX10_put 21 = .ok (.iload_n 1, 1) := by decide +kernel
theorem dX10_put_22 : decode cX10_put 22 = .ok (.aaload, 1) := by decide +kernel
theorem dX10_put_23 : decode cX10_put 23 = .ok (.iload_n 3, 1) := by decide +kernel
theorem dX10_put_24 : decode cX10_put 24 = .ok (.iload 4, 2) := by decide +kernel
theorem dX10_put_26 : decode cX10_put 26 = .ok (.invokevirtual 260, 3) := by decide +kernel
theorem dX10_put_29 : decode cX10_put 29 = .ok (.iconst 1, 1) := by decide +kernel
theorem dX10_put_30 : decode cX10_put 30 = .ok (.ireturn, 1) := by decide +kernel
theorem dX10_get_0 : decode cX10_get 0 = .ok (.aload_n 0, 1) := by decide +kernel
theorem dX10_get_1 : decode cX10_get 1 = .ok (.iload_n 1, 1) := by decide +kernel
theorem dX10_get_2 : decode cX10_get 2 = .ok (.iload_n 2, 1) := by decide +kernel
theorem dX10_get_3 : decode cX10_get 3 = .ok (.iload_n 3, 1) := by decide +kernel
theorem dX10_get_4 : decode cX10_get 4 = .ok (.invokevirtual 257, 3) := by decide +kernel
theorem dX10_get_7 : decode cX10_get 7 = .ok (.ifCond .eq 7, 3) := by decide +kernel
theorem dX10_get_10 : decode cX10_get 10 = .ok (.ldc_w 263, 3) := by decide +kernel
theorem dX10_get_13 : decode cX10_get 13 = .ok (.ireturn, 1) := by decide +kernel
theorem dX10_get_14 : decode cX10_get 14 = .ok (.aload_n 0, 1) := by decide +kernel
theorem dX10_get_15 : decode cX10_get 15 = .ok (.getfield 62, 3) := by decide +kernel
theorem dX10_get_18 : decode cX10_get 18 = .ok (.iload_n 1, 1) := by decide +kernel
theorem dX10_get_19 : decode cX10_get 19 = .ok (.aaload, 1) := by decide +kernel
theorem dX10_get_20 : decode cX10_get 20 = .ok (.iload_n 3, 1) := by decide +kernel
theorem dX10_get_21 : decode cX10_get 21 = .ok (.invokevirtual 220, 3) := by decide +kernel
theorem dX10_get_24 : decode cX10_get 24 = .ok (.ireturn, 1) := by decide +kernel
theorem dX10_copy_0 : decode cX10_copy 0 = .ok (.iload_n 1, 1) := by decide +kernel
theorem dX10_copy_1 : decode cX10_copy 1 = .ok (.invokestatic 210, 3) := by decide +kernel
theorem dX10_copy_4 : decode cX10_copy 4 = .ok (.ifCond .eq 10, 3) := by decide +kernel
theorem dX10_copy_7 : decode cX10_copy 7 = .ok (.iload_n 3, 1) := by decide +kernel
theorem dX10_copy_8 : decode cX10_copy 8 = .ok (.invokestatic 210, 3) := by decide +kernel
theorem dX10_copy_11 : decode cX10_copy 11 = .ok (.ifCond .ne 6, 3) := by decide +kernel
theorem dX10_copy_14 : decode cX10_copy 14 = .ok (.bipush (-2), 2) := by decide +kernel
theorem dX10_copy_16 : decode cX10_copy 16 = .ok (.ireturn, 1) := by decide +kernel
theorem dX10_copy_17 : decode cX10_copy 17 = .ok (.aload_n 0, 1) := by decide +kernel
theorem dX10_copy_18 : decode cX10_copy 18 = .ok (.getfield 62, 3) := by decide +kernel
theorem dX10_copy_21 : decode cX10_copy 21 = .ok (.iload_n 1, 1) := by decide +kernel
theorem dX10_copy_22 : decode cX10_copy 22 = .ok (.aaload, 1) := by decide +kernel
theorem dX10_copy_23 : decode cX10_copy 23 = .ok (.astore 6, 2) := by decide +kernel
theorem dX10_copy_25 : decode cX10_copy 25 = .ok (.aload_n 0, 1) := by decide +kernel
theorem dX10_copy_26 : decode cX10_copy 26 = .ok (.getfield 62, 3) := by decide +kernel
theorem dX10_copy_29 : decode cX10_copy 29 = .ok (.iload_n 3, 1) := by decide +kernel
theorem dX10_copy_30 : decode cX10_copy 30 = .ok (.aaload, 1) := by decide +kernel
theorem dX10_copy_31 : decode cX10_copy 31 = .ok (.astore 7, 2) := by decide +kernel
theorem dX10_copy_33 : decode cX10_copy 33 = .ok (.aload 6, 2) := by decide +kernel
theorem dX10_copy_35 : decode cX10_copy 35 = .ok (.invokevirtual 213, 3) := by decide +kernel
theorem dX10_copy_38 : decode cX10_copy 38 = .ok (.ifCond .ne 11, 3) := by decide +kernel
theorem dX10_copy_41 : decode cX10_copy 41 = .ok (.aload 7, 2) := by decide +kernel
theorem dX10_copy_43 : decode cX10_copy 43 = .ok (.invokevirtual 213, 3) := by decide +kernel
theorem dX10_copy_46 : decode cX10_copy 46 = .ok (.ifCond .eq 9, 3) := by decide +kernel
theorem dX10_copy_49 : decode cX10_copy 49 = .ok (.aload_n 0, 1) := by decide +kernel
theorem dX10_copy_50 : decode cX10_copy 50 = .ok (.iconst 1, 1) := by decide +kernel
theorem dX10_copy_51 : decode cX10_copy 51 = .ok (.invokevirtual 216, 3) := by decide +kernel
theorem dX10_copy_54 : decode cX10_copy 54 = .ok (.ireturn, 1) := by decide +kernel
theorem dX10_copy_55 : decode cX10_copy 55 = .ok (.aload 6, 2) := by decide +kernel
theorem dX10_copy_57 : decode cX10_copy 57 = .ok (.invokevirtual 264, 3) := by decide +kernel
theorem dX10_copy_60 : decode cX10_copy 60 = .ok (.aload 7, 2) := by decide +kernel
theorem dX10_copy_62 : decode cX10_copy 62 = .ok (.invokevirtual 264, 3) := by decide +kernel
theorem dX10_copy_65 : decode cX10_copy 65 = .ok (.if_icmp .eq 9, 3) := by decide +kernel
theorem dX10_copy_68 : decode cX10_copy 68 = .ok (.aload_n 0, 1) := by decide +kernel
theorem dX10_copy_69 : decode cX10_copy 69 = .ok (.iconst 4, 1) := by decide +kernel
theorem dX10_copy_70 : decode cX10_copy 70 = .ok (.invokevirtual 216, 3) := by decide +kernel
theorem dX10_copy_73 : decode cX10_copy 73 = .ok (.ireturn, 1) := by decide +kernel
theorem dX10_copy_74 : decode cX10_copy 74 = .ok (.aload 6, 2) := by decide +kernel
theorem dX10_copy_76 : decode cX10_copy 76 = .ok (.iload_n 2, 1) := by decide +kernel
theorem dX10_copy_77 : decode cX10_copy 77 = .ok (.iload 5, 2) := by decide +kernel
theorem dX10_copy_79 : decode cX10_copy 79 = .ok (.invokevirtual 267, 3) := by decide +kernel
theorem dX10_copy_82 : decode cX10_copy 82 = .ok (.ifCond .eq 15, 3) := by decide +kernel
theorem dX10_copy_85 : decode cX10_copy 85 = .ok (.aload 7, 2) := by decide +kernel
theorem dX10_copy_87 : decode cX10_copy 87 = .ok (.iload 4, 2) := by decide +kernel
theorem dX10_copy_89 : decode cX10_copy 89 = .ok (.iload 5, 2) := by decide +kernel
theorem dX10_copy_91 : decode cX10_copy 91 = .ok (.invokevirtual 267, 3) := by decide +kernel
theorem dX10_copy_94 : decode cX10_copy 94 = .ok (.ifCond .ne 9, 3) := by decide +kernel
theorem dX10_copy_97 : decode cX10_copy 97 = .ok (.aload_n 0, 1) := by decide +kernel
theorem dX10_copy_98 : decode cX10_copy 98 = .ok (.iconst 2, 1) := by decide +kernel
theorem dX10_copy_99 : decode cX10_copy 99 = .ok (.invokevirtual 216, 3) := by decide +kernel
theorem dX10_copy_102 : decode cX10_copy 102 = .ok (.ireturn, 1) := by decide +kernel
theorem dX10_copy_103 : decode cX10_copy 103 = .ok (.aload 7, 2) := by decide +kernel
theorem dX10_copy_105 : decode cX10_copy 105 = .ok (.aload 6, 2) := by decide +kernel
theorem dX10_copy_107 : decode cX10_copy 107 = .ok (.iload_n 2, 1) := by decide +kernel
theorem dX10_copy_108 : decode cX10_copy 108 = .ok (.iload 4, 2) := by decide +kernel
theorem dX10_copy_110 : decode cX10_copy 110 = .ok (.iload 5, 2) := by decide +kernel
theorem dX10_copy_112 : decode cX10_copy 112 = .ok (.invokevirtual 270, 3) := by decide +kernel
theorem dX10_copy_115 : decode cX10_copy 115 = .ok (.iconst 1, 1) := by decide +kernel
theorem dX10_copy_116 : decode cX10_copy 116 = .ok (.ireturn, 1) := by decide +kernel
theorem dX10_write_0 : decode cX10_write 0 = .ok (.iload_n 1, 1) := by decide +kernel
theorem dX10_write_1 : decode cX10_write 1 = .ok (.invokestatic 112, 3) := by decide +kernel
theorem dX10_write_4 : decode cX10_write 4 = .ok (.ifCond .eq 10, 3) := by decide +kernel
theorem dX10_write_7 : decode cX10_write 7 = .ok (.iload_n 2, 1) := by decide +kernel
theorem dX10_write_8 : decode cX10_write 8 = .ok (.invokestatic 210, 3) := by decide +kernel
theorem dX10_write_11 : decode cX10_write 11 = .ok (.ifCond .ne 6, 3) := by decide +kernel
theorem dX10_write_14 : decode cX10_write 14 = .ok (.bipush (-2), 2) := by decide +kernel
theorem dX10_write_16 : decode cX10_write 16 = .ok (.ireturn, 1) := by decide +kernel
theorem dX10_write_17 : decode cX10_write 17 = .ok (.aload_n 0, 1) := by decide +kernel
theorem dX10_write_18 : decode cX10_write 18 = .ok (.getfield 62, 3) := by decide +kernel
theorem dX10_write_21 : decode cX10_write 21 = .ok (.iload_n 2, 1) := by decide +kernel
theorem dX10_write_22 : decode cX10_write 22 = .ok (.aaload, 1) := by decide +kernel
theorem dX10_write_23 : decode cX10_write 23 = .ok (.invokevirtual 213, 3) := by decide +kernel
theorem dX10_write_26 : decode cX10_write 26 = .ok (.ifCond .eq 9, 3) := by decide +kernel
theorem dX10_write_29 : decode cX10_write 29 = .ok (.aload_n 0, 1) := by decide +kernel
theorem dX10_write_30 : decode cX10_write 30 = .ok (.iconst 1, 1) := by decide +kernel
theorem dX10_write_31 : decode cX10_write 31 = .ok (.invokevirtual 216, 3) := by decide +kernel
theorem dX10_write_34 : decode cX10_write 34 = .ok (.ireturn, 1) := by decide +kernel
theorem dX10_write_35 : decode cX10_write 35 = .ok (.aload_n 0, 1) := by decide +kernel
theorem dX10_write_36 : decode cX10_write 36 = .ok (.getfield 62, 3) := by decide +kernel
theorem dX10_write_39 : decode cX10_write 39 = .ok (.iload_n 2, 1) := by decide +kernel
theorem dX10_write_40 : decode cX10_write 40 = .ok (.aaload, 1) := by decide +kernel
theorem dX10_write_41 : decode cX10_write 41 = .ok (.invokevirtual 219, 3) := by decide +kernel
theorem dX10_write_44 : decode cX10_write 44 = .ok (.bipush 30, 2) := by decide +kernel
theorem dX10_write_46 : decode cX10_write 46 = .ok (.invokestatic 274, 3) := by decide +kernel
theorem dX10_write_49 : decode cX10_write 49 = .ok (.istore_n 3, 1) := by decide +kernel
theorem dX10_write_50 : decode cX10_write 50 = .ok (.aload_n 0, 1) := by decide +kernel
theorem dX10_write_51 : decode cX10_write 51 = .ok (.getfield 49, 3) := by decide +kernel
theorem dX10_write_54 : decode cX10_write 54 = .ok (.aload_n 0, 1) := by decide +kernel
theorem dX10_write_55 : decode cX10_write 55 = .ok (.invokevirtual 123, 3) := by decide +kernel
theorem dX10_write_58 : decode cX10_write 58 = .ok (.iload_n 3, 1) := by decide +kernel
theorem dX10_write_59 : decode cX10_write 59 = .ok (.iconst 1, 1) := by decide +kernel
theorem dX10_write_60 : decode cX10_write 60 = .ok (.isub, 1) := by decide +kernel
theorem dX10_write_61 : decode cX10_write 61 = .ok (.invokevirtual 149, 3) := by decide +kernel
theorem dX10_write_64 : decode cX10_write 64 = .ok (.iconst 0, 1) := by decide +kernel
theorem dX10_write_65 : decode cX10_write 65 = .ok (.istore 4, 2) := by decide +kernel
theorem dX10_write_67 : decode cX10_write 67 = .ok (.iload 4, 2) := by decide +kernel
theorem dX10_write_69 : decode cX10_write 69 = .ok (.iload_n 3, 1) := by decide +kernel
theorem dX10_write_70 : decode cX10_write 70 = .ok (.if_icmp .ge 45, 3) := by decide +kernel
theorem dX10_write_73 : decode cX10_write 73 = .ok (.aload_n 0, 1) := by decide +kernel
theorem dX10_write_74 : decode cX10_write 74 = .ok (.getfield 62, 3) := by decide +kernel
theorem dX10_write_77 : decode cX10_write 77 = .ok (.iload_n 2, 1) := by decide +kernel
theorem dX10_write_78 : decode cX10_write 78 = .ok (.aaload, 1) := by decide +kernel
theorem dX10_write_79 : decode cX10_write 79 = .ok (.iload 4, 2) := by decide +kernel
theorem dX10_write_81 : decode cX10_write 81 = .ok (.iload_n 1, 1) := by decide +kernel
theorem dX10_write_82 : decode cX10_write 82 = .ok (.ifCond .ne 15, 3) := by decide +kernel
theorem dX10_write_85 : decode cX10_write 85 = .ok (.aload_n 0, 1) := by decide +kernel
theorem dX10_write_86 : decode cX10_write 86 = .ok (.getfield 49, 3) := by decide +kernel
theorem dX10_write_89 : decode cX10_write 89 = .ok (.iload 4, 2) := by decide +kernel
theorem dX10_write_91 : decode cX10_write 91 = .ok (.invokevirtual 153, 3) := by decide +kernel
theorem dX10_write_94 : decode cX10_write 94 = .ok (.goto 12, 3) := by decide +kernel
theorem dX10_write_97 : decode cX10_write 97 = .ok (.aload_n 0, 1) := by decide +kernel
theorem dX10_write_98 : decode cX10_write 98 = .ok (.getfield 49, 3) := by decide +kernel
theorem dX10_write_101 : decode cX10_write 101 = .ok (.iload 4, 2) := by decide +kernel
theorem dX10_write_103 : decode cX10_write 103 = .ok (.invokevirtual 156, 3) := by decide +kernel
theorem dX10_write_106 : decode cX10_write 106 = .ok (.invokevirtual 260, 3) := by decide +kernel
theorem dX10_write_109 : decode cX10_write 109 = .ok (.iinc 4 1, 3) := by decide +kernel
theorem dX10_write_112 : decode cX10_write 112 = .ok (.goto (-45), 3) := by decide +kernel
theorem dX10_write_115 : decode cX10_write 115 = .ok (.iload_n 3, 1) := by decide +kernel
theorem dX10_write_116 : decode cX10_write 116 = .ok (.ireturn, 1) := by decide +kernel
theorem dX10_count_0 : decode cX10_count 0 = .ok (.iload_n 1, 1) := by decide +kernel
theorem dX10_count_1 : decode cX10_count 1 = .ok (.tableswitch 120 0 8 #[51, 59, 67, 75, 83, 91, 99, 107, 115], 51) := by decide +kernel
theorem dX10_count_52 : decode cX10_count 52 = .ok (.aload_n 0, 1) := by decide +kernel
theorem dX10_count_53 : decode cX10_count 53 = .ok (.getfield 24, 3) := by decide +kernel
theorem dX10_count_56 : decode cX10_count 56 = .ok (.invokevirtual 100, 3) := by decide +kernel
theorem dX10_count_59 : decode cX10_count 59 = .ok (.ireturn, 1) := by decide +kernel
theorem dX10_count_60 : decode cX10_count 60 = .ok (.aload_n 0, 1) := by decide +kernel
theorem dX10_count_61 : decode cX10_count 61 = .ok (.getfield 31, 3) := by decide +kernel
theorem dX10_count_64 : decode cX10_count 64 = .ok (.invokevirtual 111, 3) := by decide +kernel
theorem dX10_count_67 : decode cX10_count 67 = .ok (.ireturn, 1) := by decide +kernel
theorem dX10_count_68 : decode cX10_count 68 = .ok (.aload_n 0, 1) := by decide +kernel
theorem dX10_count_69 : decode cX10_count 69 = .ok (.getfield 14, 3) := by decide +kernel
theorem dX10_count_72 : decode cX10_count 72 = .ok (.invokevirtual 85, 3) := by decide +kernel
theorem dX10_count_75 : decode cX10_count 75 = .ok (.ireturn, 1) := by decide +kernel
theorem dX10_count_76 : decode cX10_count 76 = .ok (.aload_n 0, 1) := by decide +kernel
theorem dX10_count_77 : decode cX10_count 77 = .ok (.getfield 18, 3) := by decide +kernel
theorem dX10_count_80 : decode cX10_count 80 = .ok (.invokevirtual 85, 3) := by decide +kernel
theorem dX10_count_83 : decode cX10_count 83 = .ok (.ireturn, 1) := by decide +kernel
theorem dX10_count_84 : decode cX10_count 84 = .ok (.aload_n 0, 1) := by decide +kernel
theorem dX10_count_85 : decode cX10_count 85 = .ok (.getfield 49, 3) := by decide +kernel
theorem dX10_count_88 : decode cX10_count 88 = .ok (.invokevirtual 143, 3) := by decide +kernel
theorem dX10_count_91 : decode cX10_count 91 = .ok (.ireturn, 1) := by decide +kernel
theorem dX10_count_92 : decode cX10_count 92 = .ok (.aload_n 0, 1) := by decide +kernel
theorem dX10_count_93 : decode cX10_count 93 = .ok (.getfield 56, 3) := by decide +kernel
theorem dX10_count_96 : decode cX10_count 96 = .ok (.invokevirtual 208, 3) := by decide +kernel
theorem dX10_count_99 : decode cX10_count 99 = .ok (.ireturn, 1) := by decide +kernel
theorem dX10_count_100 : decode cX10_count 100 = .ok (.aload_n 0, 1) := by decide +kernel
theorem dX10_count_101 : decode cX10_count 101 = .ok (.getfield 24, 3) := by decide +kernel
theorem dX10_count_104 : decode cX10_count 104 = .ok (.invokevirtual 279, 3) := by decide +kernel
theorem dX10_count_107 : decode cX10_count 107 = .ok (.ireturn, 1) := by decide +kernel
theorem dX10_count_108 : decode cX10_count 108 = .ok (.aload_n 0, 1) := by decide +kernel
theorem dX10_count_109 : decode cX10_count 109 = .ok (.getfield 49, 3) := by decide +kernel
theorem dX10_count_112 : decode cX10_count 112 = .ok (.invokevirtual 117, 3) := by decide +kernel
theorem dX10_count_115 : decode cX10_count 115 = .ok (.ireturn, 1) := by decide +kernel
theorem dX10_count_116 : decode cX10_count 116 = .ok (.aload_n 0, 1) := by decide +kernel
theorem dX10_count_117 : decode cX10_count 117 = .ok (.getfield 67, 3) := by decide +kernel
theorem dX10_count_120 : decode cX10_count 120 = .ok (.ireturn, 1) := by decide +kernel
theorem dX10_count_121 : decode cX10_count 121 = .ok (.bipush (-2), 2) := by decide +kernel
theorem dX10_count_123 : decode cX10_count 123 = .ok (.ireturn, 1) := by decide +kernel
theorem dX10_digest_0 : decode cX10_digest 0 = .ok (.aload_n 0, 1) := by decide +kernel
theorem dX10_digest_1 : decode cX10_digest 1 = .ok (.ldc2_w 282, 3) := by decide +kernel
theorem dX10_digest_4 : decode cX10_digest 4 = .ok (.invokevirtual 284, 3) := by decide +kernel
theorem dX10_digest_7 : decode cX10_digest 7 = .ok (.lstore_n 1, 1) := by decide +kernel
theorem dX10_digest_8 : decode cX10_digest 8 = .ok (.iconst 0, 1) := by decide +kernel
theorem dX10_digest_9 : decode cX10_digest 9 = .ok (.istore_n 3, 1) := by decide +kernel
theorem dX10_digest_10 : decode cX10_digest 10 = .ok (.iload_n 3, 1) := by decide +kernel
theorem dX10_digest_11 : decode cX10_digest 11 = .ok (.iconst 4, 1) := by decide +kernel
theorem dX10_digest_12 : decode cX10_digest 12 = .ok (.if_icmp .ge 48, 3) := by decide +kernel
theorem dX10_digest_15 : decode cX10_digest 15 = .ok (.iload_n 3, 1) := by decide +kernel
theorem dX10_digest_16 : decode cX10_digest 16 = .ok (.iconst 3, 1) := by decide +kernel
theorem dX10_digest_17 : decode cX10_digest 17 = .ok (.if_icmp .ge 7, 3) := by decide +kernel
theorem dX10_digest_20 : decode cX10_digest 20 = .ok (.iload_n 3, 1) := by decide +kernel
theorem dX10_digest_21 : decode cX10_digest 21 = .ok (.goto 5, 3) := by decide +kernel
theorem dX10_digest_24 : decode cX10_digest 24 = .ok (.bipush 9, 2) := by decide +kernel
theorem dX10_digest_26 : decode cX10_digest 26 = .ok (.istore 4, 2) := by decide +kernel
theorem dX10_digest_28 : decode cX10_digest 28 = .ok (.lload_n 1, 1) := by decide +kernel
theorem dX10_digest_29 : decode cX10_digest 29 = .ok (.aload_n 0, 1) := by decide +kernel
theorem dX10_digest_30 : decode cX10_digest 30 = .ok (.iload 4, 2) := by decide +kernel
theorem dX10_digest_32 : decode cX10_digest 32 = .ok (.iconst 0, 1) := by decide +kernel
theorem dX10_digest_33 : decode cX10_digest 33 = .ok (.invokevirtual 288, 3) := by decide +kernel
theorem dX10_digest_36 : decode cX10_digest 36 = .ok (.i2l, 1) := by decide +kernel
theorem dX10_digest_37 : decode cX10_digest 37 = .ok (.invokestatic 291, 3) := by decide +kernel
theorem dX10_digest_40 : decode cX10_digest 40 = .ok (.lstore_n 1, 1) := by decide +kernel
theorem dX10_digest_41 : decode cX10_digest 41 = .ok (.lload_n 1, 1) := by decide +kernel
theorem dX10_digest_42 : decode cX10_digest 42 = .ok (.aload_n 0, 1) := by decide +kernel
theorem dX10_digest_43 : decode cX10_digest 43 = .ok (.iload 4, 2) := by decide +kernel
theorem dX10_digest_45 : decode cX10_digest 45 = .ok (.iconst 1, 1) := by decide +kernel
theorem dX10_digest_46 : decode cX10_digest 46 = .ok (.invokevirtual 288, 3) := by decide +kernel
theorem dX10_digest_49 : decode cX10_digest 49 = .ok (.i2l, 1) := by decide +kernel
theorem dX10_digest_50 : decode cX10_digest 50 = .ok (.invokestatic 291, 3) := by decide +kernel
theorem dX10_digest_53 : decode cX10_digest 53 = .ok (.lstore_n 1, 1) := by decide +kernel
theorem dX10_digest_54 : decode cX10_digest 54 = .ok (.iinc 3 1, 3) := by decide +kernel
theorem dX10_digest_57 : decode cX10_digest 57 = .ok (.goto (-47), 3) := by decide +kernel
theorem dX10_digest_60 : decode cX10_digest 60 = .ok (.lload_n 1, 1) := by decide +kernel
theorem dX10_digest_61 : decode cX10_digest 61 = .ok (.aload_n 0, 1) := by decide +kernel
theorem dX10_digest_62 : decode cX10_digest 62 = .ok (.invokevirtual 295, 3) := by decide +kernel
theorem dX10_digest_65 : decode cX10_digest 65 = .ok (.i2l, 1) := by decide +kernel
theorem dX10_digest_66 : decode cX10_digest 66 = .ok (.invokestatic 291, 3) := by decide +kernel
theorem dX10_digest_69 : decode cX10_digest 69 = .ok (.lstore_n 1, 1) := by decide +kernel
theorem dX10_digest_70 : decode cX10_digest 70 = .ok (.lload_n 1, 1) := by decide +kernel
theorem dX10_digest_71 : decode cX10_digest 71 = .ok (.aload_n 0, 1) := by decide +kernel
theorem dX10_digest_72 : decode cX10_digest 72 = .ok (.invokevirtual 298, 3) := by decide +kernel
theorem dX10_digest_75 : decode cX10_digest 75 = .ok (.i2l, 1) := by decide +kernel
theorem dX10_digest_76 : decode cX10_digest 76 = .ok (.invokestatic 291, 3) := by decide +kernel
theorem dX10_digest_79 : decode cX10_digest 79 = .ok (.lstore_n 1, 1) := by decide +kernel
theorem dX10_digest_80 : decode cX10_digest 80 = .ok (.lload_n 1, 1) := by decide +kernel
theorem dX10_digest_81 : decode cX10_digest 81 = .ok (.aload_n 0, 1) := by decide +kernel
theorem dX10_digest_82 : decode cX10_digest 82 = .ok (.iconst 3, 1) := by decide +kernel
theorem dX10_digest_83 : decode cX10_digest 83 = .ok (.invokevirtual 301, 3) := by decide +kernel
theorem dX10_digest_86 : decode cX10_digest 86 = .ok (.i2l, 1) := by decide +kernel
theorem dX10_digest_87 : decode cX10_digest 87 = .ok (.invokestatic 291, 3) := by decide +kernel
theorem dX10_digest_90 : decode cX10_digest 90 = .ok (.lstore_n 1, 1) := by decide +kernel
theorem dX10_digest_91 : decode cX10_digest 91 = .ok (.lload_n 1, 1) := by decide +kernel
theorem dX10_digest_92 : decode cX10_digest 92 = .ok (.aload_n 0, 1) := by decide +kernel
theorem dX10_digest_93 : decode cX10_digest 93 = .ok (.iconst 2, 1) := by decide +kernel
theorem dX10_digest_94 : decode cX10_digest 94 = .ok (.iconst 1, 1) := by decide +kernel
theorem dX10_digest_95 : decode cX10_digest 95 = .ok (.iconst 2, 1) := by decide +kernel
theorem dX10_digest_96 : decode cX10_digest 96 = .ok (.iconst 0, 1) := by decide +kernel
theorem dX10_digest_97 : decode cX10_digest 97 = .ok (.invokevirtual 304, 3) := by decide +kernel
theorem dX10_digest_100 : decode cX10_digest 100 = .ok (.i2l, 1) := by decide +kernel
theorem dX10_digest_101 : decode cX10_digest 101 = .ok (.invokestatic 291, 3) := by decide +kernel
theorem dX10_digest_104 : decode cX10_digest 104 = .ok (.lstore_n 1, 1) := by decide +kernel
theorem dX10_digest_105 : decode cX10_digest 105 = .ok (.lload_n 1, 1) := by decide +kernel
theorem dX10_digest_106 : decode cX10_digest 106 = .ok (.aload_n 0, 1) := by decide +kernel
theorem dX10_digest_107 : decode cX10_digest 107 = .ok (.iconst 2, 1) := by decide +kernel
theorem dX10_digest_108 : decode cX10_digest 108 = .ok (.iconst 1, 1) := by decide +kernel
theorem dX10_digest_109 : decode cX10_digest 109 = .ok (.iconst 2, 1) := by decide +kernel
theorem dX10_digest_110 : decode cX10_digest 110 = .ok (.iconst 1, 1) := by decide +kernel
theorem dX10_digest_111 : decode cX10_digest 111 = .ok (.invokevirtual 304, 3) := by decide +kernel
theorem dX10_digest_114 : decode cX10_digest 114 = .ok (.i2l, 1) := by decide +kernel
theorem dX10_digest_115 : decode cX10_digest 115 = .ok (.invokestatic 291, 3) := by decide +kernel
theorem dX10_digest_118 : decode cX10_digest 118 = .ok (.lstore_n 1, 1) := by decide +kernel
theorem dX10_digest_119 : decode cX10_digest 119 = .ok (.lload_n 1, 1) := by decide +kernel
theorem dX10_digest_120 : decode cX10_digest 120 = .ok (.aload_n 0, 1) := by decide +kernel
theorem dX10_digest_121 : decode cX10_digest 121 = .ok (.iconst (-1), 1) := by decide +kernel
theorem dX10_digest_122 : decode cX10_digest 122 = .ok (.invokevirtual 308, 3) := by decide +kernel
theorem dX10_digest_125 : decode cX10_digest 125 = .ok (.i2l, 1) := by decide +kernel
theorem dX10_digest_126 : decode cX10_digest 126 = .ok (.invokestatic 291, 3) := by decide +kernel
theorem dX10_digest_129 : decode cX10_digest 129 = .ok (.lstore_n 1, 1) := by decide +kernel
theorem dX10_digest_130 : decode cX10_digest 130 = .ok (.lload_n 1, 1) := by decide +kernel
theorem dX10_digest_131 : decode cX10_digest 131 = .ok (.aload_n 0, 1) := by decide +kernel
theorem dX10_digest_132 : decode cX10_digest 132 = .ok (.iconst 0, 1) := by decide +kernel
theorem dX10_digest_133 : decode cX10_digest 133 = .ok (.invokevirtual 308, 3) := by decide +kernel
theorem dX10_digest_136 : decode cX10_digest 136 = .ok (.i2l, 1) := by decide +kernel
theorem dX10_digest_137 : decode cX10_digest 137 = .ok (.invokestatic 291, 3) := by decide +kernel
theorem dX10_digest_140 : decode cX10_digest 140 = .ok (.lstore_n 1, 1) := by decide +kernel
theorem dX10_digest_141 : decode cX10_digest 141 = .ok (.lload_n 1, 1) := by decide +kernel
theorem dX10_digest_142 : decode cX10_digest 142 = .ok (.aload_n 0, 1) := by decide +kernel
theorem dX10_digest_143 : decode cX10_digest 143 = .ok (.iconst 5, 1) := by decide +kernel
theorem dX10_digest_144 : decode cX10_digest 144 = .ok (.iconst 0, 1) := by decide +kernel
theorem dX10_digest_145 : decode cX10_digest 145 = .ok (.invokevirtual 311, 3) := by decide +kernel
theorem dX10_digest_148 : decode cX10_digest 148 = .ok (.i2l, 1) := by decide +kernel
theorem dX10_digest_149 : decode cX10_digest 149 = .ok (.invokestatic 291, 3) := by decide +kernel
theorem dX10_digest_152 : decode cX10_digest 152 = .ok (.lstore_n 1, 1) := by decide +kernel
theorem dX10_digest_153 : decode cX10_digest 153 = .ok (.lload_n 1, 1) := by decide +kernel
theorem dX10_digest_154 : decode cX10_digest 154 = .ok (.aload_n 0, 1) := by decide +kernel
theorem dX10_digest_155 : decode cX10_digest 155 = .ok (.iconst 5, 1) := by decide +kernel
theorem dX10_digest_156 : decode cX10_digest 156 = .ok (.iconst 1, 1) := by decide +kernel
theorem dX10_digest_157 : decode cX10_digest 157 = .ok (.invokevirtual 311, 3) := by decide +kernel
theorem dX10_digest_160 : decode cX10_digest 160 = .ok (.i2l, 1) := by decide +kernel
theorem dX10_digest_161 : decode cX10_digest 161 = .ok (.invokestatic 291, 3) := by decide +kernel
theorem dX10_digest_164 : decode cX10_digest 164 = .ok (.lstore_n 1, 1) := by decide +kernel
theorem dX10_digest_165 : decode cX10_digest 165 = .ok (.lload_n 1, 1) := by decide +kernel
theorem dX10_digest_166 : decode cX10_digest 166 = .ok (.aload_n 0, 1) := by decide +kernel
theorem dX10_digest_167 : decode cX10_digest 167 = .ok (.iconst 1, 1) := by decide +kernel
theorem dX10_digest_168 : decode cX10_digest 168 = .ok (.invokevirtual 314, 3) := by decide +kernel
theorem dX10_digest_171 : decode cX10_digest 171 = .ok (.i2l, 1) := by decide +kernel
theorem dX10_digest_172 : decode cX10_digest 172 = .ok (.invokestatic 291, 3) := by decide +kernel
theorem dX10_digest_175 : decode cX10_digest 175 = .ok (.lstore_n 1, 1) := by decide +kernel
theorem dX10_digest_176 : decode cX10_digest 176 = .ok (.lload_n 1, 1) := by decide +kernel
theorem dX10_digest_177 : decode cX10_digest 177 = .ok (.aload_n 0, 1) := by decide +kernel
theorem dX10_digest_178 : decode cX10_digest 178 = .ok (.bipush 7, 2) := by decide +kernel
theorem dX10_digest_180 : decode cX10_digest 180 = .ok (.bipush 9, 2) := by decide +kernel
theorem dX10_digest_182 : decode cX10_digest 182 = .ok (.iconst (-1), 1) := by decide +kernel
theorem dX10_digest_183 : decode cX10_digest 183 = .ok (.invokevirtual 317, 3) := by decide +kernel
theorem dX10_digest_186 : decode cX10_digest 186 = .ok (.i2l, 1) := by decide +kernel
theorem dX10_digest_187 : decode cX10_digest 187 = .ok (.invokestatic 291, 3) := by decide +kernel
theorem dX10_digest_190 : decode cX10_digest 190 = .ok (.lstore_n 1, 1) := by decide +kernel
theorem dX10_digest_191 : decode cX10_digest 191 = .ok (.iconst 0, 1) := by decide +kernel
theorem dX10_digest_192 : decode cX10_digest 192 = .ok (.istore_n 3, 1) := by decide +kernel
theorem dX10_digest_193 : decode cX10_digest 193 = .ok (.iload_n 3, 1) := by decide +kernel
theorem dX10_digest_194 : decode cX10_digest 194 = .ok (.bipush 8, 2) := by decide +kernel
theorem dX10_digest_196 : decode cX10_digest 196 = .ok (.if_icmp .ge 16, 3) := by decide +kernel
theorem dX10_digest_199 : decode cX10_digest 199 = .ok (.aload_n 0, 1) := by decide +kernel
theorem dX10_digest_200 : decode cX10_digest 200 = .ok (.lload_n 1, 1) := by decide +kernel
theorem dX10_digest_201 : decode cX10_digest 201 = .ok (.iload_n 3, 1) := by decide +kernel
theorem dX10_digest_202 : decode cX10_digest 202 = .ok (.invokevirtual 320, 3) := by decide +kernel
theorem dX10_digest_205 : decode cX10_digest 205 = .ok (.lstore_n 1, 1) := by decide +kernel
theorem dX10_digest_206 : decode cX10_digest 206 = .ok (.iinc 3 1, 3) := by decide +kernel
theorem dX10_digest_209 : decode cX10_digest 209 = .ok (.goto (-16), 3) := by decide +kernel
theorem dX10_digest_212 : decode cX10_digest 212 = .ok (.lload_n 1, 1) := by decide +kernel
theorem dX10_digest_213 : decode cX10_digest 213 = .ok (.lreturn, 1) := by decide +kernel
theorem dX10_digestTexts_0 : decode cX10_digestTexts 0 = .ok (.lload_n 1, 1) := by decide +kernel
theorem dX10_digestTexts_1 : decode cX10_digestTexts 1 = .ok (.lstore_n 3, 1) := by decide +kernel
theorem dX10_digestTexts_2 : decode cX10_digestTexts 2 = .ok (.iconst 0, 1) := by decide +kernel
theorem dX10_digestTexts_3 : decode cX10_digestTexts 3 = .ok (.istore 5, 2) := by decide +kernel
theorem dX10_digestTexts_5 : decode cX10_digestTexts 5 = .ok (.iload 5, 2) := by decide +kernel
theorem dX10_digestTexts_7 : decode cX10_digestTexts 7 = .ok (.bipush 8, 2) := by decide +kernel
theorem dX10_digestTexts_9 : decode cX10_digestTexts 9 = .ok (.if_icmp .ge 21, 3) := by decide +kernel
theorem dX10_digestTexts_12 : decode cX10_digestTexts 12 = .ok (.lload_n 3, 1) := by decide +kernel
theorem dX10_digestTexts_13 : decode cX10_digestTexts 13 = .ok (.aload_n 0, 1) := by decide +kernel
theorem dX10_digestTexts_14 : decode cX10_digestTexts 14 = .ok (.iload 5, 2) := by decide +kernel
theorem dX10_digestTexts_16 : decode cX10_digestTexts 16 = .ok (.invokevirtual 324, 3) := by decide +kernel
theorem dX10_digestTexts_19 : decode cX10_digestTexts 19 = .ok (.i2l, 1) := by decide +kernel
theorem dX10_digestTexts_20 : decode cX10_digestTexts 20 = .ok (.invokestatic 291, 3) := by decide +kernel
theorem dX10_digestTexts_23 : decode cX10_digestTexts 23 = .ok (.lstore_n 3, 1) := by decide +kernel
theorem dX10_digestTexts_24 : decode cX10_digestTexts 24 = .ok (.iinc 5 1, 3) := by decide +kernel
theorem dX10_digestTexts_27 : decode cX10_digestTexts 27 = .ok (.goto (-22), 3) := by decide +kernel
theorem dX10_digestTexts_30 : decode cX10_digestTexts 30 = .ok (.lload_n 3, 1) := by decide +kernel
theorem dX10_digestTexts_31 : decode cX10_digestTexts 31 = .ok (.aload_n 0, 1) := by decide +kernel
theorem dX10_digestTexts_32 : decode cX10_digestTexts 32 = .ok (.iconst 0, 1) := by decide +kernel
theorem dX10_digestTexts_33 : decode cX10_digestTexts 33 = .ok (.invokevirtual 327, 3) := by decide +kernel
theorem dX10_digestTexts_36 : decode cX10_digestTexts 36 = .ok (.i2l, 1) := by decide +kernel
theorem dX10_digestTexts_37 : decode cX10_digestTexts 37 = .ok (.invokestatic 291, 3) := by decide +kernel
theorem dX10_digestTexts_40 : decode cX10_digestTexts 40 = .ok (.lstore_n 3, 1) := by decide +kernel
theorem dX10_digestTexts_41 : decode cX10_digestTexts 41 = .ok (.lload_n 3, 1) := by decide +kernel
theorem dX10_digestTexts_42 : decode cX10_digestTexts 42 = .ok (.aload_n 0, 1) := by decide +kernel
theorem dX10_digestTexts_43 : decode cX10_digestTexts 43 = .ok (.iconst 1, 1) := by decide +kernel
theorem dX10_digestTexts_44 : decode cX10_digestTexts 44 = .ok (.invokevirtual 327, 3) := by decide +kernel
theorem dX10_digestTexts_47 : decode cX10_digestTexts 47 = .ok (.i2l, 1) := by decide +kernel
theorem dX10_digestTexts_48 : decode cX10_digestTexts 48 = .ok (.invokestatic 291, 3) := by decide +kernel
theorem dX10_digestTexts_51 : decode cX10_digestTexts 51 = .ok (.lstore_n 3, 1) := by decide +kernel
theorem dX10_digestTexts_52 : decode cX10_digestTexts 52 = .ok (.iconst 0, 1) := by decide +kernel
theorem dX10_digestTexts_53 : decode cX10_digestTexts 53 = .ok (.istore 5, 2) := by decide +kernel
theorem dX10_digestTexts_55 : decode cX10_digestTexts 55 = .ok (.iload 5, 2) := by decide +kernel
theorem dX10_digestTexts_57 : decode cX10_digestTexts 57 = .ok (.aload_n 0, 1) := by decide +kernel
theorem dX10_digestTexts_58 : decode cX10_digestTexts 58 = .ok (.getfield 24, 3) := by decide +kernel
theorem dX10_digestTexts_61 : decode cX10_digestTexts 61 = .ok (.invokevirtual 100, 3) := by decide +kernel
theorem dX10_digestTexts_64 : decode cX10_digestTexts 64 = .ok (.if_icmp .ge 48, 3) := by decide +kernel
theorem dX10_digestTexts_67 : decode cX10_digestTexts 67 = .ok (.lload_n 3, 1) := by decide +kernel
theorem dX10_digestTexts_68 : decode cX10_digestTexts 68 = .ok (.aload_n 0, 1) := by decide +kernel
theorem dX10_digestTexts_69 : decode cX10_digestTexts 69 = .ok (.iload 5, 2) := by decide +kernel
theorem dX10_digestTexts_71 : decode cX10_digestTexts 71 = .ok (.iconst 0, 1) := by decide +kernel
theorem dX10_digestTexts_72 : decode cX10_digestTexts 72 = .ok (.invokevirtual 330, 3) := by decide +kernel
theorem dX10_digestTexts_75 : decode cX10_digestTexts 75 = .ok (.i2l, 1) := by decide +kernel
theorem dX10_digestTexts_76 : decode cX10_digestTexts 76 = .ok (.invokestatic 291, 3) := by decide +kernel
theorem dX10_digestTexts_79 : decode cX10_digestTexts 79 = .ok (.lstore_n 3, 1) := by decide +kernel
theorem dX10_digestTexts_80 : decode cX10_digestTexts 80 = .ok (.lload_n 3, 1) := by decide +kernel
theorem dX10_digestTexts_81 : decode cX10_digestTexts 81 = .ok (.aload_n 0, 1) := by decide +kernel
theorem dX10_digestTexts_82 : decode cX10_digestTexts 82 = .ok (.iload 5, 2) := by decide +kernel
theorem dX10_digestTexts_84 : decode cX10_digestTexts 84 = .ok (.iconst 1, 1) := by decide +kernel
theorem dX10_digestTexts_85 : decode cX10_digestTexts 85 = .ok (.invokevirtual 330, 3) := by decide +kernel
theorem dX10_digestTexts_88 : decode cX10_digestTexts 88 = .ok (.i2l, 1) := by decide +kernel
theorem dX10_digestTexts_89 : decode cX10_digestTexts 89 = .ok (.invokestatic 291, 3) := by decide +kernel
theorem dX10_digestTexts_92 : decode cX10_digestTexts 92 = .ok (.lstore_n 3, 1) := by decide +kernel
theorem dX10_digestTexts_93 : decode cX10_digestTexts 93 = .ok (.lload_n 3, 1) := by decide +kernel
theorem dX10_digestTexts_94 : decode cX10_digestTexts 94 = .ok (.aload_n 0, 1) := by decide +kernel
theorem dX10_digestTexts_95 : decode cX10_digestTexts 95 = .ok (.iload 5, 2) := by decide +kernel
theorem dX10_digestTexts_97 : decode cX10_digestTexts 97 = .ok (.iconst 2, 1) := by decide +kernel
theorem dX10_digestTexts_98 : decode cX10_digestTexts 98 = .ok (.invokevirtual 330, 3) := by decide +kernel
theorem dX10_digestTexts_101 : decode cX10_digestTexts 101 = .ok (.i2l, 1) := by decide +kernel
theorem dX10_digestTexts_102 : decode cX10_digestTexts 102 = .ok (.invokestatic 291, 3) := by decide +kernel
theorem dX10_digestTexts_105 : decode cX10_digestTexts 105 = .ok (.lstore_n 3, 1) := by decide +kernel
theorem dX10_digestTexts_106 : decode cX10_digestTexts 106 = .ok (.iinc 5 1, 3) := by decide +kernel
theorem dX10_digestTexts_109 : decode cX10_digestTexts 109 = .ok (.goto (-54), 3) := by decide +kernel
theorem dX10_digestTexts_112 : decode cX10_digestTexts 112 = .ok (.iconst 0, 1) := by decide +kernel
theorem dX10_digestTexts_113 : decode cX10_digestTexts 113 = .ok (.istore 5, 2) := by decide +kernel
theorem dX10_digestTexts_115 : decode cX10_digestTexts 115 = .ok (.iload 5, 2) := by decide +kernel
theorem dX10_digestTexts_117 : decode cX10_digestTexts 117 = .ok (.aload_n 0, 1) := by decide +kernel
theorem dX10_digestTexts_118 : decode cX10_digestTexts 118 = .ok (.getfield 31, 3) := by decide +kernel
theorem dX10_digestTexts_121 : decode cX10_digestTexts 121 = .ok (.invokevirtual 111, 3) := by decide +kernel
theorem dX10_digestTexts_124 : decode cX10_digestTexts 124 = .ok (.if_icmp .ge 35, 3) := by decide +kernel
theorem dX10_digestTexts_127 : decode cX10_digestTexts 127 = .ok (.lload_n 3, 1) := by decide +kernel
theorem dX10_digestTexts_128 : decode cX10_digestTexts 128 = .ok (.aload_n 0, 1) := by decide +kernel
theorem dX10_digestTexts_129 : decode cX10_digestTexts 129 = .ok (.iload 5, 2) := by decide +kernel
theorem dX10_digestTexts_131 : decode cX10_digestTexts 131 = .ok (.iconst 0, 1) := by decide +kernel
theorem dX10_digestTexts_132 : decode cX10_digestTexts 132 = .ok (.invokevirtual 333, 3) := by decide +kernel
theorem dX10_digestTexts_135 : decode cX10_digestTexts 135 = .ok (.i2l, 1) := by decide +kernel
theorem dX10_digestTexts_136 : decode cX10_digestTexts 136 = .ok (.invokestatic 291, 3) := by decide +kernel
theorem dX10_digestTexts_139 : decode cX10_digestTexts 139 = .ok (.lstore_n 3, 1) := by decide +kernel
theorem dX10_digestTexts_140 : decode cX10_digestTexts 140 = .ok (.lload_n 3, 1) := by decide +kernel
theorem dX10_digestTexts_141 : decode cX10_digestTexts 141 = .ok (.aload_n 0, 1) := by decide +kernel
theorem dX10_digestTexts_142 : decode cX10_digestTexts 142 = .ok (.iload 5, 2) := by decide +kernel
theorem dX10_digestTexts_144 : decode cX10_digestTexts 144 = .ok (.iconst 1, 1) := by decide +kernel
theorem dX10_digestTexts_145 : decode cX10_digestTexts 145 = .ok (.invokevirtual 333, 3) := by decide +kernel
theorem dX10_digestTexts_148 : decode cX10_digestTexts 148 = .ok (.i2l, 1) := by decide +kernel
theorem dX10_digestTexts_149 : decode cX10_digestTexts 149 = .ok (.invokestatic 291, 3) := by decide +kernel
theorem dX10_digestTexts_152 : decode cX10_digestTexts 152 = .ok (.lstore_n 3, 1) := by decide +kernel
theorem dX10_digestTexts_153 : decode cX10_digestTexts 153 = .ok (.iinc 5 1, 3) := by decide +kernel
theorem dX10_digestTexts_156 : decode cX10_digestTexts 156 = .ok (.goto (-41), 3) := by decide +kernel
theorem dX10_digestTexts_159 : decode cX10_digestTexts 159 = .ok (.lload_n 3, 1) := by decide +kernel
theorem dX10_digestTexts_160 : decode cX10_digestTexts 160 = .ok (.lreturn, 1) := by decide +kernel
theorem dX10_digestBig_0 : decode cX10_digestBig 0 = .ok (.lload_n 1, 1) := by decide +kernel
theorem dX10_digestBig_1 : decode cX10_digestBig 1 = .ok (.lstore 4, 2) := by decide +kernel
theorem dX10_digestBig_3 : decode cX10_digestBig 3 = .ok (.lload 4, 2) := by decide +kernel
theorem dX10_digestBig_5 : decode cX10_digestBig 5 = .ok (.aload_n 0, 1) := by decide +kernel
theorem dX10_digestBig_6 : decode cX10_digestBig 6 = .ok (.iconst 3, 1) := by decide +kernel
theorem dX10_digestBig_7 : decode cX10_digestBig 7 = .ok (.iload_n 3, 1) := by decide +kernel
theorem dX10_digestBig_8 : decode cX10_digestBig 8 = .ok (.iconst 0, 1) := by decide +kernel
theorem dX10_digestBig_9 : decode cX10_digestBig 9 = .ok (.invokevirtual 336, 3) := by decide +kernel
theorem dX10_digestBig_12 : decode cX10_digestBig 12 = .ok (.i2l, 1) := by decide +kernel
theorem dX10_digestBig_13 : decode cX10_digestBig 13 = .ok (.invokestatic 291, 3) := by decide +kernel
theorem dX10_digestBig_16 : decode cX10_digestBig 16 = .ok (.lstore 4, 2) := by decide +kernel
theorem dX10_digestBig_18 : decode cX10_digestBig 18 = .ok (.lload 4, 2) := by decide +kernel
theorem dX10_digestBig_20 : decode cX10_digestBig 20 = .ok (.aload_n 0, 1) := by decide +kernel
theorem dX10_digestBig_21 : decode cX10_digestBig 21 = .ok (.iconst 3, 1) := by decide +kernel
theorem dX10_digestBig_22 : decode cX10_digestBig 22 = .ok (.iload_n 3, 1) := by decide +kernel
theorem dX10_digestBig_23 : decode cX10_digestBig 23 = .ok (.iconst 1, 1) := by decide +kernel
theorem dX10_digestBig_24 : decode cX10_digestBig 24 = .ok (.invokevirtual 336, 3) := by decide +kernel
theorem dX10_digestBig_27 : decode cX10_digestBig 27 = .ok (.i2l, 1) := by decide +kernel
theorem dX10_digestBig_28 : decode cX10_digestBig 28 = .ok (.invokestatic 291, 3) := by decide +kernel
theorem dX10_digestBig_31 : decode cX10_digestBig 31 = .ok (.lstore 4, 2) := by decide +kernel
theorem dX10_digestBig_33 : decode cX10_digestBig 33 = .ok (.lload 4, 2) := by decide +kernel
theorem dX10_digestBig_35 : decode cX10_digestBig 35 = .ok (.aload_n 0, 1) := by decide +kernel
theorem dX10_digestBig_36 : decode cX10_digestBig 36 = .ok (.iload_n 3, 1) := by decide +kernel
theorem dX10_digestBig_37 : decode cX10_digestBig 37 = .ok (.invokevirtual 339, 3) := by decide +kernel
theorem dX10_digestBig_40 : decode cX10_digestBig 40 = .ok (.i2l, 1) := by decide +kernel
theorem dX10_digestBig_41 : decode cX10_digestBig 41 = .ok (.invokestatic 291, 3) := by decide +kernel
theorem dX10_digestBig_44 : decode cX10_digestBig 44 = .ok (.lstore 4, 2) := by decide +kernel
theorem dX10_digestBig_46 : decode cX10_digestBig 46 = .ok (.lload 4, 2) := by decide +kernel
theorem dX10_digestBig_48 : decode cX10_digestBig 48 = .ok (.aload_n 0, 1) := by decide +kernel
theorem dX10_digestBig_49 : decode cX10_digestBig 49 = .ok (.iconst 2, 1) := by decide +kernel
theorem dX10_digestBig_50 : decode cX10_digestBig 50 = .ok (.iload_n 3, 1) := by decide +kernel
theorem dX10_digestBig_51 : decode cX10_digestBig 51 = .ok (.iconst 0, 1) := by decide +kernel
theorem dX10_digestBig_52 : decode cX10_digestBig 52 = .ok (.invokevirtual 342, 3) := by decide +kernel
theorem dX10_digestBig_55 : decode cX10_digestBig 55 = .ok (.i2l, 1) := by decide +kernel
theorem dX10_digestBig_56 : decode cX10_digestBig 56 = .ok (.invokestatic 291, 3) := by decide +kernel
theorem dX10_digestBig_59 : decode cX10_digestBig 59 = .ok (.lstore 4, 2) := by decide +kernel
theorem dX10_digestBig_61 : decode cX10_digestBig 61 = .ok (.lload 4, 2) := by decide +kernel
theorem dX10_digestBig_63 : decode cX10_digestBig 63 = .ok (.aload_n 0, 1) := by decide +kernel
theorem dX10_digestBig_64 : decode cX10_digestBig 64 = .ok (.iconst 2, 1) := by decide +kernel
theorem dX10_digestBig_65 : decode cX10_digestBig 65 = .ok (.iload_n 3, 1) := by decide +kernel
theorem dX10_digestBig_66 : decode cX10_digestBig 66 = .ok (.iconst 1, 1) := by decide +kernel
theorem dX10_digestBig_67 : decode cX10_digestBig 67 = .ok (.invokevirtual 342, 3) := by decide +kernel
theorem dX10_digestBig_70 : decode cX10_digestBig 70 = .ok (.i2l, 1) := by decide +kernel
theorem dX10_digestBig_71 : decode cX10_digestBig 71 = .ok (.invokestatic 291, 3) := by decide +kernel
theorem dX10_digestBig_74 : decode cX10_digestBig 74 = .ok (.lstore 4, 2) := by decide +kernel
theorem dX10_digestBig_76 : decode cX10_digestBig 76 = .ok (.lload 4, 2) := by decide +kernel
theorem dX10_digestBig_78 : decode cX10_digestBig 78 = .ok (.aload_n 0, 1) := by decide +kernel
theorem dX10_digestBig_79 : decode cX10_digestBig 79 = .ok (.iload_n 3, 1) := by decide +kernel
theorem dX10_digestBig_80 : decode cX10_digestBig 80 = .ok (.iconst 0, 1) := by decide +kernel
theorem dX10_digestBig_81 : decode cX10_digestBig 81 = .ok (.invokevirtual 345, 3) := by decide +kernel
theorem dX10_digestBig_84 : decode cX10_digestBig 84 = .ok (.i2l, 1) := by decide +kernel
theorem dX10_digestBig_85 : decode cX10_digestBig 85 = .ok (.invokestatic 291, 3) := by decide +kernel
theorem dX10_digestBig_88 : decode cX10_digestBig 88 = .ok (.lstore 4, 2) := by decide +kernel
theorem dX10_digestBig_90 : decode cX10_digestBig 90 = .ok (.lload 4, 2) := by decide +kernel
theorem dX10_digestBig_92 : decode cX10_digestBig 92 = .ok (.aload_n 0, 1) := by decide +kernel
theorem dX10_digestBig_93 : decode cX10_digestBig 93 = .ok (.iload_n 3, 1) := by decide +kernel
theorem dX10_digestBig_94 : decode cX10_digestBig 94 = .ok (.iconst 1, 1) := by decide +kernel
theorem dX10_digestBig_95 : decode cX10_digestBig 95 = .ok (.invokevirtual 345, 3) := by decide +kernel
theorem dX10_digestBig_98 : decode cX10_digestBig 98 = .ok (.i2l, 1) := by decide +kernel
theorem dX10_digestBig_99 : decode cX10_digestBig 99 = .ok (.invokestatic 291, 3) := by decide +kernel
theorem dX10_digestBig_102 : decode cX10_digestBig 102 = .ok (.lstore 4, 2) := by decide +kernel
theorem dX10_digestBig_104 : decode cX10_digestBig 104 = .ok (.lload 4, 2) := by decide +kernel
theorem dX10_digestBig_106 : decode cX10_digestBig 106 = .ok (.aload_n 0, 1) := by decide +kernel
theorem dX10_digestBig_107 : decode cX10_digestBig 107 = .ok (.iload_n 3, 1) := by decide +kernel
theorem dX10_digestBig_108 : decode cX10_digestBig 108 = .ok (.invokevirtual 348, 3) := by decide +kernel
theorem dX10_digestBig_111 : decode cX10_digestBig 111 = .ok (.i2l, 1) := by decide +kernel
theorem dX10_digestBig_112 : decode cX10_digestBig 112 = .ok (.invokestatic 291, 3) := by decide +kernel
theorem dX10_digestBig_115 : decode cX10_digestBig 115 = .ok (.lstore 4, 2) := by decide +kernel
theorem dX10_digestBig_117 : decode cX10_digestBig 117 = .ok (.lload 4, 2) := by decide +kernel
theorem dX10_digestBig_119 : decode cX10_digestBig 119 = .ok (.aload_n 0, 1) := by decide +kernel
theorem dX10_digestBig_120 : decode cX10_digestBig 120 = .ok (.iconst 4, 1) := by decide +kernel
theorem dX10_digestBig_121 : decode cX10_digestBig 121 = .ok (.iload_n 3, 1) := by decide +kernel
theorem dX10_digestBig_122 : decode cX10_digestBig 122 = .ok (.iconst 0, 1) := by decide +kernel
theorem dX10_digestBig_123 : decode cX10_digestBig 123 = .ok (.invokevirtual 351, 3) := by decide +kernel
theorem dX10_digestBig_126 : decode cX10_digestBig 126 = .ok (.invokestatic 291, 3) := by decide +kernel
theorem dX10_digestBig_129 : decode cX10_digestBig 129 = .ok (.lstore 4, 2) := by decide +kernel
theorem dX10_digestBig_131 : decode cX10_digestBig 131 = .ok (.lload 4, 2) := by decide +kernel
theorem dX10_digestBig_133 : decode cX10_digestBig 133 = .ok (.aload_n 0, 1) := by decide +kernel
theorem dX10_digestBig_134 : decode cX10_digestBig 134 = .ok (.iconst 4, 1) := by decide +kernel
theorem dX10_digestBig_135 : decode cX10_digestBig 135 = .ok (.iload_n 3, 1) := by decide +kernel
theorem dX10_digestBig_136 : decode cX10_digestBig 136 = .ok (.iconst 1, 1) := by decide +kernel
theorem dX10_digestBig_137 : decode cX10_digestBig 137 = .ok (.invokevirtual 351, 3) := by decide +kernel
theorem dX10_digestBig_140 : decode cX10_digestBig 140 = .ok (.invokestatic 291, 3) := by decide +kernel
theorem dX10_digestBig_143 : decode cX10_digestBig 143 = .ok (.lstore 4, 2) := by decide +kernel
theorem dX10_digestBig_145 : decode cX10_digestBig 145 = .ok (.lload 4, 2) := by decide +kernel
theorem dX10_digestBig_147 : decode cX10_digestBig 147 = .ok (.aload_n 0, 1) := by decide +kernel
theorem dX10_digestBig_148 : decode cX10_digestBig 148 = .ok (.iconst 4, 1) := by decide +kernel
theorem dX10_digestBig_149 : decode cX10_digestBig 149 = .ok (.iload_n 3, 1) := by decide +kernel
theorem dX10_digestBig_150 : decode cX10_digestBig 150 = .ok (.invokevirtual 355, 3) := by decide +kernel
theorem dX10_digestBig_153 : decode cX10_digestBig 153 = .ok (.i2l, 1) := by decide +kernel
theorem dX10_digestBig_154 : decode cX10_digestBig 154 = .ok (.invokestatic 291, 3) := by decide +kernel
theorem dX10_digestBig_157 : decode cX10_digestBig 157 = .ok (.lstore 4, 2) := by decide +kernel
theorem dX10_digestBig_159 : decode cX10_digestBig 159 = .ok (.lload 4, 2) := by decide +kernel
theorem dX10_digestBig_161 : decode cX10_digestBig 161 = .ok (.lreturn, 1) := by decide +kernel
theorem dX10_mix_0 : decode cX10_mix 0 = .ok (.ldc2_w 358, 3) := by decide +kernel
theorem dX10_mix_3 : decode cX10_mix 3 = .ok (.lload_n 0, 1) := by decide +kernel
theorem dX10_mix_4 : decode cX10_mix 4 = .ok (.lmul, 1) := by decide +kernel
theorem dX10_mix_5 : decode cX10_mix 5 = .ok (.lload_n 2, 1) := by decide +kernel
theorem dX10_mix_6 : decode cX10_mix 6 = .ok (.ladd, 1) := by decide +kernel
theorem dX10_mix_7 : decode cX10_mix 7 = .ok (.lreturn, 1) := by decide +kernel
theorem dX10_textOf_0 : decode cX10_textOf 0 = .ok (.iload_n 1, 1) := by decide +kernel
theorem dX10_textOf_1 : decode cX10_textOf 1 = .ok (.ifCond .ne 8, 3) := by decide +kernel
theorem dX10_textOf_4 : decode cX10_textOf 4 = .ok (.aload_n 0, 1) := by decide +kernel
theorem dX10_textOf_5 : decode cX10_textOf 5 = .ok (.getfield 14, 3) := by decide +kernel
theorem dX10_textOf_8 : decode cX10_textOf 8 = .ok (.areturn, 1) := by decide +kernel
theorem dX10_textOf_9 : decode cX10_textOf 9 = .ok (.iload_n 1, 1) := by decide +kernel
theorem dX10_textOf_10 : decode cX10_textOf 10 = .ok (.iconst 1, 1) := by decide +kernel
theorem dX10_textOf_11 : decode cX10_textOf 11 = .ok (.if_icmp .ne 10, 3) := by decide +kernel
theorem dX10_textOf_14 : decode cX10_textOf 14 = .ok (.aload_n 0, 1) := by decide +kernel
theorem dX10_textOf_15 : decode cX10_textOf 15 = .ok (.getfield 18, 3) := by decide +kernel
theorem dX10_textOf_18 : decode cX10_textOf 18 = .ok (.goto 4, 3) := by decide +kernel
theorem dX10_textOf_21 : decode cX10_textOf 21 = .ok (.aconst_null, 1) := by decide +kernel
theorem dX10_textOf_22 : decode cX10_textOf 22 = .ok (.areturn, 1) := by decide +kernel
theorem dX10_readAgain_0 : decode cX10_readAgain 0 = .ok (.iload_n 1, 1) := by decide +kernel
theorem dX10_readAgain_1 : decode cX10_readAgain 1 = .ok (.ifCond .ne 17, 3) := by decide +kernel
theorem dX10_readAgain_4 : decode cX10_readAgain 4 = .ok (.aload_n 0, 1) := by decide +kernel
theorem dX10_readAgain_5 : decode cX10_readAgain 5 = .ok (.getfield 24, 3) := by decide +kernel
theorem dX10_readAgain_8 : decode cX10_readAgain 8 = .ok (.aload_n 0, 1) := by decide +kernel
theorem dX10_readAgain_9 : decode cX10_readAgain 9 = .ok (.getfield 14, 3) := by decide +kernel
theorem dX10_readAgain_12 : decode cX10_readAgain 12 = .ok (.invokevirtual 360, 3) := by decide +kernel
theorem dX10_readAgain_15 : decode cX10_readAgain 15 = .ok (.goto 14, 3) := by decide +kernel
theorem dX10_readAgain_18 : decode cX10_readAgain 18 = .ok (.aload_n 0, 1) := by decide +kernel
theorem dX10_readAgain_19 : decode cX10_readAgain 19 = .ok (.getfield 31, 3) := by decide +kernel
theorem dX10_readAgain_22 : decode cX10_readAgain 22 = .ok (.aload_n 0, 1) := by decide +kernel
theorem dX10_readAgain_23 : decode cX10_readAgain 23 = .ok (.getfield 18, 3) := by decide +kernel
theorem dX10_readAgain_26 : decode cX10_readAgain 26 = .ok (.invokevirtual 364, 3) := by decide +kernel
theorem dX10_readAgain_29 : decode cX10_readAgain 29 = .ok (.aload_n 0, 1) := by decide +kernel
theorem dX10_readAgain_30 : decode cX10_readAgain 30 = .ok (.iconst 1, 1) := by decide +kernel
theorem dX10_readAgain_31 : decode cX10_readAgain 31 = .ok (.putfield 42, 3) := by decide +kernel
theorem dX10_readAgain_34 : decode cX10_readAgain 34 = .ok (.return_, 1) := by decide +kernel
theorem dX10_freshHouse_0 : decode cX10_freshHouse 0 = .ok (.aload_n 0, 1) := by decide +kernel
theorem dX10_freshHouse_1 : decode cX10_freshHouse 1 = .ok (.getfield 42, 3) := by decide +kernel
theorem dX10_freshHouse_4 : decode cX10_freshHouse 4 = .ok (.ifCond .eq 23, 3) := by decide +kernel
theorem dX10_freshHouse_7 : decode cX10_freshHouse 7 = .ok (.aload_n 0, 1) := by decide +kernel
theorem dX10_freshHouse_8 : decode cX10_freshHouse 8 = .ok (.getfield 38, 3) := by decide +kernel
theorem dX10_freshHouse_11 : decode cX10_freshHouse 11 = .ok (.aload_n 0, 1) := by decide +kernel
theorem dX10_freshHouse_12 : decode cX10_freshHouse 12 = .ok (.getfield 24, 3) := by decide +kernel
theorem dX10_freshHouse_15 : decode cX10_freshHouse 15 = .ok (.aload_n 0, 1) := by decide +kernel
theorem dX10_freshHouse_16 : decode cX10_freshHouse 16 = .ok (.getfield 31, 3) := by decide +kernel
theorem dX10_freshHouse_19 : decode cX10_freshHouse 19 = .ok (.invokevirtual 365, 3) := by decide +kernel
theorem dX10_freshHouse_22 : decode cX10_freshHouse 22 = .ok (.aload_n 0, 1) := by decide +kernel
theorem dX10_freshHouse_23 : decode cX10_freshHouse 23 = .ok (.iconst 0, 1) := by decide +kernel
theorem dX10_freshHouse_24 : decode cX10_freshHouse 24 = .ok (.putfield 42, 3) := by decide +kernel
theorem dX10_freshHouse_27 : decode cX10_freshHouse 27 = .ok (.aload_n 0, 1) := by decide +kernel
theorem dX10_freshHouse_28 : decode cX10_freshHouse 28 = .ok (.getfield 38, 3) := by decide +kernel
theorem dX10_freshHouse_31 : decode cX10_freshHouse 31 = .ok (.areturn, 1) := by decide +kernel
theorem dX10_finding_0 : decode cX10_finding 0 = .ok (.aload_n 0, 1) := by decide +kernel
theorem dX10_finding_1 : decode cX10_finding 1 = .ok (.iload_n 1, 1) := by decide +kernel
theorem dX10_finding_2 : decode cX10_finding 2 = .ok (.putfield 67, 3) := by decide +kernel
theorem dX10_finding_5 : decode cX10_finding 5 = .ok (.bipush (-10), 2) := by decide +kernel
theorem dX10_finding_7 : decode cX10_finding 7 = .ok (.iload_n 1, 1) := by decide +kernel
theorem dX10_finding_8 : decode cX10_finding 8 = .ok (.isub, 1) := by decide +kernel
theorem dX10_finding_9 : decode cX10_finding 9 = .ok (.ireturn, 1) := by decide +kernel
theorem dX10_itemRefusal_0 : decode cX10_itemRefusal 0 = .ok (.iload_n 1, 1) := by decide +kernel
theorem dX10_itemRefusal_1 : decode cX10_itemRefusal 1 = .ok (.invokestatic 210, 3) := by decide +kernel
theorem dX10_itemRefusal_4 : decode cX10_itemRefusal 4 = .ok (.ifCond .eq 10, 3) := by decide +kernel
theorem dX10_itemRefusal_7 : decode cX10_itemRefusal 7 = .ok (.iload_n 2, 1) := by decide +kernel
theorem dX10_itemRefusal_8 : decode cX10_itemRefusal 8 = .ok (.invokestatic 247, 3) := by decide +kernel
theorem dX10_itemRefusal_11 : decode cX10_itemRefusal 11 = .ok (.ifCond .ne 6, 3) := by decide +kernel
theorem dX10_itemRefusal_14 : decode cX10_itemRefusal 14 = .ok (.bipush (-2), 2) := by decide +kernel
theorem dX10_itemRefusal_16 : decode cX10_itemRefusal 16 = .ok (.ireturn, 1) := by decide +kernel
theorem dX10_itemRefusal_17 : decode cX10_itemRefusal 17 = .ok (.aload_n 0, 1) := by decide +kernel
theorem dX10_itemRefusal_18 : decode cX10_itemRefusal 18 = .ok (.getfield 62, 3) := by decide +kernel
theorem dX10_itemRefusal_21 : decode cX10_itemRefusal 21 = .ok (.iload_n 1, 1) := by decide +kernel
theorem dX10_itemRefusal_22 : decode cX10_itemRefusal 22 = .ok (.aaload, 1) := by decide +kernel
theorem dX10_itemRefusal_23 : decode cX10_itemRefusal 23 = .ok (.invokevirtual 213, 3) := by decide +kernel
theorem dX10_itemRefusal_26 : decode cX10_itemRefusal 26 = .ok (.ifCond .eq 9, 3) := by decide +kernel
theorem dX10_itemRefusal_29 : decode cX10_itemRefusal 29 = .ok (.aload_n 0, 1) := by decide +kernel
theorem dX10_itemRefusal_30 : decode cX10_itemRefusal 30 = .ok (.iconst 1, 1) := by decide +kernel
theorem dX10_itemRefusal_31 : decode cX10_itemRefusal 31 = .ok (.invokevirtual 216, 3) := by decide +kernel
theorem dX10_itemRefusal_34 : decode cX10_itemRefusal 34 = .ok (.ireturn, 1) := by decide +kernel
theorem dX10_itemRefusal_35 : decode cX10_itemRefusal 35 = .ok (.aload_n 0, 1) := by decide +kernel
theorem dX10_itemRefusal_36 : decode cX10_itemRefusal 36 = .ok (.getfield 62, 3) := by decide +kernel
theorem dX10_itemRefusal_39 : decode cX10_itemRefusal 39 = .ok (.iload_n 1, 1) := by decide +kernel
theorem dX10_itemRefusal_40 : decode cX10_itemRefusal 40 = .ok (.aaload, 1) := by decide +kernel
theorem dX10_itemRefusal_41 : decode cX10_itemRefusal 41 = .ok (.invokevirtual 264, 3) := by decide +kernel
theorem dX10_itemRefusal_44 : decode cX10_itemRefusal 44 = .ok (.iload_n 2, 1) := by decide +kernel
theorem dX10_itemRefusal_45 : decode cX10_itemRefusal 45 = .ok (.if_icmp .eq 9, 3) := by decide +kernel
theorem dX10_itemRefusal_48 : decode cX10_itemRefusal 48 = .ok (.aload_n 0, 1) := by decide +kernel
theorem dX10_itemRefusal_49 : decode cX10_itemRefusal 49 = .ok (.iconst 3, 1) := by decide +kernel
theorem dX10_itemRefusal_50 : decode cX10_itemRefusal 50 = .ok (.invokevirtual 216, 3) := by decide +kernel
theorem dX10_itemRefusal_53 : decode cX10_itemRefusal 53 = .ok (.ireturn, 1) := by decide +kernel
theorem dX10_itemRefusal_54 : decode cX10_itemRefusal 54 = .ok (.aload_n 0, 1) := by decide +kernel
theorem dX10_itemRefusal_55 : decode cX10_itemRefusal 55 = .ok (.getfield 62, 3) := by decide +kernel
theorem dX10_itemRefusal_58 : decode cX10_itemRefusal 58 = .ok (.iload_n 1, 1) := by decide +kernel
theorem dX10_itemRefusal_59 : decode cX10_itemRefusal 59 = .ok (.aaload, 1) := by decide +kernel
theorem dX10_itemRefusal_60 : decode cX10_itemRefusal 60 = .ok (.iload_n 3, 1) := by decide +kernel
theorem dX10_itemRefusal_61 : decode cX10_itemRefusal 61 = .ok (.iconst 1, 1) := by decide +kernel
theorem dX10_itemRefusal_62 : decode cX10_itemRefusal 62 = .ok (.invokevirtual 267, 3) := by decide +kernel
theorem dX10_itemRefusal_65 : decode cX10_itemRefusal 65 = .ok (.ifCond .eq 7, 3) := by decide +kernel
theorem dX10_itemRefusal_68 : decode cX10_itemRefusal 68 = .ok (.iconst 0, 1) := by decide +kernel
theorem dX10_itemRefusal_69 : decode cX10_itemRefusal 69 = .ok (.goto 8, 3) := by decide +kernel
theorem dX10_itemRefusal_72 : decode cX10_itemRefusal 72 = .ok (.aload_n 0, 1) := by decide +kernel
theorem dX10_itemRefusal_73 : decode cX10_itemRefusal 73 = .ok (.iconst 2, 1) := by decide +kernel
theorem dX10_itemRefusal_74 : decode cX10_itemRefusal 74 = .ok (.invokevirtual 216, 3) := by decide +kernel
theorem dX10_itemRefusal_77 : decode cX10_itemRefusal 77 = .ok (.ireturn, 1) := by decide +kernel
theorem dX10_numberOrBits_0 : decode cX10_numberOrBits 0 = .ok (.iload_n 0, 1) := by decide +kernel
theorem dX10_numberOrBits_1 : decode cX10_numberOrBits 1 = .ok (.iconst (-1), 1) := by decide +kernel
theorem dX10_numberOrBits_2 : decode cX10_numberOrBits 2 = .ok (.if_icmp .eq 8, 3) := by decide +kernel
theorem dX10_numberOrBits_5 : decode cX10_numberOrBits 5 = .ok (.iload_n 1, 1) := by decide +kernel
theorem dX10_numberOrBits_6 : decode cX10_numberOrBits 6 = .ok (.iconst 1, 1) := by decide +kernel
theorem dX10_numberOrBits_7 : decode cX10_numberOrBits 7 = .ok (.if_icmp .ne 7, 3) := by decide +kernel
theorem dX10_numberOrBits_10 : decode cX10_numberOrBits 10 = .ok (.iload_n 0, 1) := by decide +kernel
theorem dX10_numberOrBits_11 : decode cX10_numberOrBits 11 = .ok (.goto 7, 3) := by decide +kernel
theorem dX10_numberOrBits_14 : decode cX10_numberOrBits 14 = .ok (.iload_n 0, 1) := by decide +kernel
theorem dX10_numberOrBits_15 : decode cX10_numberOrBits 15 = .ok (.invokestatic 165, 3) := by decide +kernel
theorem dX10_numberOrBits_18 : decode cX10_numberOrBits 18 = .ok (.ireturn, 1) := by decide +kernel
theorem dX10_isBits_0 : decode cX10_isBits 0 = .ok (.iload_n 0, 1) := by decide +kernel
theorem dX10_isBits_1 : decode cX10_isBits 1 = .ok (.ifCond .lt 14, 3) := by decide +kernel
theorem dX10_isBits_4 : decode cX10_isBits 4 = .ok (.iload_n 0, 1) := by decide +kernel
theorem dX10_isBits_5 : decode cX10_isBits 5 = .ok (.sipush 255, 3) := by decide +kernel
theorem dX10_isBits_8 : decode cX10_isBits 8 = .ok (.if_icmp .gt 7, 3) := by decide +kernel
theorem dX10_isBits_11 : decode cX10_isBits 11 = .ok (.iconst 1, 1) := by decide +kernel
theorem dX10_isBits_12 : decode cX10_isBits 12 = .ok (.goto 4, 3) := by decide +kernel
theorem dX10_isBits_15 : decode cX10_isBits 15 = .ok (.iconst 0, 1) := by decide +kernel
theorem dX10_isBits_16 : decode cX10_isBits 16 = .ok (.ireturn, 1) := by decide +kernel
theorem dX10_isThing_0 : decode cX10_isThing 0 = .ok (.iload_n 0, 1) := by decide +kernel
theorem dX10_isThing_1 : decode cX10_isThing 1 = .ok (.ifCond .lt 13, 3) := by decide +kernel
theorem dX10_isThing_4 : decode cX10_isThing 4 = .ok (.iload_n 0, 1) := by decide +kernel
theorem dX10_isThing_5 : decode cX10_isThing 5 = .ok (.bipush 8, 2) := by decide +kernel
theorem dX10_isThing_7 : decode cX10_isThing 7 = .ok (.if_icmp .ge 7, 3) := by decide +kernel
theorem dX10_isThing_10 : decode cX10_isThing 10 = .ok (.iconst 1, 1) := by decide +kernel
theorem dX10_isThing_11 : decode cX10_isThing 11 = .ok (.goto 4, 3) := by decide +kernel
theorem dX10_isThing_14 : decode cX10_isThing 14 = .ok (.iconst 0, 1) := by decide +kernel
theorem dX10_isThing_15 : decode cX10_isThing 15 = .ok (.ireturn, 1) := by decide +kernel
theorem dX10_isEither_0 : decode cX10_isEither 0 = .ok (.iload_n 0, 1) := by decide +kernel
theorem dX10_isEither_1 : decode cX10_isEither 1 = .ok (.ifCond .eq 8, 3) := by decide +kernel
theorem dX10_isEither_4 : decode cX10_isEither 4 = .ok (.iload_n 0, 1) := by decide +kernel
theorem dX10_isEither_5 : decode cX10_isEither 5 = .ok (.iconst 1, 1) := by decide +kernel
theorem dX10_isEither_6 : decode cX10_isEither 6 = .ok (.if_icmp .ne 7, 3) := by decide +kernel
theorem dX10_isEither_9 : decode cX10_isEither 9 = .ok (.iconst 1, 1) := by decide +kernel
theorem dX10_isEither_10 : decode cX10_isEither 10 = .ok (.goto 4, 3) := by decide +kernel
theorem dX10_isEither_13 : decode cX10_isEither 13 = .ok (.iconst 0, 1) := by decide +kernel
theorem dX10_isEither_14 : decode cX10_isEither 14 = .ok (.ireturn, 1) := by decide +kernel
theorem dX10_isWeek_0 : decode cX10_isWeek 0 = .ok (.iload_n 0, 1) := by decide +kernel
theorem dX10_isWeek_1 : decode cX10_isWeek 1 = .ok (.ifCond .lt 13, 3) := by decide +kernel
theorem dX10_isWeek_4 : decode cX10_isWeek 4 = .ok (.iload_n 0, 1) := by decide +kernel
theorem dX10_isWeek_5 : decode cX10_isWeek 5 = .ok (.bipush 30, 2) := by decide +kernel
theorem dX10_isWeek_7 : decode cX10_isWeek 7 = .ok (.if_icmp .ge 7, 3) := by decide +kernel
theorem dX10_isWeek_10 : decode cX10_isWeek 10 = .ok (.iconst 1, 1) := by decide +kernel
theorem dX10_isWeek_11 : decode cX10_isWeek 11 = .ok (.goto 4, 3) := by decide +kernel
theorem dX10_isWeek_14 : decode cX10_isWeek 14 = .ok (.iconst 0, 1) := by decide +kernel
theorem dX10_isWeek_15 : decode cX10_isWeek 15 = .ok (.ireturn, 1) := by decide +kernel
theorem dX10_isSpan_0 : decode cX10_isSpan 0 = .ok (.iload_n 0, 1) := by decide +kernel
theorem dX10_isSpan_1 : decode cX10_isSpan 1 = .ok (.iconst 1, 1) := by decide +kernel
theorem dX10_isSpan_2 : decode cX10_isSpan 2 = .ok (.if_icmp .lt 13, 3) := by decide +kernel
theorem dX10_isSpan_5 : decode cX10_isSpan 5 = .ok (.iload_n 0, 1) := by decide +kernel
theorem dX10_isSpan_6 : decode cX10_isSpan 6 = .ok (.bipush 9, 2) := by decide +kernel
theorem dX10_isSpan_8 : decode cX10_isSpan 8 = .ok (.if_icmp .gt 7, 3) := by decide +kernel
theorem dX10_isSpan_11 : decode cX10_isSpan 11 = .ok (.iconst 1, 1) := by decide +kernel
theorem dX10_isSpan_12 : decode cX10_isSpan 12 = .ok (.goto 4, 3) := by decide +kernel
theorem dX10_isSpan_15 : decode cX10_isSpan 15 = .ok (.iconst 0, 1) := by decide +kernel
theorem dX10_isSpan_16 : decode cX10_isSpan 16 = .ok (.ireturn, 1) := by decide +kernel
theorem dX10_isChance_0 : decode cX10_isChance 0 = .ok (.iload_n 0, 1) := by decide +kernel
theorem dX10_isChance_1 : decode cX10_isChance 1 = .ok (.ifCond .lt 13, 3) := by decide +kernel
theorem dX10_isChance_4 : decode cX10_isChance 4 = .ok (.iload_n 0, 1) := by decide +kernel
theorem dX10_isChance_5 : decode cX10_isChance 5 = .ok (.bipush 16, 2) := by decide +kernel
theorem dX10_isChance_7 : decode cX10_isChance 7 = .ok (.if_icmp .gt 7, 3) := by decide +kernel
theorem dX10_isChance_10 : decode cX10_isChance 10 = .ok (.iconst 1, 1) := by decide +kernel
theorem dX10_isChance_11 : decode cX10_isChance 11 = .ok (.goto 4, 3) := by decide +kernel
theorem dX10_isChance_14 : decode cX10_isChance 14 = .ok (.iconst 0, 1) := by decide +kernel
theorem dX10_isChance_15 : decode cX10_isChance 15 = .ok (.ireturn, 1) := by decide +kernel
theorem dX10_isSheet_0 : decode cX10_isSheet 0 = .ok (.iload_n 0, 1) := by decide +kernel
theorem dX10_isSheet_1 : decode cX10_isSheet 1 = .ok (.ifCond .lt 12, 3) := by decide +kernel
theorem dX10_isSheet_4 : decode cX10_isSheet 4 = .ok (.iload_n 0, 1) := by decide +kernel
theorem dX10_isSheet_5 : decode cX10_isSheet 5 = .ok (.iconst 4, 1) := by decide +kernel
theorem dX10_isSheet_6 : decode cX10_isSheet 6 = .ok (.if_icmp .ge 7, 3) := by decide +kernel
theorem dX10_isSheet_9 : decode cX10_isSheet 9 = .ok (.iconst 1, 1) := by decide +kernel
theorem dX10_isSheet_10 : decode cX10_isSheet 10 = .ok (.goto 4, 3) := by decide +kernel
theorem dX10_isSheet_13 : decode cX10_isSheet 13 = .ok (.iconst 0, 1) := by decide +kernel
theorem dX10_isSheet_14 : decode cX10_isSheet 14 = .ok (.ireturn, 1) := by decide +kernel
theorem dX10_isForm_0 : decode cX10_isForm 0 = .ok (.iload_n 0, 1) := by decide +kernel
theorem dX10_isForm_1 : decode cX10_isForm 1 = .ok (.ifCond .lt 12, 3) := by decide +kernel
theorem dX10_isForm_4 : decode cX10_isForm 4 = .ok (.iload_n 0, 1) := by decide +kernel
theorem dX10_isForm_5 : decode cX10_isForm 5 = .ok (.iconst 3, 1) := by decide +kernel
theorem dX10_isForm_6 : decode cX10_isForm 6 = .ok (.if_icmp .ge 7, 3) := by decide +kernel
theorem dX10_isForm_9 : decode cX10_isForm 9 = .ok (.iconst 1, 1) := by decide +kernel
theorem dX10_isForm_10 : decode cX10_isForm 10 = .ok (.goto 4, 3) := by decide +kernel
theorem dX10_isForm_13 : decode cX10_isForm 13 = .ok (.iconst 0, 1) := by decide +kernel
theorem dX10_isForm_14 : decode cX10_isForm 14 = .ok (.ireturn, 1) := by decide +kernel
theorem dX10_isSmallLetter_0 : decode cX10_isSmallLetter 0 = .ok (.iload_n 0, 1) := by decide +kernel
theorem dX10_isSmallLetter_1 : decode cX10_isSmallLetter 1 = .ok (.bipush 97, 2) := by decide +kernel
theorem dX10_isSmallLetter_3 : decode cX10_isSmallLetter 3 = .ok (.if_icmp .lt 13, 3) := by decide +kernel
theorem dX10_isSmallLetter_6 : decode cX10_isSmallLetter 6 = .ok (.iload_n 0, 1) := by decide +kernel
theorem dX10_isSmallLetter_7 : decode cX10_isSmallLetter 7 = .ok (.bipush 104, 2) := by decide +kernel
theorem dX10_isSmallLetter_9 : decode cX10_isSmallLetter 9 = .ok (.if_icmp .gt 7, 3) := by decide +kernel
theorem dX10_isSmallLetter_12 : decode cX10_isSmallLetter 12 = .ok (.iconst 1, 1) := by decide +kernel
theorem dX10_isSmallLetter_13 : decode cX10_isSmallLetter 13 = .ok (.goto 4, 3) := by decide +kernel
theorem dX10_isSmallLetter_16 : decode cX10_isSmallLetter 16 = .ok (.iconst 0, 1) := by decide +kernel
theorem dX10_isSmallLetter_17 : decode cX10_isSmallLetter 17 = .ok (.ireturn, 1) := by decide +kernel
theorem dX10_isBigLetter_0 : decode cX10_isBigLetter 0 = .ok (.iload_n 0, 1) := by decide +kernel
theorem dX10_isBigLetter_1 : decode cX10_isBigLetter 1 = .ok (.bipush 65, 2) := by decide +kernel
theorem dX10_isBigLetter_3 : decode cX10_isBigLetter 3 = .ok (.if_icmp .lt 13, 3) := by decide +kernel
theorem dX10_isBigLetter_6 : decode cX10_isBigLetter 6 = .ok (.iload_n 0, 1) := by decide +kernel
theorem dX10_isBigLetter_7 : decode cX10_isBigLetter 7 = .ok (.bipush 72, 2) := by decide +kernel
theorem dX10_isBigLetter_9 : decode cX10_isBigLetter 9 = .ok (.if_icmp .gt 7, 3) := by decide +kernel
theorem dX10_isBigLetter_12 : decode cX10_isBigLetter 12 = .ok (.iconst 1, 1) := by decide +kernel
theorem dX10_isBigLetter_13 : decode cX10_isBigLetter 13 = .ok (.goto 4, 3) := by decide +kernel
theorem dX10_isBigLetter_16 : decode cX10_isBigLetter 16 = .ok (.iconst 0, 1) := by decide +kernel
theorem dX10_isBigLetter_17 : decode cX10_isBigLetter 17 = .ok (.ireturn, 1) := by decide +kernel
theorem dX11_init_0 : decode cX11_init 0 = .ok (.aload_n 0, 1) := by decide +kernel
theorem dX11_init_1 : decode cX11_init 1 = .ok (.invokespecial 1, 3) := by decide +kernel
theorem dX11_init_4 : decode cX11_init 4 = .ok (.aload_n 0, 1) := by decide +kernel
theorem dX11_init_5 : decode cX11_init 5 = .ok (.iconst 4, 1) := by decide +kernel
theorem dX11_init_6 : decode cX11_init 6 = .ok (.newarray .int, 2) := by decide +kernel
theorem dX11_init_8 : decode cX11_init 8 = .ok (.putfield 7, 3) := by decide +kernel
theorem dX11_init_11 : decode cX11_init 11 = .ok (.aload_n 0, 1) := by decide +kernel
theorem dX11_init_12 : decode cX11_init 12 = .ok (.iconst 4, 1) := by decide +kernel
theorem dX11_init_13 : decode cX11_init 13 = .ok (.newarray .int, 2) := by decide +kernel
theorem dX11_init_15 : decode cX11_init 15 = .ok (.putfield 13, 3) := by decide +kernel
theorem dX11_init_18 : decode cX11_init 18 = .ok (.aload_n 0, 1) := by decide +kernel
theorem dX11_init_19 : decode cX11_init 19 = .ok (.sipush 240, 3) := by decide +kernel
theorem dX11_init_22 : decode cX11_init 22 = .ok (.newarray .int, 2) := by decide +kernel
theorem dX11_init_24 : decode cX11_init 24 = .ok (.putfield 16, 3) := by decide +kernel
theorem dX11_init_27 : decode cX11_init 27 = .ok (.aload_n 0, 1) := by decide +kernel
theorem dX11_init_28 : decode cX11_init 28 = .ok (.bipush 60, 2) := by decide +kernel
theorem dX11_init_30 : decode cX11_init 30 = .ok (.newarray .int, 2) := by decide +kernel
theorem dX11_init_32 : decode cX11_init 32 = .ok (.putfield 19, 3) := by decide +kernel
theorem dX11_init_35 : decode cX11_init 35 = .ok (.aload_n 0, 1) := by decide +kernel
theorem dX11_init_36 : decode cX11_init 36 = .ok (.bipush 120, 2) := by decide +kernel
theorem dX11_init_38 : decode cX11_init 38 = .ok (.newarray .int, 2) := by decide +kernel
theorem dX11_init_40 : decode cX11_init 40 = .ok (.putfield 22, 3) := by decide +kernel
theorem dX11_init_43 : decode cX11_init 43 = .ok (.aload_n 0, 1) := by decide +kernel
theorem dX11_init_44 : decode cX11_init 44 = .ok (.iconst 2, 1) := by decide +kernel
theorem dX11_init_45 : decode cX11_init 45 = .ok (.newarray .int, 2) := by decide +kernel
theorem dX11_init_47 : decode cX11_init 47 = .ok (.putfield 25, 3) := by decide +kernel
theorem dX11_init_50 : decode cX11_init 50 = .ok (.aload_n 0, 1) := by decide +kernel
theorem dX11_init_51 : decode cX11_init 51 = .ok (.bipush 48, 2) := by decide +kernel
theorem dX11_init_53 : decode cX11_init 53 = .ok (.newarray .int, 2) := by decide +kernel
theorem dX11_init_55 : decode cX11_init 55 = .ok (.putfield 28, 3) := by decide +kernel
theorem dX11_init_58 : decode cX11_init 58 = .ok (.aload_n 0, 1) := by decide +kernel
theorem dX11_init_59 : decode cX11_init 59 = .ok (.bipush 24, 2) := by decide +kernel
theorem dX11_init_61 : decode cX11_init 61 = .ok (.newarray .int, 2) := by decide +kernel
theorem dX11_init_63 : decode cX11_init 63 = .ok (.putfield 31, 3) := by decide +kernel
theorem dX11_init_66 : decode cX11_init 66 = .ok (.aload_n 0, 1) := by decide +kernel
theorem dX11_init_67 : decode cX11_init 67 = .ok (.sipush 256, 3) := by decide +kernel
theorem dX11_init_70 : decode cX11_init 70 = .ok (.newarray .int, 2) := by decide +kernel
theorem dX11_init_72 : decode cX11_init 72 = .ok (.putfield 34, 3) := by decide +kernel
theorem dX11_init_75 : decode cX11_init 75 = .ok (.aload_n 0, 1) := by decide +kernel
theorem dX11_init_76 : decode cX11_init 76 = .ok (.sipush 256, 3) := by decide +kernel
theorem dX11_init_79 : decode cX11_init 79 = .ok (.newarray .int, 2) := by decide +kernel
theorem dX11_init_81 : decode cX11_init 81 = .ok (.putfield 37, 3) := by decide +kernel
theorem dX11_init_84 : decode cX11_init 84 = .ok (.aload_n 0, 1) := by decide +kernel
theorem dX11_init_85 : decode cX11_init 85 = .ok (.bipush 36, 2) := by decide +kernel
theorem dX11_init_87 : decode cX11_init 87 = .ok (.newarray .int, 2) := by decide +kernel
theorem dX11_init_89 : decode cX11_init 89 = .ok (.putfield 40, 3) := by decide +kernel
theorem dX11_init_92 : decode cX11_init 92 = .ok (.aload_n 0, 1) := by decide +kernel
theorem dX11_init_93 : decode cX11_init 93 = .ok (.bipush 30, 2) := by decide +kernel
theorem dX11_init_95 : decode cX11_init 95 = .ok (.newarray .int, 2) := by decide +kernel
theorem dX11_init_97 : decode cX11_init 97 = .ok (.putfield 43, 3) := by decide +kernel
theorem dX11_init_100 : decode cX11_init 100 = .ok (.aload_n 0, 1) := by decide +kernel
theorem dX11_init_101 : decode cX11_init 101 = .ok (.bipush 30, 2) := by decide +kernel
theorem dX11_init_103 : decode cX11_init 103 = .ok (.newarray .int, 2) := by decide +kernel
theorem dX11_init_105 : decode cX11_init 105 = .ok (.putfield 46, 3) := by decide +kernel
theorem dX11_init_108 : decode cX11_init 108 = .ok (.aload_n 0, 1) := by decide +kernel
theorem dX11_init_109 : decode cX11_init 109 = .ok (.sipush 1280, 3) := by decide +kernel
theorem dX11_init_112 : decode cX11_init 112 = .ok (.newarray .boolean, 2) := by decide +kernel
theorem dX11_init_114 : decode cX11_init 114 = .ok (.putfield 49, 3) := by decide +kernel
theorem dX11_init_117 : decode cX11_init 117 = .ok (.aload_n 0, 1) := by decide +kernel
theorem dX11_init_118 : decode cX11_init 118 = .ok (.sipush 256, 3) := by decide +kernel
theorem dX11_init_121 : decode cX11_init 121 = .ok (.newarray .int, 2) := by decide +kernel
theorem dX11_init_123 : decode cX11_init 123 = .ok (.putfield 53, 3) := by decide +kernel
theorem dX11_init_126 : decode cX11_init 126 = .ok (.aload_n 0, 1) := by decide +kernel
theorem dX11_init_127 : decode cX11_init 127 = .ok (.bipush 16, 2) := by decide +kernel
theorem dX11_init_129 : decode cX11_init 129 = .ok (.newarray .int, 2) := by decide +kernel
theorem dX11_init_131 : decode cX11_init 131 = .ok (.putfield 56, 3) := by decide +kernel
theorem dX11_init_134 : decode cX11_init 134 = .ok (.iconst 0, 1) := by decide +kernel
theorem dX11_init_135 : decode cX11_init 135 = .ok (.istore_n 1, 1) := by decide +kernel
theorem dX11_init_136 : decode cX11_init 136 = .ok (.iload_n 1, 1) := by decide +kernel
theorem dX11_init_137 : decode cX11_init 137 = .ok (.iconst 4, 1) := by decide +kernel
theorem dX11_init_138 : decode cX11_init 138 = .ok (.if_icmp .ge 16, 3) := by decide +kernel
theorem dX11_init_141 : decode cX11_init 141 = .ok (.aload_n 0, 1) := by decide +kernel
theorem dX11_init_142 : decode cX11_init 142 = .ok (.getfield 7, 3) := by decide +kernel
theorem dX11_init_145 : decode cX11_init 145 = .ok (.iload_n 1, 1) := by decide +kernel
theorem dX11_init_146 : decode cX11_init 146 = .ok (.iconst (-1), 1) := by decide +kernel
theorem dX11_init_147 : decode cX11_init 147 = .ok (.iastore, 1) := by decide +kernel
theorem dX11_init_148 : decode cX11_init 148 = .ok (.iinc 1 1, 3) := by decide +kernel
theorem dX11_init_151 : decode cX11_init 151 = .ok (.goto (-15), 3) := by decide +kernel
theorem dX11_init_154 : decode cX11_init 154 = .ok (.return_, 1) := by decide +kernel
theorem dX11_in_0 : decode cX11_in 0 = .ok (.lload_n 0, 1) := by decide +kernel
theorem dX11_in_1 : decode cX11_in 1 = .ok (.lload_n 2, 1) := by decide +kernel
theorem dX11_in_2 : decode cX11_in 2 = .ok (.lcmp, 1) := by decide +kernel
theorem dX11_in_3 : decode cX11_in 3 = .ok (.ifCond .lt 14, 3) := by decide +kernel
theorem dX11_in_6 : decode cX11_in 6 = .ok (.lload_n 0, 1) := by decide +kernel
theorem dX11_in_7 : decode cX11_in 7 = .ok (.lload 4, 2) := by decide +kernel
theorem dX11_in_9 : decode cX11_in 9 = .ok (.lcmp, 1) := by decide +kernel
theorem dX11_in_10 : decode cX11_in 10 = .ok (.ifCond .gt 7, 3) := by decide +kernel
theorem dX11_in_13 : decode cX11_in 13 = .ok (.iconst 1, 1) := by decide +kernel
theorem dX11_in_14 : decode cX11_in 14 = .ok (.goto 4, 3) := by decide +kernel
theorem dX11_in_17 : decode cX11_in 17 = .ok (.iconst 0, 1) := by decide +kernel
theorem dX11_in_18 : decode cX11_in 18 = .ok (.ireturn, 1) := by decide +kernel
theorem dX11_no_0 : decode cX11_no 0 = .ok (.ldc2_w 59, 3) := by decide +kernel
theorem dX11_no_3 : decode cX11_no 3 = .ok (.iload_n 0, 1) := by decide +kernel
theorem dX11_no_4 : decode cX11_no 4 = .ok (.i2l, 1) := by decide +kernel
theorem dX11_no_5 : decode cX11_no 5 = .ok (.lsub, 1) := by decide +kernel
theorem dX11_no_6 : decode cX11_no 6 = .ok (.lreturn, 1) := by decide +kernel
theorem dX11_isTwo_0 : decode cX11_isTwo 0 = .ok (.iload_n 0, 1) := by decide +kernel
theorem dX11_isTwo_1 : decode cX11_isTwo 1 = .ok (.i2l, 1) := by decide +kernel
theorem dX11_isTwo_2 : decode cX11_isTwo 2 = .ok (.lconst 0, 1) := by decide +kernel
theorem dX11_isTwo_3 : decode cX11_isTwo 3 = .ok (.lconst 1, 1) := by decide +kernel
theorem dX11_isTwo_4 : decode cX11_isTwo 4 = .ok (.invokestatic 61, 3) := by decide +kernel
theorem dX11_isTwo_7 : decode cX11_isTwo 7 = .ok (.ireturn, 1) := by decide +kernel
theorem dX11_isIn_0 : decode cX11_isIn 0 = .ok (.iload_n 0, 1) := by decide +kernel
theorem dX11_isIn_1 : decode cX11_isIn 1 = .ok (.iload_n 1, 1) := by decide +kernel
theorem dX11_isIn_2 : decode cX11_isIn 2 = .ok (.ishr, 1) := by decide +kernel
theorem dX11_isIn_3 : decode cX11_isIn 3 = .ok (.iconst 1, 1) := by decide +kernel
theorem dX11_isIn_4 : decode cX11_isIn 4 = .ok (.iand, 1) := by decide +kernel
theorem dX11_isIn_5 : decode cX11_isIn 5 = .ok (.iconst 1, 1) := by decide +kernel
theorem dX11_isIn_6 : decode cX11_isIn 6 = .ok (.if_icmp .ne 7, 3) := by decide +kernel
theorem dX11_isIn_9 : decode cX11_isIn 9 = .ok (.iconst 1, 1) := by decide +kernel
theorem dX11_isIn_10 : decode cX11_isIn 10 = .ok (.goto 4, 3) := by decide +kernel
theorem dX11_isIn_13 : decode cX11_isIn 13 = .ok (.iconst 0, 1) := by decide +kernel
theorem dX11_isIn_14 : decode cX11_isIn 14 = .ok (.ireturn, 1) := by decide +kernel
theorem dX11_ones_0 : decode cX11_ones 0 = .ok (.iconst 0, 1) := by decide +kernel
theorem dX11_ones_1 : decode cX11_ones 1 = .ok (.istore_n 1, 1) := by decide +kernel
theorem dX11_ones_2 : decode cX11_ones 2 = .ok (.iload_n 0, 1) := by decide +kernel
theorem dX11_ones_3 : decode cX11_ones 3 = .ok (.istore_n 2, 1) := by decide +kernel
theorem dX11_ones_4 : decode cX11_ones 4 = .ok (.iload_n 2, 1) := by decide +kernel
theorem dX11_ones_5 : decode cX11_ones 5 = .ok (.ifCond .eq 15, 3) := by decide +kernel
theorem dX11_ones_8 : decode cX11_ones 8 = .ok (.iinc 1 1, 3) := by decide +kernel
theorem dX11_ones_11 : decode cX11_ones 11 = .ok (.iload_n 2, 1) := by decide +kernel
theorem dX11_ones_12 : decode cX11_ones 12 = .ok (.iload_n 2, 1) := by decide +kernel
theorem dX11_ones_13 : decode cX11_ones 13 = .ok (.iconst 1, 1) := by decide +kernel
theorem dX11_ones_14 : decode cX11_ones 14 = .ok (.isub, 1) := by decide +kernel
theorem dX11_ones_15 : decode cX11_ones 15 = .ok (.iand, 1) := by decide +kernel
theorem dX11_ones_16 : decode cX11_ones 16 = .ok (.istore_n 2, 1) := by decide +kernel
theorem dX11_ones_17 : decode cX11_ones 17 = .ok (.goto (-13), 3) := by decide +kernel
theorem dX11_ones_20 : decode cX11_ones 20 = .ok (.iload_n 1, 1) := by decide +kernel
theorem dX11_ones_21 : decode cX11_ones 21 = .ok (.ireturn, 1) := by decide +kernel
theorem dX11_part_0 : decode cX11_part 0 = .ok (.lload_n 0, 1) := by decide +kernel
theorem dX11_part_1 : decode cX11_part 1 = .ok (.lstore 5, 2) := by decide +kernel
theorem dX11_part_3 : decode cX11_part 3 = .ok (.lload_n 2, 1) := by decide +kernel
theorem dX11_part_4 : decode cX11_part 4 = .ok (.lstore 7, 2) := by decide +kernel
theorem dX11_part_6 : decode cX11_part 6 = .ok (.lload 7, 2) := by decide +kernel
theorem dX11_part_8 : decode cX11_part 8 = .ok (.lconst 0, 1) := by decide +kernel
theorem dX11_part_9 : decode cX11_part 9 = .ok (.lcmp, 1) := by decide +kernel
theorem dX11_part_10 : decode cX11_part 10 = .ok (.ifCond .eq 21, 3) := by decide +kernel
theorem dX11_part_13 : decode cX11_part 13 = .ok (.lload 5, 2) := by decide +kernel
theorem dX11_part_15 : decode cX11_part 15 = .ok (.lload 7, 2) := by decide +kernel
theorem dX11_part_17 : decode cX11_part 17 = .ok (.lrem, 1) := by decide +kernel
theorem dX11_part_18 : decode cX11_part 18 = .ok (.lstore 9, 2) := by decide +kernel
theorem dX11_part_20 : decode cX11_part 20 = .ok (.lload 7, 2) := by decide +kernel
theorem dX11_part_22 : decode cX11_part 22 = .ok (.lstore 5, 2) := by decide +kernel
theorem dX11_part_24 : decode cX11_part 24 = .ok (.lload 9, 2) := by decide +kernel
theorem dX11_part_26 : decode cX11_part 26 = .ok (.lstore 7, 2) := by decide +kernel
theorem dX11_part_28 : decode cX11_part 28 = .ok (.goto (-22), 3) := by decide +kernel
theorem dX11_part_31 : decode cX11_part 31 = .ok (.iload 4, 2) := by decide +kernel
theorem dX11_part_33 : decode cX11_part 33 = .ok (.ifCond .ne 7, 3) := by decide +kernel
theorem dX11_part_36 : decode cX11_part 36 = .ok (.lload_n 0, 1) := by decide +kernel
theorem dX11_part_37 : decode cX11_part 37 = .ok (.goto 4, 3) := by decide +kernel
theorem dX11_part_40 : decode cX11_part 40 = .ok (.lload_n 2, 1) := by decide +kernel
theorem dX11_part_41 : decode cX11_part 41 = .ok (.lload 5, 2) := by decide +kernel
theorem dX11_part_43 : decode cX11_part 43 = .ok (.ldiv, 1) := by decide +kernel
theorem dX11_part_44 : decode cX11_part 44 = .ok (.lreturn, 1) := by decide +kernel
theorem dX11_met_0 : decode cX11_met 0 = .ok (.aload_n 0, 1) := by decide +kernel
theorem dX11_met_1 : decode cX11_met 1 = .ok (.iload_n 1, 1) := by decide +kernel
theorem dX11_met_2 : decode cX11_met 2 = .ok (.putfield 65, 3) := by decide +kernel
theorem dX11_met_5 : decode cX11_met 5 = .ok (.bipush (-10), 2) := by decide +kernel
theorem dX11_met_7 : decode cX11_met 7 = .ok (.iload_n 1, 1) := by decide +kernel
theorem dX11_met_8 : decode cX11_met 8 = .ok (.isub, 1) := by decide +kernel
theorem dX11_met_9 : decode cX11_met 9 = .ok (.ireturn, 1) := by decide +kernel
theorem dX11_isSheet_0 : decode cX11_isSheet 0 = .ok (.iload_n 0, 1) := by decide +kernel
theorem dX11_isSheet_1 : decode cX11_isSheet 1 = .ok (.i2l, 1) := by decide +kernel
theorem dX11_isSheet_2 : decode cX11_isSheet 2 = .ok (.lconst 0, 1) := by decide +kernel
theorem dX11_isSheet_3 : decode cX11_isSheet 3 = .ok (.ldc2_w 69, 3) := by decide +kernel
theorem dX11_isSheet_6 : decode cX11_isSheet 6 = .ok (.invokestatic 61, 3) := by decide +kernel
theorem dX11_isSheet_9 : decode cX11_isSheet 9 = .ok (.ireturn, 1) := by decide +kernel
theorem dX11_sheet_0 : decode cX11_sheet 0 = .ok (.iload_n 1, 1) := by decide +kernel
theorem dX11_sheet_1 : decode cX11_sheet 1 = .ok (.invokestatic 71, 3) := by decide +kernel
theorem dX11_sheet_4 : decode cX11_sheet 4 = .ok (.ifCond .eq 21, 3) := by decide +kernel
theorem dX11_sheet_7 : decode cX11_sheet 7 = .ok (.iload_n 2, 1) := by decide +kernel
theorem dX11_sheet_8 : decode cX11_sheet 8 = .ok (.i2l, 1) := by decide +kernel
theorem dX11_sheet_9 : decode cX11_sheet 9 = .ok (.lconst 0, 1) := by decide +kernel
theorem dX11_sheet_10 : decode cX11_sheet 10 = .ok (.ldc2_w 75, 3) := by decide +kernel
theorem dX11_sheet_13 : decode cX11_sheet 13 = .ok (.invokestatic 61, 3) := by decide +kernel
theorem dX11_sheet_16 : decode cX11_sheet 16 = .ok (.ifCond .eq 9, 3) := by decide +kernel
theorem dX11_sheet_19 : decode cX11_sheet 19 = .ok (.iload_n 3, 1) := by decide +kernel
theorem dX11_sheet_20 : decode cX11_sheet 20 = .ok (.bipush 60, 2) := by decide +kernel
theorem dX11_sheet_22 : decode cX11_sheet 22 = .ok (.if_icmp .le 6, 3) := by decide +kernel
theorem dX11_sheet_25 : decode cX11_sheet 25 = .ok (.bipush (-2), 2) := by decide +kernel
theorem dX11_sheet_27 : decode cX11_sheet 27 = .ok (.ireturn, 1) := by decide +kernel
theorem dX11_sheet_28 : decode cX11_sheet 28 = .ok (.iload_n 3, 1) := by decide +kernel
theorem dX11_sheet_29 : decode cX11_sheet 29 = .ok (.ifCond .ge 9, 3) := by decide +kernel
theorem dX11_sheet_32 : decode cX11_sheet 32 = .ok (.aload_n 0, 1) := by decide +kernel
theorem dX11_sheet_33 : decode cX11_sheet 33 = .ok (.iconst 5, 1) := by decide +kernel
theorem dX11_sheet_34 : decode cX11_sheet 34 = .ok (.invokevirtual 77, 3) := by decide +kernel
theorem dX11_sheet_37 : decode cX11_sheet 37 = .ok (.ireturn, 1) := by decide +kernel
theorem dX11_sheet_38 : decode cX11_sheet 38 = .ok (.aload_n 0, 1) := by decide +kernel
theorem dX11_sheet_39 : decode cX11_sheet 39 = .ok (.getfield 7, 3) := by decide +kernel
theorem dX11_sheet_42 : decode cX11_sheet 42 = .ok (.iload_n 1, 1) := by decide +kernel
theorem dX11_sheet_43 : decode cX11_sheet 43 = .ok (.iload_n 2, 1) := by decide +kernel
theorem dX11_sheet_44 : decode cX11_sheet 44 = .ok (.iastore, 1) := by decide +kernel
theorem dX11_sheet_45 : decode cX11_sheet 45 = .ok (.aload_n 0, 1) := by decide +kernel
theorem dX11_sheet_46 : decode cX11_sheet 46 = .ok (.getfield 13, 3) := by decide +kernel
theorem dX11_sheet_49 : decode cX11_sheet 49 = .ok (.iload_n 1, 1) := by decide +kernel
theorem dX11_sheet_50 : decode cX11_sheet 50 = .ok (.iload_n 3, 1) := by decide +kernel
theorem dX11_sheet_51 : decode cX11_sheet 51 = .ok (.iastore, 1) := by decide +kernel
theorem dX11_sheet_52 : decode cX11_sheet 52 = .ok (.iconst 0, 1) := by decide +kernel
theorem dX11_sheet_53 : decode cX11_sheet 53 = .ok (.istore 4, 2) := by decide +kernel
theorem dX11_sheet_55 : decode cX11_sheet 55 = .ok (.iload 4, 2) := by decide +kernel
theorem dX11_sheet_57 : decode cX11_sheet 57 = .ok (.iload_n 3, 1) := by decide +kernel
theorem dX11_sheet_58 : decode cX11_sheet 58 = .ok (.if_icmp .ge 22, 3) := by decide +kernel
theorem dX11_sheet_61 : decode cX11_sheet 61 = .ok (.aload_n 0, 1) := by decide +kernel
theorem dX11_sheet_62 : decode cX11_sheet 62 = .ok (.getfield 16, 3) := by decide +kernel
theorem dX11_sheet_65 : decode cX11_sheet 65 = .ok (.bipush 60, 2) := by decide +kernel
theorem dX11_sheet_67 : decode cX11_sheet 67 = .ok (.iload_n 1, 1) := by decide +kernel
theorem dX11_sheet_68 : decode cX11_sheet 68 = .ok (.imul, 1) := by decide +kernel
theorem dX11_sheet_69 : decode cX11_sheet 69 = .ok (.iload 4, 2) := by decide +kernel
theorem dX11_sheet_71 : decode cX11_sheet 71 = .ok (.iadd, 1) := by decide +kernel
theorem dX11_sheet_72 : decode cX11_sheet 72 = .ok (.iconst 0, 1) := by decide +kernel
theorem dX11_sheet_73 : decode cX11_sheet 73 = .ok (.iastore, 1) := by decide +kernel
theorem dX11_sheet_74 : decode cX11_sheet 74 = .ok (.iinc 4 1, 3) := by decide +kernel
theorem dX11_sheet_77 : decode cX11_sheet 77 = .ok (.goto (-22), 3) := by decide +kernel
theorem dX11_sheet_80 : decode cX11_sheet 80 = .ok (.iload_n 3, 1) := by decide +kernel
theorem dX11_sheet_81 : decode cX11_sheet 81 = .ok (.ireturn, 1) := by decide +kernel
theorem dX11_lose_0 : decode cX11_lose 0 = .ok (.iload_n 1, 1) := by decide +kernel
theorem dX11_lose_1 : decode cX11_lose 1 = .ok (.invokestatic 71, 3) := by decide +kernel
theorem dX11_lose_4 : decode cX11_lose 4 = .ok (.ifCond .ne 6, 3) := by decide +kernel
theorem dX11_lose_7 : decode cX11_lose 7 = .ok (.bipush (-2), 2) := by decide +kernel
theorem dX11_lose_9 : decode cX11_lose 9 = .ok (.ireturn, 1) := by decide +kernel
theorem dX11_lose_10 : decode cX11_lose 10 = .ok (.aload_n 0, 1) := by decide +kernel
theorem dX11_lose_11 : decode cX11_lose 11 = .ok (.getfield 7, 3) := by decide +kernel
theorem dX11_lose_14 : decode cX11_lose 14 = .ok (.iload_n 1, 1) := by decide +kernel
theorem dX11_lose_15 : decode cX11_lose 15 = .ok (.iaload, 1) := by decide +kernel
theorem dX11_lose_16 : decode cX11_lose 16 = .ok (.ifCond .ge 9, 3) := by decide +kernel
theorem dX11_lose_19 : decode cX11_lose 19 = .ok (.aload_n 0, 1) := by decide +kernel
theorem dX11_lose_20 : decode cX11_lose 20 = .ok (.iconst 1, 1) := by decide +kernel
theorem dX11_lose_21 : decode cX11_lose 21 = .ok (.invokevirtual 77, 3) := by decide +kernel
theorem dX11_lose_24 : decode cX11_lose 24 = .ok (.ireturn, 1) := by decide +kernel
theorem dX11_lose_25 : decode cX11_lose 25 = .ok (.aload_n 0, 1) := by decide +kernel
theorem dX11_lose_26 : decode cX11_lose 26 = .ok (.getfield 7, 3) := by decide +kernel
theorem dX11_lose_29 : decode cX11_lose 29 = .ok (.iload_n 1, 1) := by decide +kernel
theorem dX11_lose_30 : decode cX11_lose 30 = .ok (.iconst (-1), 1) := by decide +kernel
theorem dX11_lose_31 : decode cX11_lose 31 = .ok (.iastore, 1) := by decide +kernel
theorem dX11_lose_32 : decode cX11_lose 32 = .ok (.aload_n 0, 1) := by decide +kernel
theorem dX11_lose_33 : decode cX11_lose 33 = .ok (.getfield 13, 3) := by decide +kernel
theorem dX11_lose_36 : decode cX11_lose 36 = .ok (.iload_n 1, 1) := by decide +kernel
theorem dX11_lose_37 : decode cX11_lose 37 = .ok (.iaload, 1) := by decide +kernel
theorem dX11_lose_38 : decode cX11_lose 38 = .ok (.ireturn, 1) := by decide +kernel
theorem dX11_lacks_0 : decode cX11_lacks 0 = .ok (.aload_n 0, 1) := by decide +kernel
theorem dX11_lacks_1 : decode cX11_lacks 1 = .ok (.getfield 7, 3) := by decide +kernel
theorem dX11_lacks_4 : decode cX11_lacks 4 = .ok (.iload_n 1, 1) := by decide +kernel
theorem dX11_lacks_5 : decode cX11_lacks 5 = .ok (.iaload, 1) := by decide +kernel
theorem dX11_lacks_6 : decode cX11_lacks 6 = .ok (.ifCond .ge 9, 3) := by decide +kernel
theorem dX11_lacks_9 : decode cX11_lacks 9 = .ok (.aload_n 0, 1) := by decide +kernel
theorem dX11_lacks_10 : decode cX11_lacks 10 = .ok (.iconst 1, 1) := by decide +kernel
theorem dX11_lacks_11 : decode cX11_lacks 11 = .ok (.invokevirtual 77, 3) := by decide +kernel
theorem dX11_lacks_14 : decode cX11_lacks 14 = .ok (.ireturn, 1) := by decide +kernel
theorem dX11_lacks_15 : decode cX11_lacks 15 = .ok (.aload_n 0, 1) := by decide +kernel
theorem dX11_lacks_16 : decode cX11_lacks 16 = .ok (.getfield 7, 3) := by decide +kernel
theorem dX11_lacks_19 : decode cX11_lacks 19 = .ok (.iload_n 1, 1) := by decide +kernel
theorem dX11_lacks_20 : decode cX11_lacks 20 = .ok (.iaload, 1) := by decide +kernel
theorem dX11_lacks_21 : decode cX11_lacks 21 = .ok (.iload_n 2, 1) := by decide +kernel
theorem dX11_lacks_22 : decode cX11_lacks 22 = .ok (.if_icmp .eq 9, 3) := by decide +kernel
theorem dX11_lacks_25 : decode cX11_lacks 25 = .ok (.aload_n 0, 1) := by decide +kernel
theorem dX11_lacks_26 : decode cX11_lacks 26 = .ok (.iconst 3, 1) := by decide +kernel
theorem dX11_lacks_27 : decode cX11_lacks 27 = .ok (.invokevirtual 77, 3) := by decide +kernel
theorem dX11_lacks_30 : decode cX11_lacks 30 = .ok (.ireturn, 1) := by decide +kernel
theorem dX11_lacks_31 : decode cX11_lacks 31 = .ok (.iload_n 3, 1) := by decide +kernel
theorem dX11_lacks_32 : decode cX11_lacks 32 = .ok (.i2l, 1) := by decide +kernel
theorem dX11_lacks_33 : decode cX11_lacks 33 = .ok (.lconst 0, 1) := by decide +kernel
theorem dX11_lacks_34 : decode cX11_lacks 34 = .ok (.aload_n 0, 1) := by decide +kernel
theorem dX11_lacks_35 : decode cX11_lacks 35 = .ok (.getfield 13, 3) := by decide +kernel
theorem dX11_lacks_38 : decode cX11_lacks 38 = .ok (.iload_n 1, 1) := by decide +kernel
theorem dX11_lacks_39 : decode cX11_lacks 39 = .ok (.iaload, 1) := by decide +kernel
theorem dX11_lacks_40 : decode cX11_lacks 40 = .ok (.iconst 1, 1) := by decide +kernel
theorem dX11_lacks_41 : decode cX11_lacks 41 = .ok (.isub, 1) := by decide +kernel
theorem dX11_lacks_42 : decode cX11_lacks 42 = .ok (.i2l, 1) := by decide +kernel
theorem dX11_lacks_43 : decode cX11_lacks 43 = .ok (.invokestatic 61, 3) := by decide +kernel
theorem dX11_lacks_46 : decode cX11_lacks 46 = .ok (.ifCond .eq 7, 3) := by decide +kernel
theorem dX11_lacks_49 : decode cX11_lacks 49 = .ok (.iconst 0, 1) := by decide +kernel
theorem dX11_lacks_50 : decode cX11_lacks 50 = .ok (.goto 8, 3) := by decide +kernel
theorem dX11_lacks_53 : decode cX11_lacks 53 = .ok (.aload_n 0, 1) := by decide +kernel
theorem dX11_lacks_54 : decode cX11_lacks 54 = .ok (.iconst 2, 1) := by decide +kernel
theorem dX11_lacks_55 : decode cX11_lacks 55 = .ok (.invokevirtual 77, 3) := by decide +kernel
theorem dX11_lacks_58 : decode cX11_lacks 58 = .ok (.ireturn, 1) := by decide +kernel
theorem dX11_cut_0 : decode cX11_cut 0 = .ok (.iload_n 0, 1) := by decide +kernel
theorem dX11_cut_1 : decode cX11_cut 1 = .ok (.ifCond .ne 8, 3) := by decide +kernel
theorem dX11_cut_4 : decode cX11_cut 4 = .ok (.iload_n 1, 1) := by decide +kernel
theorem dX11_cut_5 : decode cX11_cut 5 = .ok (.i2b, 1) := by decide +kernel
theorem dX11_cut_6 : decode cX11_cut 6 = .ok (.goto 14, 3) := by decide +kernel
theorem dX11_cut_9 : decode cX11_cut 9 = .ok (.iload_n 0, 1) := by decide +kernel
theorem dX11_cut_10 : decode cX11_cut 10 = .ok (.iconst 1, 1) := by decide +kernel
theorem dX11_cut_11 : decode cX11_cut 11 = .ok (.if_icmp .ne 8, 3) := by decide +kernel
theorem dX11_cut_14 : decode cX11_cut 14 = .ok (.iload_n 1, 1) := by decide +kernel
theorem dX11_cut_15 : decode cX11_cut 15 = .ok (.i2s, 1) := by decide +kernel
theorem dX11_cut_16 : decode cX11_cut 16 = .ok (.goto 4, 3) := by decide +kernel
theorem dX11_cut_19 : decode cX11_cut 19 = .ok (.iload_n 1, 1) := by decide +kernel
theorem dX11_cut_20 : decode cX11_cut 20 = .ok (.ireturn, 1) := by decide +kernel
theorem dX11_put_0 : decode cX11_put 0 = .ok (.iload_n 1, 1) := by decide +kernel
theorem dX11_put_1 : decode cX11_put 1 = .ok (.invokestatic 71, 3) := by decide +kernel
theorem dX11_put_4 : decode cX11_put 4 = .ok (.ifCond .eq 15, 3) := by decide +kernel
theorem dX11_put_7 : decode cX11_put 7 = .ok (.iload_n 2, 1) := by decide +kernel
theorem dX11_put_8 : decode cX11_put 8 = .ok (.i2l, 1) := by decide +kernel
theorem dX11_put_9 : decode cX11_put 9 = .ok (.lconst 0, 1) := by decide +kernel
theorem dX11_put_10 : decode cX11_put 10 = .ok (.ldc2_w 75, 3) := by decide +kernel
theorem dX11_put_13 : decode cX11_put 13 = .ok (.invokestatic 61, 3) := by decide +kernel
theorem dX11_put_16 : decode cX11_put 16 = .ok (.ifCond .ne 6, 3) := by decide +kernel
theorem dX11_put_19 : decode cX11_put 19 = .ok (.bipush (-2), 2) := by decide +kernel
theorem dX11_put_21 : decode cX11_put 21 = .ok (.ireturn, 1) := by decide +kernel
theorem dX11_put_22 : decode cX11_put 22 = .ok (.aload_n 0, 1) := by decide +kernel
theorem dX11_put_23 : decode cX11_put 23 = .ok (.iload_n 1, 1) := by decide +kernel
theorem dX11_put_24 : decode cX11_put 24 = .ok (.iload_n 2, 1) := by decide +kernel
theorem dX11_put_25 : decode cX11_put 25 = .ok (.iload_n 3, 1) := by decide +kernel
theorem dX11_put_26 : decode cX11_put 26 = .ok (.invokevirtual 81, 3) := by decide +kernel
theorem dX11_put_29 : decode cX11_put 29 = .ok (.istore 5, 2) := by decide +kernel
theorem dX11_put_31 : decode cX11_put 31 = .ok (.iload 5, 2) := by decide +kernel
theorem dX11_put_33 : decode cX11_put 33 = .ok (.ifCond .eq 6, 3) := by decide +kernel
theorem dX11_put_36 : decode cX11_put 36 = .ok (.iload 5, 2) := by decide +kernel
theorem dX11_put_38 : decode cX11_put 38 = .ok (.ireturn, 1) := by decide +kernel
theorem dX11_put_39 : decode cX11_put 39 = .ok (.aload_n 0, 1) := by decide +kernel
theorem dX11_put_40 : decode cX11_put 40 = .ok (.getfield 16, 3) := by decide +kernel
theorem dX11_put_43 : decode cX11_put 43 = .ok (.bipush 60, 2) := by decide +kernel
theorem dX11_put_45 : decode cX11_put 45 = .ok (.iload_n 1, 1) := by decide +kernel
theorem dX11_put_46 : decode cX11_put 46 = .ok (.imul, 1) := by decide +kernel
theorem dX11_put_47 : decode cX11_put 47 = .ok (.iload_n 3, 1) := by decide +kernel
theorem dX11_put_48 : decode cX11_put 48 = .ok (.iadd, 1) := by decide +kernel
theorem dX11_put_49 : decode cX11_put 49 = .ok (.iload_n 2, 1) := by decide +kernel
theorem dX11_put_50 : decode cX11_put 50 = .ok (.iload 4, 2) := by decide +kernel
theorem dX11_put_52 : decode cX11_put 52 = .ok (.invokestatic 85, 3) := by decide +kernel
theorem dX11_put_55 : decode cX11_put 55 = .ok (.iastore, 1) := by decide +kernel
theorem dX11_put_56 : decode cX11_put 56 = .ok (.iconst 1, 1) := by decide +kernel
theorem dX11_put_57 : decode cX11_put 57 = .ok (.ireturn, 1) := by decide +kernel
theorem dX11_get_0 : decode cX11_get 0 = .ok (.iload_n 1, 1) := by decide +kernel
theorem dX11_get_1 : decode cX11_get 1 = .ok (.invokestatic 71, 3) := by decide +kernel
theorem dX11_get_4 : decode cX11_get 4 = .ok (.ifCond .eq 25, 3) := by decide +kernel
theorem dX11_get_7 : decode cX11_get 7 = .ok (.iload_n 2, 1) := by decide +kernel
theorem dX11_get_8 : decode cX11_get 8 = .ok (.i2l, 1) := by decide +kernel
theorem dX11_get_9 : decode cX11_get 9 = .ok (.lconst 0, 1) := by decide +kernel
theorem dX11_get_10 : decode cX11_get 10 = .ok (.ldc2_w 75, 3) := by decide +kernel
theorem dX11_get_13 : decode cX11_get 13 = .ok (.invokestatic 61, 3) := by decide +kernel
theorem dX11_get_16 : decode cX11_get 16 = .ok (.ifCond .eq 13, 3) := by decide +kernel
theorem dX11_get_19 : decode cX11_get 19 = .ok (.aload_n 0, 1) := by decide +kernel
theorem dX11_get_20 : decode cX11_get 20 = .ok (.iload_n 1, 1) := by decide +kernel
theorem dX11_get_21 : decode cX11_get 21 = .ok (.iload_n 2, 1) := by decide +kernel
theorem dX11_get_22 : decode cX11_get 22 = .ok (.iload_n 3, 1) := by decide +kernel
theorem dX11_get_23 : decode cX11_get 23 = .ok (.invokevirtual 81, 3) := by decide +kernel
theorem dX11_get_26 : decode cX11_get 26 = .ok (.ifCond .eq 6, 3) := by decide +kernel
theorem dX11_get_29 : decode cX11_get 29 = .ok (.ldc 89, 2) := by decide +kernel
theorem dX11_get_31 : decode cX11_get 31 = .ok (.ireturn, 1) := by decide +kernel
theorem dX11_get_32 : decode cX11_get 32 = .ok (.aload_n 0, 1) := by decide +kernel
theorem dX11_get_33 : decode cX11_get 33 = .ok (.getfield 16, 3) := by decide +kernel
theorem dX11_get_36 : decode cX11_get 36 = .ok (.bipush 60, 2) := by decide +kernel
theorem dX11_get_38 : decode cX11_get 38 = .ok (.iload_n 1, 1) := by decide +kernel
theorem dX11_get_39 : decode cX11_get 39 = .ok (.imul, 1) := by decide +kernel
theorem dX11_get_40 : decode cX11_get 40 = .ok (.iload_n 3, 1) := by decide +kernel
theorem dX11_get_41 : decode cX11_get 41 = .ok (.iadd, 1) := by decide +kernel
theorem dX11_get_42 : decode cX11_get 42 = .ok (.iaload, 1) := by decide +kernel
theorem dX11_get_43 : decode cX11_get 43 = .ok (.ireturn, 1) := by decide +kernel
theorem dX11_copy_0 : decode cX11_copy 0 = .ok (.iload_n 1, 1) := by decide +kernel
theorem dX11_copy_1 : decode cX11_copy 1 = .ok (.invokestatic 71, 3) := by decide +kernel
theorem dX11_copy_4 : decode cX11_copy 4 = .ok (.ifCond .eq 10, 3) := by decide +kernel
theorem dX11_copy_7 : decode cX11_copy 7 = .ok (.iload_n 3, 1) := by decide +kernel
theorem dX11_copy_8 : decode cX11_copy 8 = .ok (.invokestatic 71, 3) := by decide +kernel
theorem dX11_copy_11 : decode cX11_copy 11 = .ok (.ifCond .ne 6, 3) := by decide +kernel
theorem dX11_copy_14 : decode cX11_copy 14 = .ok (.bipush (-2), 2) := by decide +kernel
theorem dX11_copy_16 : decode cX11_copy 16 = .ok (.ireturn, 1) := by decide +kernel
theorem dX11_copy_17 : decode cX11_copy 17 = .ok (.aload_n 0, 1) := by decide +kernel
theorem dX11_copy_18 : decode cX11_copy 18 = .ok (.getfield 7, 3) := by decide +kernel
theorem dX11_copy_21 : decode cX11_copy 21 = .ok (.iload_n 1, 1) := by decide +kernel
theorem dX11_copy_22 : decode cX11_copy 22 = .ok (.iaload, 1) := by decide +kernel
theorem dX11_copy_23 : decode cX11_copy 23 = .ok (.ifCond .lt 12, 3) := by decide +kernel
theorem dX11_copy_26 : decode cX11_copy 26 = .ok (.aload_n 0, 1) := by decide +kernel
theorem dX11_copy_27 : decode cX11_copy 27 = .ok (.getfield 7, 3) := by decide +kernel
theorem dX11_copy_30 : decode cX11_copy 30 = .ok (.iload_n 3, 1) := by decide +kernel
theorem dX11_copy_31 : decode cX11_copy 31 = .ok (.iaload, 1) := by decide +kernel
theorem dX11_copy_32 : decode cX11_copy 32 = .ok (.ifCond .ge 9, 3) := by decide +kernel
theorem dX11_copy_35 : decode cX11_copy 35 = .ok (.aload_n 0, 1) := by decide +kernel
theorem dX11_copy_36 : decode cX11_copy 36 = .ok (.iconst 1, 1) := by decide +kernel
theorem dX11_copy_37 : decode cX11_copy 37 = .ok (.invokevirtual 77, 3) := by decide +kernel
theorem dX11_copy_40 : decode cX11_copy 40 = .ok (.ireturn, 1) := by decide +kernel
theorem dX11_copy_41 : decode cX11_copy 41 = .ok (.aload_n 0, 1) := by decide +kernel
theorem dX11_copy_42 : decode cX11_copy 42 = .ok (.getfield 7, 3) := by decide +kernel
theorem dX11_copy_45 : decode cX11_copy 45 = .ok (.iload_n 1, 1) := by decide +kernel
theorem dX11_copy_46 : decode cX11_copy 46 = .ok (.iaload, 1) := by decide +kernel
theorem dX11_copy_47 : decode cX11_copy 47 = .ok (.aload_n 0, 1) := by decide +kernel
theorem dX11_copy_48 : decode cX11_copy 48 = .ok (.getfield 7, 3) := by decide +kernel
theorem dX11_copy_51 : decode cX11_copy 51 = .ok (.iload_n 3, 1) := by decide +kernel
theorem dX11_copy_52 : decode cX11_copy 52 = .ok (.iaload, 1) := by decide +kernel
theorem dX11_copy_53 : decode cX11_copy 53 = .ok (.if_icmp .eq 9, 3) := by decide +kernel
theorem dX11_copy_56 : decode cX11_copy 56 = .ok (.aload_n 0, 1) := by decide +kernel
theorem dX11_copy_57 : decode cX11_copy 57 = .ok (.iconst 4, 1) := by decide +kernel
theorem dX11_copy_58 : decode cX11_copy 58 = .ok (.invokevirtual 77, 3) := by decide +kernel
theorem dX11_copy_61 : decode cX11_copy 61 = .ok (.ireturn, 1) := by decide +kernel
theorem dX11_copy_62 : decode cX11_copy 62 = .ok (.iload_n 2, 1) := by decide +kernel
theorem dX11_copy_63 : decode cX11_copy 63 = .ok (.ifCond .lt 48, 3) := by decide +kernel
theorem dX11_copy_66 : decode cX11_copy 66 = .ok (.iload 4, 2) := by decide +kernel
theorem dX11_copy_68 : decode cX11_copy 68 = .ok (.ifCond .lt 43, 3) := by decide +kernel
theorem dX11_copy_71 : decode cX11_copy 71 = .ok (.iload 5, 2) := by decide +kernel
theorem dX11_copy_73 : decode cX11_copy 73 = .ok (.ifCond .lt 38, 3) := by decide +kernel
theorem dX11_copy_76 : decode cX11_copy 76 = .ok (.iload_n 2, 1) := by decide +kernel
theorem dX11_copy_77 : decode cX11_copy 77 = .ok (.i2l, 1) := by decide +kernel
theorem dX11_copy_78 : decode cX11_copy 78 = .ok (.iload 5, 2) := by decide +kernel
theorem dX11_copy_80 : decode cX11_copy 80 = .ok (.i2l, 1) := by decide +kernel
theorem dX11_copy_81 : decode cX11_copy 81 = .ok (.ladd, 1) := by decide +kernel
theorem dX11_copy_82 : decode cX11_copy 82 = .ok (.aload_n 0, 1) := by decide +kernel
theorem dX11_copy_83 : decode cX11_copy 83 = .ok (.getfield 13, 3) := by decide +kernel
theorem dX11_copy_86 : decode cX11_copy 86 = .ok (.iload_n 1, 1) := by decide +kernel
theorem dX11_copy_87 : decode cX11_copy 87 = .ok (.iaload, 1) := by decide +kernel
theorem dX11_copy_88 : decode cX11_copy 88 = .ok (.i2l, 1) := by decide +kernel
theorem dX11_copy_89 : decode cX11_copy 89 = .ok (.lcmp, 1) := by decide +kernel
theorem dX11_copy_90 : decode cX11_copy 90 = .ok (.ifCond .gt 21, 3) := by decide +kernel
theorem dX11_copy_93 : decode cX11_copy 93 = .ok (.iload 4, 2) := by decide +kernel
theorem dX11_copy_95 : decode cX11_copy 95 = .ok (.i2l, 1) := by decide +kernel
theorem dX11_copy_96 : decode cX11_copy 96 = .ok (.iload 5, 2) := by decide +kernel
theorem dX11_copy_98 : decode cX11_copy 98 = .ok (.i2l, 1) := by decide +kernel
theorem dX11_copy_99 : decode cX11_copy 99 = .ok (.ladd, 1) := by decide +kernel
theorem dX11_copy_100 : decode cX11_copy 100 = .ok (.aload_n 0, 1) := by decide +kernel
theorem dX11_copy_101 : decode cX11_copy 101 = .ok (.getfield 13, 3) := by decide +kernel
theorem dX11_copy_104 : decode cX11_copy 104 = .ok (.iload_n 3, 1) := by decide +kernel
theorem dX11_copy_105 : decode cX11_copy 105 = .ok (.iaload, 1) := by decide +kernel
theorem dX11_copy_106 : decode cX11_copy 106 = .ok (.i2l, 1) := by decide +kernel
theorem dX11_copy_107 : decode cX11_copy 107 = .ok (.lcmp, 1) := by decide +kernel
theorem dX11_copy_108 : decode cX11_copy 108 = .ok (.ifCond .le 9, 3) := by decide +kernel
theorem dX11_copy_111 : decode cX11_copy 111 = .ok (.aload_n 0, 1) := by decide +kernel
theorem dX11_copy_112 : decode cX11_copy 112 = .ok (.iconst 2, 1) := by decide +kernel
theorem dX11_copy_113 : decode cX11_copy 113 = .ok (.invokevirtual 77, 3) := by decide +kernel
theorem dX11_copy_116 : decode cX11_copy 116 = .ok (.ireturn, 1) := by decide +kernel
theorem dX11_copy_117 : decode cX11_copy 117 = .ok (.iconst 0, 1) := by decide +kernel
theorem dX11_copy_118 : decode cX11_copy 118 = .ok (.istore 6, 2) := by decide +kernel
theorem dX11_copy_120 : decode cX11_copy 120 = .ok (.iload 6, 2) := by decide +kernel
theorem dX11_copy_122 : decode cX11_copy 122 = .ok (.iload 5, 2) := by decide +kernel
theorem dX11_copy_124 : decode cX11_copy 124 = .ok (.if_icmp .ge 30, 3) := by decide +kernel
theorem dX11_copy_127 : decode cX11_copy 127 = .ok (.aload_n 0, 1) := by decide +kernel
theorem dX11_copy_128 : decode cX11_copy 128 = .ok (.getfield 19, 3) := by decide +kernel
theorem dX11_copy_131 : decode cX11_copy 131 = .ok (.iload 6, 2) := by decide +kernel
theorem dX11_copy_133 : decode cX11_copy 133 = .ok (.aload_n 0, 1) := by decide +kernel
theorem dX11_copy_134 : decode cX11_copy 134 = .ok (.getfield 16, 3) := by decide +kernel
theorem dX11_copy_137 : decode cX11_copy 137 = .ok (.bipush 60, 2) := by decide +kernel
theorem dX11_copy_139 : decode cX11_copy 139 = .ok (.iload_n 1, 1) := by decide +kernel
theorem dX11_copy_140 : decode cX11_copy 140 = .ok (.imul, 1) := by decide +kernel
theorem dX11_copy_141 : decode cX11_copy 141 = .ok (.iload_n 2, 1) := by decide +kernel
theorem dX11_copy_142 : decode cX11_copy 142 = .ok (.iadd, 1) := by decide +kernel
theorem dX11_copy_143 : decode cX11_copy 143 = .ok (.iload 6, 2) := by decide +kernel
theorem dX11_copy_145 : decode cX11_copy 145 = .ok (.iadd, 1) := by decide +kernel
theorem dX11_copy_146 : decode cX11_copy 146 = .ok (.iaload, 1) := by decide +kernel
theorem dX11_copy_147 : decode cX11_copy 147 = .ok (.iastore, 1) := by decide +kernel
theorem dX11_copy_148 : decode cX11_copy 148 = .ok (.iinc 6 1, 3) := by decide +kernel
theorem dX11_copy_151 : decode cX11_copy 151 = .ok (.goto (-31), 3) := by decide +kernel
theorem dX11_copy_154 : decode cX11_copy 154 = .ok (.iconst 0, 1) := by decide +kernel
theorem dX11_copy_155 : decode cX11_copy 155 = .ok (.istore 6, 2) := by decide +kernel
theorem dX11_copy_157 : decode cX11_copy 157 = .ok (.iload 6, 2) := by decide +kernel
theorem dX11_copy_159 : decode cX11_copy 159 = .ok (.iload 5, 2) := by decide +kernel
theorem dX11_copy_161 : decode cX11_copy 161 = .ok (.if_icmp .ge 31, 3) := by decide +kernel
theorem dX11_copy_164 : decode cX11_copy 164 = .ok (.aload_n 0, 1) := by decide +kernel
theorem dX11_copy_165 : decode cX11_copy 165 = .ok (.getfield 16, 3) := by decide +kernel
