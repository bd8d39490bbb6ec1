theorem dX11_ways_28 : decode cX11_ways 28 = .ok (.aload_n 0, 1) := by decide +kernel
theorem dX11_ways_29 : decode cX11_ways 29 = .ok (.getfield 65, 3) := by decide +kernel
theorem dX11_ways_32 : decode cX11_ways 32 = .ok (.aload_n 0, 1) := by decide +kernel
theorem dX11_ways_33 : decode cX11_ways 33 = .ok (.invokevirtual 259, 3) := by decide +kernel
theorem dX11_ways_36 : decode cX11_ways 36 = .ok (.iload_n 1, 1) := by decide +kernel
theorem dX11_ways_37 : decode cX11_ways 37 = .ok (.iload_n 2, 1) := by decide +kernel
theorem dX11_ways_38 : decode cX11_ways 38 = .ok (.invokevirtual 271, 3) := by decide +kernel
theorem dX11_ways_41 : decode cX11_ways 41 = .ok (.lreturn, 1) := by decide +kernel
theorem dX11_drawn_0 : decode cX11_drawn 0 = .ok (.aload_n 0, 1) := by decide +kernel
theorem dX11_drawn_1 : decode cX11_drawn 1 = .ok (.getfield 26, 3) := by decide +kernel
theorem dX11_drawn_4 : decode cX11_drawn 4 = .ok (.invokevirtual 89, 3) := by decide +kernel
theorem dX11_drawn_7 : decode cX11_drawn 7 = .ok (.ifCond .eq 14, 3) := by decide +kernel
theorem dX11_drawn_10 : decode cX11_drawn 10 = .ok (.iload_n 1, 1) := by decide +kernel
theorem dX11_drawn_11 : decode cX11_drawn 11 = .ok (.ifCond .lt 10, 3) := by decide +kernel
theorem dX11_drawn_14 : decode cX11_drawn 14 = .ok (.iload_n 1, 1) := by decide +kernel
theorem dX11_drawn_15 : decode cX11_drawn 15 = .ok (.ldc_w 274, 3) := by decide +kernel
theorem dX11_drawn_18 : decode cX11_drawn 18 = .ok (.if_icmp .lt 7, 3) := by decide +kernel
theorem dX11_drawn_21 : decode cX11_drawn 21 = .ok (.ldc2_w 152, 3) := by decide +kernel
theorem dX11_drawn_24 : decode cX11_drawn 24 = .ok (.lreturn, 1) := by decide +kernel
theorem dX11_drawn_25 : decode cX11_drawn 25 = .ok (.aload_n 0, 1) := by decide +kernel
theorem dX11_drawn_26 : decode cX11_drawn 26 = .ok (.getfield 47, 3) := by decide +kernel
theorem dX11_drawn_29 : decode cX11_drawn 29 = .ok (.invokevirtual 148, 3) := by decide +kernel
theorem dX11_drawn_32 : decode cX11_drawn 32 = .ok (.lstore_n 2, 1) := by decide +kernel
theorem dX11_drawn_33 : decode cX11_drawn 33 = .ok (.lload_n 2, 1) := by decide +kernel
theorem dX11_drawn_34 : decode cX11_drawn 34 = .ok (.lconst 0, 1) := by decide +kernel
theorem dX11_drawn_35 : decode cX11_drawn 35 = .ok (.lcmp, 1) := by decide +kernel
theorem dX11_drawn_36 : decode cX11_drawn 36 = .ok (.ifCond .le 15, 3) := by decide +kernel
theorem dX11_drawn_39 : decode cX11_drawn 39 = .ok (.iload_n 1, 1) := by decide +kernel
theorem dX11_drawn_40 : decode cX11_drawn 40 = .ok (.i2l, 1) := by decide +kernel
theorem dX11_drawn_41 : decode cX11_drawn 41 = .ok (.aload_n 0, 1) := by decide +kernel
theorem dX11_drawn_42 : decode cX11_drawn 42 = .ok (.invokevirtual 275, 3) := by decide +kernel
theorem dX11_drawn_45 : decode cX11_drawn 45 = .ok (.lload_n 2, 1) := by decide +kernel
theorem dX11_drawn_46 : decode cX11_drawn 46 = .ok (.lmul, 1) := by decide +kernel
theorem dX11_drawn_47 : decode cX11_drawn 47 = .ok (.lcmp, 1) := by decide +kernel
theorem dX11_drawn_48 : decode cX11_drawn 48 = .ok (.ifCond .lt 7, 3) := by decide +kernel
theorem dX11_drawn_51 : decode cX11_drawn 51 = .ok (.ldc2_w 278, 3) := by decide +kernel
theorem dX11_drawn_54 : decode cX11_drawn 54 = .ok (.lreturn, 1) := by decide +kernel
theorem dX11_drawn_55 : decode cX11_drawn 55 = .ok (.iload_n 1, 1) := by decide +kernel
theorem dX11_drawn_56 : decode cX11_drawn 56 = .ok (.i2l, 1) := by decide +kernel
theorem dX11_drawn_57 : decode cX11_drawn 57 = .ok (.lload_n 2, 1) := by decide +kernel
theorem dX11_drawn_58 : decode cX11_drawn 58 = .ok (.lrem, 1) := by decide +kernel
theorem dX11_drawn_59 : decode cX11_drawn 59 = .ok (.lreturn, 1) := by decide +kernel
theorem dX11_evenly_0 : decode cX11_evenly 0 = .ok (.aload_n 0, 1) := by decide +kernel
theorem dX11_evenly_1 : decode cX11_evenly 1 = .ok (.getfield 26, 3) := by decide +kernel
theorem dX11_evenly_4 : decode cX11_evenly 4 = .ok (.invokevirtual 89, 3) := by decide +kernel
theorem dX11_evenly_7 : decode cX11_evenly 7 = .ok (.ifCond .eq 11, 3) := by decide +kernel
theorem dX11_evenly_10 : decode cX11_evenly 10 = .ok (.aload_n 0, 1) := by decide +kernel
theorem dX11_evenly_11 : decode cX11_evenly 11 = .ok (.invokevirtual 275, 3) := by decide +kernel
theorem dX11_evenly_14 : decode cX11_evenly 14 = .ok (.l2i, 1) := by decide +kernel
theorem dX11_evenly_15 : decode cX11_evenly 15 = .ok (.goto 5, 3) := by decide +kernel
theorem dX11_evenly_18 : decode cX11_evenly 18 = .ok (.bipush (-2), 2) := by decide +kernel
theorem dX11_evenly_20 : decode cX11_evenly 20 = .ok (.ireturn, 1) := by decide +kernel
theorem dX11_swap_0 : decode cX11_swap 0 = .ok (.aload_n 0, 1) := by decide +kernel
theorem dX11_swap_1 : decode cX11_swap 1 = .ok (.getfield 26, 3) := by decide +kernel
theorem dX11_swap_4 : decode cX11_swap 4 = .ok (.iload_n 1, 1) := by decide +kernel
theorem dX11_swap_5 : decode cX11_swap 5 = .ok (.iload_n 3, 1) := by decide +kernel
theorem dX11_swap_6 : decode cX11_swap 6 = .ok (.invokevirtual 131, 3) := by decide +kernel
theorem dX11_swap_9 : decode cX11_swap 9 = .ok (.ifCond .eq 27, 3) := by decide +kernel
theorem dX11_swap_12 : decode cX11_swap 12 = .ok (.aload_n 0, 1) := by decide +kernel
theorem dX11_swap_13 : decode cX11_swap 13 = .ok (.getfield 26, 3) := by decide +kernel
theorem dX11_swap_16 : decode cX11_swap 16 = .ok (.iload_n 2, 1) := by decide +kernel
theorem dX11_swap_17 : decode cX11_swap 17 = .ok (.iload 4, 2) := by decide +kernel
theorem dX11_swap_19 : decode cX11_swap 19 = .ok (.invokevirtual 131, 3) := by decide +kernel
theorem dX11_swap_22 : decode cX11_swap 22 = .ok (.ifCond .eq 14, 3) := by decide +kernel
theorem dX11_swap_25 : decode cX11_swap 25 = .ok (.iload_n 1, 1) := by decide +kernel
theorem dX11_swap_26 : decode cX11_swap 26 = .ok (.iload_n 2, 1) := by decide +kernel
theorem dX11_swap_27 : decode cX11_swap 27 = .ok (.if_icmp .eq 9, 3) := by decide +kernel
theorem dX11_swap_30 : decode cX11_swap 30 = .ok (.iload_n 3, 1) := by decide +kernel
theorem dX11_swap_31 : decode cX11_swap 31 = .ok (.iload 4, 2) := by decide +kernel
theorem dX11_swap_33 : decode cX11_swap 33 = .ok (.if_icmp .ne 6, 3) := by decide +kernel
theorem dX11_swap_36 : decode cX11_swap 36 = .ok (.bipush (-2), 2) := by decide +kernel
theorem dX11_swap_38 : decode cX11_swap 38 = .ok (.ireturn, 1) := by decide +kernel
theorem dX11_swap_39 : decode cX11_swap 39 = .ok (.aload_n 0, 1) := by decide +kernel
theorem dX11_swap_40 : decode cX11_swap 40 = .ok (.getfield 26, 3) := by decide +kernel
theorem dX11_swap_43 : decode cX11_swap 43 = .ok (.invokevirtual 280, 3) := by decide +kernel
theorem dX11_swap_46 : decode cX11_swap 46 = .ok (.ifCond .ne 18, 3) := by decide +kernel
theorem dX11_swap_49 : decode cX11_swap 49 = .ok (.aload_n 0, 1) := by decide +kernel
theorem dX11_swap_50 : decode cX11_swap 50 = .ok (.getfield 26, 3) := by decide +kernel
theorem dX11_swap_53 : decode cX11_swap 53 = .ok (.iload_n 1, 1) := by decide +kernel
theorem dX11_swap_54 : decode cX11_swap 54 = .ok (.iload_n 2, 1) := by decide +kernel
theorem dX11_swap_55 : decode cX11_swap 55 = .ok (.iload_n 3, 1) := by decide +kernel
theorem dX11_swap_56 : decode cX11_swap 56 = .ok (.iload 4, 2) := by decide +kernel
theorem dX11_swap_58 : decode cX11_swap 58 = .ok (.invokevirtual 283, 3) := by decide +kernel
theorem dX11_swap_61 : decode cX11_swap 61 = .ok (.ifCond .ne 6, 3) := by decide +kernel
theorem dX11_swap_64 : decode cX11_swap 64 = .ok (.bipush (-5), 2) := by decide +kernel
theorem dX11_swap_66 : decode cX11_swap 66 = .ok (.ireturn, 1) := by decide +kernel
theorem dX11_swap_67 : decode cX11_swap 67 = .ok (.aload_n 0, 1) := by decide +kernel
theorem dX11_swap_68 : decode cX11_swap 68 = .ok (.getfield 26, 3) := by decide +kernel
theorem dX11_swap_71 : decode cX11_swap 71 = .ok (.invokevirtual 287, 3) := by decide +kernel
theorem dX11_swap_74 : decode cX11_swap 74 = .ok (.aload_n 0, 1) := by decide +kernel
theorem dX11_swap_75 : decode cX11_swap 75 = .ok (.getfield 26, 3) := by decide +kernel
theorem dX11_swap_78 : decode cX11_swap 78 = .ok (.iload_n 1, 1) := by decide +kernel
theorem dX11_swap_79 : decode cX11_swap 79 = .ok (.iload_n 2, 1) := by decide +kernel
theorem dX11_swap_80 : decode cX11_swap 80 = .ok (.iload_n 3, 1) := by decide +kernel
theorem dX11_swap_81 : decode cX11_swap 81 = .ok (.iload 4, 2) := by decide +kernel
theorem dX11_swap_83 : decode cX11_swap 83 = .ok (.invokevirtual 290, 3) := by decide +kernel
theorem dX11_swap_86 : decode cX11_swap 86 = .ok (.iconst 0, 1) := by decide +kernel
theorem dX11_swap_87 : decode cX11_swap 87 = .ok (.ireturn, 1) := by decide +kernel
theorem dX11_walk_0 : decode cX11_walk 0 = .ok (.aload_n 0, 1) := by decide +kernel
theorem dX11_walk_1 : decode cX11_walk 1 = .ok (.getfield 26, 3) := by decide +kernel
theorem dX11_walk_4 : decode cX11_walk 4 = .ok (.invokevirtual 89, 3) := by decide +kernel
theorem dX11_walk_7 : decode cX11_walk 7 = .ok (.ifCond .eq 26, 3) := by decide +kernel
theorem dX11_walk_10 : decode cX11_walk 10 = .ok (.iload_n 1, 1) := by decide +kernel
theorem dX11_walk_11 : decode cX11_walk 11 = .ok (.iconst 1, 1) := by decide +kernel
theorem dX11_walk_12 : decode cX11_walk 12 = .ok (.if_icmp .lt 21, 3) := by decide +kernel
theorem dX11_walk_15 : decode cX11_walk 15 = .ok (.iload_n 1, 1) := by decide +kernel
theorem dX11_walk_16 : decode cX11_walk 16 = .ok (.sipush 1000, 3) := by decide +kernel
theorem dX11_walk_19 : decode cX11_walk 19 = .ok (.if_icmp .gt 14, 3) := by decide +kernel
theorem dX11_walk_22 : decode cX11_walk 22 = .ok (.iload_n 2, 1) := by decide +kernel
theorem dX11_walk_23 : decode cX11_walk 23 = .ok (.ifCond .lt 10, 3) := by decide +kernel
theorem dX11_walk_26 : decode cX11_walk 26 = .ok (.iload_n 2, 1) := by decide +kernel
theorem dX11_walk_27 : decode cX11_walk 27 = .ok (.ldc_w 294, 3) := by decide +kernel
theorem dX11_walk_30 : decode cX11_walk 30 = .ok (.if_icmp .le 6, 3) := by decide +kernel
theorem dX11_walk_33 : decode cX11_walk 33 = .ok (.bipush (-2), 2) := by decide +kernel
theorem dX11_walk_35 : decode cX11_walk 35 = .ok (.ireturn, 1) := by decide +kernel
theorem dX11_walk_36 : decode cX11_walk 36 = .ok (.aload_n 0, 1) := by decide +kernel
theorem dX11_walk_37 : decode cX11_walk 37 = .ok (.getfield 26, 3) := by decide +kernel
theorem dX11_walk_40 : decode cX11_walk 40 = .ok (.invokevirtual 280, 3) := by decide +kernel
theorem dX11_walk_43 : decode cX11_walk 43 = .ok (.ifCond .eq 6, 3) := by decide +kernel
theorem dX11_walk_46 : decode cX11_walk 46 = .ok (.bipush (-5), 2) := by decide +kernel
theorem dX11_walk_48 : decode cX11_walk 48 = .ok (.ireturn, 1) := by decide +kernel
theorem dX11_walk_49 : decode cX11_walk 49 = .ok (.aload_n 0, 1) := by decide +kernel
theorem dX11_walk_50 : decode cX11_walk 50 = .ok (.getfield 26, 3) := by decide +kernel
theorem dX11_walk_53 : decode cX11_walk 53 = .ok (.invokevirtual 287, 3) := by decide +kernel
theorem dX11_walk_56 : decode cX11_walk 56 = .ok (.aload_n 0, 1) := by decide +kernel
theorem dX11_walk_57 : decode cX11_walk 57 = .ok (.getfield 33, 3) := by decide +kernel
theorem dX11_walk_60 : decode cX11_walk 60 = .ok (.iload_n 2, 1) := by decide +kernel
theorem dX11_walk_61 : decode cX11_walk 61 = .ok (.invokevirtual 295, 3) := by decide +kernel
theorem dX11_walk_64 : decode cX11_walk 64 = .ok (.iconst 0, 1) := by decide +kernel
theorem dX11_walk_65 : decode cX11_walk 65 = .ok (.istore_n 3, 1) := by decide +kernel
theorem dX11_walk_66 : decode cX11_walk 66 = .ok (.iconst 0, 1) := by decide +kernel
theorem dX11_walk_67 : decode cX11_walk 67 = .ok (.istore 4, 2) := by decide +kernel
theorem dX11_walk_69 : decode cX11_walk 69 = .ok (.iload 4, 2) := by decide +kernel
theorem dX11_walk_71 : decode cX11_walk 71 = .ok (.iload_n 1, 1) := by decide +kernel
theorem dX11_walk_72 : decode cX11_walk 72 = .ok (.if_icmp .ge 26, 3) := by decide +kernel
theorem dX11_walk_75 : decode cX11_walk 75 = .ok (.aload_n 0, 1) := by decide +kernel
theorem dX11_walk_76 : decode cX11_walk 76 = .ok (.getfield 26, 3) := by decide +kernel
theorem dX11_walk_79 : decode cX11_walk 79 = .ok (.aload_n 0, 1) := by decide +kernel
theorem dX11_walk_80 : decode cX11_walk 80 = .ok (.getfield 33, 3) := by decide +kernel
theorem dX11_walk_83 : decode cX11_walk 83 = .ok (.invokevirtual 298, 3) := by decide +kernel
theorem dX11_walk_86 : decode cX11_walk 86 = .ok (.ifCond .eq 6, 3) := by decide +kernel
theorem dX11_walk_89 : decode cX11_walk 89 = .ok (.iinc 3 1, 3) := by decide +kernel
theorem dX11_walk_92 : decode cX11_walk 92 = .ok (.iinc 4 1, 3) := by decide +kernel
theorem dX11_walk_95 : decode cX11_walk 95 = .ok (.goto (-26), 3) := by decide +kernel
theorem dX11_walk_98 : decode cX11_walk 98 = .ok (.iload_n 3, 1) := by decide +kernel
theorem dX11_walk_99 : decode cX11_walk 99 = .ok (.ireturn, 1) := by decide +kernel
theorem dX11_undo_0 : decode cX11_undo 0 = .ok (.aload_n 0, 1) := by decide +kernel
theorem dX11_undo_1 : decode cX11_undo 1 = .ok (.getfield 26, 3) := by decide +kernel
theorem dX11_undo_4 : decode cX11_undo 4 = .ok (.invokevirtual 89, 3) := by decide +kernel
theorem dX11_undo_7 : decode cX11_undo 7 = .ok (.ifCond .ne 6, 3) := by decide +kernel
theorem dX11_undo_10 : decode cX11_undo 10 = .ok (.bipush (-2), 2) := by decide +kernel
theorem dX11_undo_12 : decode cX11_undo 12 = .ok (.ireturn, 1) := by decide +kernel
theorem dX11_undo_13 : decode cX11_undo 13 = .ok (.aload_n 0, 1) := by decide +kernel
theorem dX11_undo_14 : decode cX11_undo 14 = .ok (.getfield 26, 3) := by decide +kernel
theorem dX11_undo_17 : decode cX11_undo 17 = .ok (.getfield 128, 3) := by decide +kernel
theorem dX11_undo_20 : decode cX11_undo 20 = .ok (.ifCond .ne 6, 3) := by decide +kernel
theorem dX11_undo_23 : decode cX11_undo 23 = .ok (.bipush (-5), 2) := by decide +kernel
theorem dX11_undo_25 : decode cX11_undo 25 = .ok (.ireturn, 1) := by decide +kernel
theorem dX11_undo_26 : decode cX11_undo 26 = .ok (.aload_n 0, 1) := by decide +kernel
theorem dX11_undo_27 : decode cX11_undo 27 = .ok (.getfield 26, 3) := by decide +kernel
theorem dX11_undo_30 : decode cX11_undo 30 = .ok (.aload_n 0, 1) := by decide +kernel
theorem dX11_undo_31 : decode cX11_undo 31 = .ok (.getfield 26, 3) := by decide +kernel
theorem dX11_undo_34 : decode cX11_undo 34 = .ok (.getfield 128, 3) := by decide +kernel
theorem dX11_undo_37 : decode cX11_undo 37 = .ok (.iconst 1, 1) := by decide +kernel
theorem dX11_undo_38 : decode cX11_undo 38 = .ok (.isub, 1) := by decide +kernel
theorem dX11_undo_39 : decode cX11_undo 39 = .ok (.invokevirtual 302, 3) := by decide +kernel
theorem dX11_undo_42 : decode cX11_undo 42 = .ok (.aload_n 0, 1) := by decide +kernel
theorem dX11_undo_43 : decode cX11_undo 43 = .ok (.getfield 26, 3) := by decide +kernel
theorem dX11_undo_46 : decode cX11_undo 46 = .ok (.getfield 128, 3) := by decide +kernel
theorem dX11_undo_49 : decode cX11_undo 49 = .ok (.ireturn, 1) := by decide +kernel
theorem dX11_anew_0 : decode cX11_anew 0 = .ok (.aload_n 0, 1) := by decide +kernel
theorem dX11_anew_1 : decode cX11_anew 1 = .ok (.getfield 26, 3) := by decide +kernel
theorem dX11_anew_4 : decode cX11_anew 4 = .ok (.invokevirtual 89, 3) := by decide +kernel
theorem dX11_anew_7 : decode cX11_anew 7 = .ok (.ifCond .ne 6, 3) := by decide +kernel
theorem dX11_anew_10 : decode cX11_anew 10 = .ok (.bipush (-2), 2) := by decide +kernel
theorem dX11_anew_12 : decode cX11_anew 12 = .ok (.ireturn, 1) := by decide +kernel
theorem dX11_anew_13 : decode cX11_anew 13 = .ok (.aload_n 0, 1) := by decide +kernel
theorem dX11_anew_14 : decode cX11_anew 14 = .ok (.getfield 26, 3) := by decide +kernel
theorem dX11_anew_17 : decode cX11_anew 17 = .ok (.getfield 128, 3) := by decide +kernel
theorem dX11_anew_20 : decode cX11_anew 20 = .ok (.istore_n 1, 1) := by decide +kernel
theorem dX11_anew_21 : decode cX11_anew 21 = .ok (.aload_n 0, 1) := by decide +kernel
theorem dX11_anew_22 : decode cX11_anew 22 = .ok (.getfield 26, 3) := by decide +kernel
theorem dX11_anew_25 : decode cX11_anew 25 = .ok (.iconst 0, 1) := by decide +kernel
theorem dX11_anew_26 : decode cX11_anew 26 = .ok (.invokevirtual 302, 3) := by decide +kernel
theorem dX11_anew_29 : decode cX11_anew 29 = .ok (.iload_n 1, 1) := by decide +kernel
theorem dX11_anew_30 : decode cX11_anew 30 = .ok (.ireturn, 1) := by decide +kernel
theorem dX11_hasStatistic_0 : decode cX11_hasStatistic 0 = .ok (.aload_n 0, 1) := by decide +kernel
theorem dX11_hasStatistic_1 : decode cX11_hasStatistic 1 = .ok (.getfield 26, 3) := by decide +kernel
theorem dX11_hasStatistic_4 : decode cX11_hasStatistic 4 = .ok (.invokevirtual 89, 3) := by decide +kernel
theorem dX11_hasStatistic_7 : decode cX11_hasStatistic 7 = .ok (.ifCond .eq 16, 3) := by decide +kernel
theorem dX11_hasStatistic_10 : decode cX11_hasStatistic 10 = .ok (.iload_n 1, 1) := by decide +kernel
theorem dX11_hasStatistic_11 : decode cX11_hasStatistic 11 = .ok (.ifCond .lt 12, 3) := by decide +kernel
theorem dX11_hasStatistic_14 : decode cX11_hasStatistic 14 = .ok (.iload_n 1, 1) := by decide +kernel
theorem dX11_hasStatistic_15 : decode cX11_hasStatistic 15 = .ok (.iconst 4, 1) := by decide +kernel
theorem dX11_hasStatistic_16 : decode cX11_hasStatistic 16 = .ok (.if_icmp .ge 7, 3) := by decide +kernel
theorem dX11_hasStatistic_19 : decode cX11_hasStatistic 19 = .ok (.iconst 1, 1) := by decide +kernel
theorem dX11_hasStatistic_20 : decode cX11_hasStatistic 20 = .ok (.goto 4, 3) := by decide +kernel
theorem dX11_hasStatistic_23 : decode cX11_hasStatistic 23 = .ok (.iconst 0, 1) := by decide +kernel
theorem dX11_hasStatistic_24 : decode cX11_hasStatistic 24 = .ok (.ireturn, 1) := by decide +kernel
theorem dX11_evenWords_0 : decode cX11_evenWords 0 = .ok (.ldc2_w 305, 3) := by decide +kernel
theorem dX11_evenWords_3 : decode cX11_evenWords 3 = .ok (.aload_n 0, 1) := by decide +kernel
theorem dX11_evenWords_4 : decode cX11_evenWords 4 = .ok (.getfield 47, 3) := by decide +kernel
theorem dX11_evenWords_7 : decode cX11_evenWords 7 = .ok (.invokevirtual 148, 3) := by decide +kernel
theorem dX11_evenWords_10 : decode cX11_evenWords 10 = .ok (.invokestatic 307, 3) := by decide +kernel
theorem dX11_evenWords_13 : decode cX11_evenWords 13 = .ok (.lreturn, 1) := by decide +kernel
theorem dX11_rankNow_0 : decode cX11_rankNow 0 = .ok (.aload_n 0, 1) := by decide +kernel
theorem dX11_rankNow_1 : decode cX11_rankNow 1 = .ok (.getfield 47, 3) := by decide +kernel
theorem dX11_rankNow_4 : decode cX11_rankNow 4 = .ok (.aload_n 0, 1) := by decide +kernel
theorem dX11_rankNow_5 : decode cX11_rankNow 5 = .ok (.getfield 26, 3) := by decide +kernel
theorem dX11_rankNow_8 : decode cX11_rankNow 8 = .ok (.getfield 154, 3) := by decide +kernel
theorem dX11_rankNow_11 : decode cX11_rankNow 11 = .ok (.invokevirtual 158, 3) := by decide +kernel
theorem dX11_rankNow_14 : decode cX11_rankNow 14 = .ok (.l2i, 1) := by decide +kernel
theorem dX11_rankNow_15 : decode cX11_rankNow 15 = .ok (.ireturn, 1) := by decide +kernel
theorem dX11_refusalOfList_0 : decode cX11_refusalOfList 0 = .ok (.aload_n 0, 1) := by decide +kernel
theorem dX11_refusalOfList_1 : decode cX11_refusalOfList 1 = .ok (.getfield 26, 3) := by decide +kernel
theorem dX11_refusalOfList_4 : decode cX11_refusalOfList 4 = .ok (.invokevirtual 89, 3) := by decide +kernel
theorem dX11_refusalOfList_7 : decode cX11_refusalOfList 7 = .ok (.ifCond .ne 6, 3) := by decide +kernel
theorem dX11_refusalOfList_10 : decode cX11_refusalOfList 10 = .ok (.bipush (-2), 2) := by decide +kernel
theorem dX11_refusalOfList_12 : decode cX11_refusalOfList 12 = .ok (.ireturn, 1) := by decide +kernel
theorem dX11_refusalOfList_13 : decode cX11_refusalOfList 13 = .ok (.aload_n 0, 1) := by decide +kernel
theorem dX11_refusalOfList_14 : decode cX11_refusalOfList 14 = .ok (.getfield 47, 3) := by decide +kernel
theorem dX11_refusalOfList_17 : decode cX11_refusalOfList 17 = .ok (.invokevirtual 148, 3) := by decide +kernel
theorem dX11_refusalOfList_20 : decode cX11_refusalOfList 20 = .ok (.ldc2_w 311, 3) := by decide +kernel
theorem dX11_refusalOfList_23 : decode cX11_refusalOfList 23 = .ok (.lcmp, 1) := by decide +kernel
theorem dX11_refusalOfList_24 : decode cX11_refusalOfList 24 = .ok (.ifCond .le 6, 3) := by decide +kernel
theorem dX11_refusalOfList_27 : decode cX11_refusalOfList 27 = .ok (.bipush (-3), 2) := by decide +kernel
theorem dX11_refusalOfList_29 : decode cX11_refusalOfList 29 = .ok (.ireturn, 1) := by decide +kernel
theorem dX11_refusalOfList_30 : decode cX11_refusalOfList 30 = .ok (.aload_n 0, 1) := by decide +kernel
theorem dX11_refusalOfList_31 : decode cX11_refusalOfList 31 = .ok (.getfield 65, 3) := by decide +kernel
theorem dX11_refusalOfList_34 : decode cX11_refusalOfList 34 = .ok (.invokevirtual 313, 3) := by decide +kernel
theorem dX11_refusalOfList_37 : decode cX11_refusalOfList 37 = .ok (.iconst 0, 1) := by decide +kernel
theorem dX11_refusalOfList_38 : decode cX11_refusalOfList 38 = .ok (.ireturn, 1) := by decide +kernel
theorem dX11_refusalOfRank_0 : decode cX11_refusalOfRank 0 = .ok (.aload_n 0, 1) := by decide +kernel
theorem dX11_refusalOfRank_1 : decode cX11_refusalOfRank 1 = .ok (.invokevirtual 237, 3) := by decide +kernel
theorem dX11_refusalOfRank_4 : decode cX11_refusalOfRank 4 = .ok (.istore_n 2, 1) := by decide +kernel
theorem dX11_refusalOfRank_5 : decode cX11_refusalOfRank 5 = .ok (.iload_n 2, 1) := by decide +kernel
theorem dX11_refusalOfRank_6 : decode cX11_refusalOfRank 6 = .ok (.ifCond .eq 5, 3) := by decide +kernel
theorem dX11_refusalOfRank_9 : decode cX11_refusalOfRank 9 = .ok (.iload_n 2, 1) := by decide +kernel
theorem dX11_refusalOfRank_10 : decode cX11_refusalOfRank 10 = .ok (.ireturn, 1) := by decide +kernel
theorem dX11_refusalOfRank_11 : decode cX11_refusalOfRank 11 = .ok (.iload_n 1, 1) := by decide +kernel
theorem dX11_refusalOfRank_12 : decode cX11_refusalOfRank 12 = .ok (.ifCond .lt 16, 3) := by decide +kernel
theorem dX11_refusalOfRank_15 : decode cX11_refusalOfRank 15 = .ok (.iload_n 1, 1) := by decide +kernel
theorem dX11_refusalOfRank_16 : decode cX11_refusalOfRank 16 = .ok (.i2l, 1) := by decide +kernel
theorem dX11_refusalOfRank_17 : decode cX11_refusalOfRank 17 = .ok (.aload_n 0, 1) := by decide +kernel
theorem dX11_refusalOfRank_18 : decode cX11_refusalOfRank 18 = .ok (.getfield 47, 3) := by decide +kernel
theorem dX11_refusalOfRank_21 : decode cX11_refusalOfRank 21 = .ok (.invokevirtual 148, 3) := by decide +kernel
theorem dX11_refusalOfRank_24 : decode cX11_refusalOfRank 24 = .ok (.lcmp, 1) := by decide +kernel
theorem dX11_refusalOfRank_25 : decode cX11_refusalOfRank 25 = .ok (.ifCond .lt 8, 3) := by decide +kernel
theorem dX11_refusalOfRank_28 : decode cX11_refusalOfRank 28 = .ok (.bipush (-2), 2) := by decide +kernel
theorem dX11_refusalOfRank_30 : decode cX11_refusalOfRank 30 = .ok (.goto 4, 3) := by decide +kernel
theorem dX11_refusalOfRank_33 : decode cX11_refusalOfRank 33 = .ok (.iconst 0, 1) := by decide +kernel
theorem dX11_refusalOfRank_34 : decode cX11_refusalOfRank 34 = .ok (.ireturn, 1) := by decide +kernel
theorem dX12_in_0 : decode cX12_in 0 = .ok (.lload_n 0, 1) := by decide +kernel
theorem dX12_in_1 : decode cX12_in 1 = .ok (.lload_n 2, 1) := by decide +kernel
theorem dX12_in_2 : decode cX12_in 2 = .ok (.lcmp, 1) := by decide +kernel
theorem dX12_in_3 : decode cX12_in 3 = .ok (.ifCond .lt 14, 3) := by decide +kernel
theorem dX12_in_6 : decode cX12_in 6 = .ok (.lload_n 0, 1) := by decide +kernel
theorem dX12_in_7 : decode cX12_in 7 = .ok (.lload 4, 2) := by decide +kernel
theorem dX12_in_9 : decode cX12_in 9 = .ok (.lcmp, 1) := by decide +kernel
theorem dX12_in_10 : decode cX12_in 10 = .ok (.ifCond .gt 7, 3) := by decide +kernel
theorem dX12_in_13 : decode cX12_in 13 = .ok (.iconst 1, 1) := by decide +kernel
theorem dX12_in_14 : decode cX12_in 14 = .ok (.goto 4, 3) := by decide +kernel
theorem dX12_in_17 : decode cX12_in 17 = .ok (.iconst 0, 1) := by decide +kernel
theorem dX12_in_18 : decode cX12_in 18 = .ok (.ireturn, 1) := by decide +kernel
theorem dX12_has_0 : decode cX12_has 0 = .ok (.iload_n 0, 1) := by decide +kernel
theorem dX12_has_1 : decode cX12_has 1 = .ok (.iload_n 1, 1) := by decide +kernel
theorem dX12_has_2 : decode cX12_has 2 = .ok (.ishr, 1) := by decide +kernel
theorem dX12_has_3 : decode cX12_has 3 = .ok (.iconst 1, 1) := by decide +kernel
theorem dX12_has_4 : decode cX12_has 4 = .ok (.iand, 1) := by decide +kernel
theorem dX12_has_5 : decode cX12_has 5 = .ok (.iconst 1, 1) := by decide +kernel
theorem dX12_has_6 : decode cX12_has 6 = .ok (.if_icmp .ne 7, 3) := by decide +kernel
theorem dX12_has_9 : decode cX12_has 9 = .ok (.iconst 1, 1) := by decide +kernel
theorem dX12_has_10 : decode cX12_has 10 = .ok (.goto 4, 3) := by decide +kernel
theorem dX12_has_13 : decode cX12_has 13 = .ok (.iconst 0, 1) := by decide +kernel
theorem dX12_has_14 : decode cX12_has 14 = .ok (.ireturn, 1) := by decide +kernel
theorem dX12_bitsOf_0 : decode cX12_bitsOf 0 = .ok (.iconst 0, 1) := by decide +kernel
theorem dX12_bitsOf_1 : decode cX12_bitsOf 1 = .ok (.istore_n 1, 1) := by decide +kernel
theorem dX12_bitsOf_2 : decode cX12_bitsOf 2 = .ok (.iconst 0, 1) := by decide +kernel
theorem dX12_bitsOf_3 : decode cX12_bitsOf 3 = .ok (.istore_n 2, 1) := by decide +kernel
theorem dX12_bitsOf_4 : decode cX12_bitsOf 4 = .ok (.iload_n 2, 1) := by decide +kernel
theorem dX12_bitsOf_5 : decode cX12_bitsOf 5 = .ok (.bipush 16, 2) := by decide +kernel
theorem dX12_bitsOf_7 : decode cX12_bitsOf 7 = .ok (.if_icmp .ge 17, 3) := by decide +kernel
theorem dX12_bitsOf_10 : decode cX12_bitsOf 10 = .ok (.iload_n 1, 1) := by decide +kernel
theorem dX12_bitsOf_11 : decode cX12_bitsOf 11 = .ok (.iload_n 0, 1) := by decide +kernel
theorem dX12_bitsOf_12 : decode cX12_bitsOf 12 = .ok (.iload_n 2, 1) := by decide +kernel
theorem dX12_bitsOf_13 : decode cX12_bitsOf 13 = .ok (.ishr, 1) := by decide +kernel
theorem dX12_bitsOf_14 : decode cX12_bitsOf 14 = .ok (.iconst 1, 1) := by decide +kernel
theorem dX12_bitsOf_15 : decode cX12_bitsOf 15 = .ok (.iand, 1) := by decide +kernel
theorem dX12_bitsOf_16 : decode cX12_bitsOf 16 = .ok (.iadd, 1) := by decide +kernel
theorem dX12_bitsOf_17 : decode cX12_bitsOf 17 = .ok (.istore_n 1, 1) := by decide +kernel
theorem dX12_bitsOf_18 : decode cX12_bitsOf 18 = .ok (.iinc 2 1, 3) := by decide +kernel
theorem dX12_bitsOf_21 : decode cX12_bitsOf 21 = .ok (.goto (-17), 3) := by decide +kernel
theorem dX12_bitsOf_24 : decode cX12_bitsOf 24 = .ok (.iload_n 1, 1) := by decide +kernel
theorem dX12_bitsOf_25 : decode cX12_bitsOf 25 = .ok (.ireturn, 1) := by decide +kernel
theorem dX12_common_0 : decode cX12_common 0 = .ok (.lload_n 0, 1) := by decide +kernel
theorem dX12_common_1 : decode cX12_common 1 = .ok (.lstore 4, 2) := by decide +kernel
theorem dX12_common_3 : decode cX12_common 3 = .ok (.lload_n 2, 1) := by decide +kernel
theorem dX12_common_4 : decode cX12_common 4 = .ok (.lstore 6, 2) := by decide +kernel
theorem dX12_common_6 : decode cX12_common 6 = .ok (.lload 6, 2) := by decide +kernel
theorem dX12_common_8 : decode cX12_common 8 = .ok (.lconst 0, 1) := by decide +kernel
theorem dX12_common_9 : decode cX12_common 9 = .ok (.lcmp, 1) := by decide +kernel
theorem dX12_common_10 : decode cX12_common 10 = .ok (.ifCond .le 21, 3) := by decide +kernel
theorem dX12_common_13 : decode cX12_common 13 = .ok (.lload 4, 2) := by decide +kernel
theorem dX12_common_15 : decode cX12_common 15 = .ok (.lload 6, 2) := by decide +kernel
theorem dX12_common_17 : decode cX12_common 17 = .ok (.lrem, 1) := by decide +kernel
theorem dX12_common_18 : decode cX12_common 18 = .ok (.lstore 8, 2) := by decide +kernel
theorem dX12_common_20 : decode cX12_common 20 = .ok (.lload 6, 2) := by decide +kernel
theorem dX12_common_22 : decode cX12_common 22 = .ok (.lstore 4, 2) := by decide +kernel
theorem dX12_common_24 : decode cX12_common 24 = .ok (.lload 8, 2) := by decide +kernel
theorem dX12_common_26 : decode cX12_common 26 = .ok (.lstore 6, 2) := by decide +kernel
theorem dX12_common_28 : decode cX12_common 28 = .ok (.goto (-22), 3) := by decide +kernel
theorem dX12_common_31 : decode cX12_common 31 = .ok (.lload 4, 2) := by decide +kernel
theorem dX12_common_33 : decode cX12_common 33 = .ok (.lreturn, 1) := by decide +kernel
theorem dX12_init_0 : decode cX12_init 0 = .ok (.aload_n 0, 1) := by decide +kernel
theorem dX12_init_1 : decode cX12_init 1 = .ok (.invokespecial 3, 3) := by decide +kernel
theorem dX12_init_4 : decode cX12_init 4 = .ok (.aload_n 0, 1) := by decide +kernel
theorem dX12_init_5 : decode cX12_init 5 = .ok (.bipush 21, 2) := by decide +kernel
theorem dX12_init_7 : decode cX12_init 7 = .ok (.newarray .int, 2) := by decide +kernel
theorem dX12_init_9 : decode cX12_init 9 = .ok (.putfield 9, 3) := by decide +kernel
theorem dX12_init_12 : decode cX12_init 12 = .ok (.aload_n 0, 1) := by decide +kernel
theorem dX12_init_13 : decode cX12_init 13 = .ok (.bipush 21, 2) := by decide +kernel
theorem dX12_init_15 : decode cX12_init 15 = .ok (.newarray .int, 2) := by decide +kernel
theorem dX12_init_17 : decode cX12_init 17 = .ok (.putfield 13, 3) := by decide +kernel
theorem dX12_init_20 : decode cX12_init 20 = .ok (.aload_n 0, 1) := by decide +kernel
theorem dX12_init_21 : decode cX12_init 21 = .ok (.sipush 320, 3) := by decide +kernel
theorem dX12_init_24 : decode cX12_init 24 = .ok (.newarray .int, 2) := by decide +kernel
theorem dX12_init_26 : decode cX12_init 26 = .ok (.putfield 16, 3) := by decide +kernel
theorem dX12_init_29 : decode cX12_init 29 = .ok (.aload_n 0, 1) := by decide +kernel
theorem dX12_init_30 : decode cX12_init 30 = .ok (.sipush 300, 3) := by decide +kernel
theorem dX12_init_33 : decode cX12_init 33 = .ok (.newarray .int, 2) := by decide +kernel
theorem dX12_init_35 : decode cX12_init 35 = .ok (.putfield 19, 3) := by decide +kernel
theorem dX12_init_38 : decode cX12_init 38 = .ok (.aload_n 0, 1) := by decide +kernel
theorem dX12_init_39 : decode cX12_init 39 = .ok (.iconst (-1), 1) := by decide +kernel
theorem dX12_init_40 : decode cX12_init 40 = .ok (.putfield 22, 3) := by decide +kernel
theorem dX12_init_43 : decode cX12_init 43 = .ok (.aload_n 0, 1) := by decide +kernel
theorem dX12_init_44 : decode cX12_init 44 = .ok (.bipush 16, 2) := by decide +kernel
theorem dX12_init_46 : decode cX12_init 46 = .ok (.newarray .int, 2) := by decide +kernel
theorem dX12_init_48 : decode cX12_init 48 = .ok (.putfield 26, 3) := by decide +kernel
theorem dX12_init_51 : decode cX12_init 51 = .ok (.aload_n 0, 1) := by decide +kernel
theorem dX12_init_52 : decode cX12_init 52 = .ok (.iconst 4, 1) := by decide +kernel
theorem dX12_init_53 : decode cX12_init 53 = .ok (.newarray .int, 2) := by decide +kernel
theorem dX12_init_55 : decode cX12_init 55 = .ok (.putfield 29, 3) := by decide +kernel
theorem dX12_init_58 : decode cX12_init 58 = .ok (.aload_n 0, 1) := by decide +kernel
theorem dX12_init_59 : decode cX12_init 59 = .ok (.iconst 4, 1) := by decide +kernel
theorem dX12_init_60 : decode cX12_init 60 = .ok (.newarray .int, 2) := by decide +kernel
theorem dX12_init_62 : decode cX12_init 62 = .ok (.putfield 32, 3) := by decide +kernel
theorem dX12_init_65 : decode cX12_init 65 = .ok (.aload_n 0, 1) := by decide +kernel
theorem dX12_init_66 : decode cX12_init 66 = .ok (.sipush 336, 3) := by decide +kernel
theorem dX12_init_69 : decode cX12_init 69 = .ok (.newarray .long, 2) := by decide +kernel
theorem dX12_init_71 : decode cX12_init 71 = .ok (.putfield 35, 3) := by decide +kernel
theorem dX12_init_74 : decode cX12_init 74 = .ok (.aload_n 0, 1) := by decide +kernel
theorem dX12_init_75 : decode cX12_init 75 = .ok (.sipush 16000, 3) := by decide +kernel
theorem dX12_init_78 : decode cX12_init 78 = .ok (.newarray .int, 2) := by decide +kernel
theorem dX12_init_80 : decode cX12_init 80 = .ok (.putfield 39, 3) := by decide +kernel
theorem dX12_init_83 : decode cX12_init 83 = .ok (.aload_n 0, 1) := by decide +kernel
theorem dX12_init_84 : decode cX12_init 84 = .ok (.bipush 16, 2) := by decide +kernel
theorem dX12_init_86 : decode cX12_init 86 = .ok (.newarray .int, 2) := by decide +kernel
theorem dX12_init_88 : decode cX12_init 88 = .ok (.putfield 42, 3) := by decide +kernel
theorem dX12_init_91 : decode cX12_init 91 = .ok (.aload_n 0, 1) := by decide +kernel
theorem dX12_init_92 : decode cX12_init 92 = .ok (.sipush 1000, 3) := by decide +kernel
theorem dX12_init_95 : decode cX12_init 95 = .ok (.newarray .int, 2) := by decide +kernel
theorem dX12_init_97 : decode cX12_init 97 = .ok (.putfield 45, 3) := by decide +kernel
theorem dX12_init_100 : decode cX12_init 100 = .ok (.aload_n 0, 1) := by decide +kernel
theorem dX12_init_101 : decode cX12_init 101 = .ok (.sipush 1000, 3) := by decide +kernel
theorem dX12_init_104 : decode cX12_init 104 = .ok (.newarray .int, 2) := by decide +kernel
theorem dX12_init_106 : decode cX12_init 106 = .ok (.putfield 48, 3) := by decide +kernel
theorem dX12_init_109 : decode cX12_init 109 = .ok (.aload_n 0, 1) := by decide +kernel
theorem dX12_init_110 : decode cX12_init 110 = .ok (.sipush 1000, 3) := by decide +kernel
theorem dX12_init_113 : decode cX12_init 113 = .ok (.newarray .long, 2) := by decide +kernel
theorem dX12_init_115 : decode cX12_init 115 = .ok (.putfield 51, 3) := by decide +kernel
theorem dX12_init_118 : decode cX12_init 118 = .ok (.aload_n 0, 1) := by decide +kernel
theorem dX12_init_119 : decode cX12_init 119 = .ok (.sipush 1000, 3) := by decide +kernel
theorem dX12_init_122 : decode cX12_init 122 = .ok (.newarray .long, 2) := by decide +kernel
theorem dX12_init_124 : decode cX12_init 124 = .ok (.putfield 54, 3) := by decide +kernel
theorem dX12_init_127 : decode cX12_init 127 = .ok (.return_, 1) := by decide +kernel
theorem dX12_feed_0 : decode cX12_feed 0 = .ok (.aload_n 0, 1) := by decide +kernel
theorem dX12_feed_1 : decode cX12_feed 1 = .ok (.getfield 57, 3) := by decide +kernel
theorem dX12_feed_4 : decode cX12_feed 4 = .ok (.sipush 280, 3) := by decide +kernel
theorem dX12_feed_7 : decode cX12_feed 7 = .ok (.if_icmp .le 5, 3) := by decide +kernel
theorem dX12_feed_10 : decode cX12_feed 10 = .ok (.iconst (-1), 1) := by decide +kernel
theorem dX12_feed_11 : decode cX12_feed 11 = .ok (.ireturn, 1) := by decide +kernel
theorem dX12_feed_12 : decode cX12_feed 12 = .ok (.iconst 5, 1) := by decide +kernel
theorem dX12_feed_13 : decode cX12_feed 13 = .ok (.newarray .int, 2) := by decide +kernel
theorem dX12_feed_15 : decode cX12_feed 15 = .ok (.dup, 1) := by decide +kernel
theorem dX12_feed_16 : decode cX12_feed 16 = .ok (.iconst 0, 1) := by decide +kernel
theorem dX12_feed_17 : decode cX12_feed 17 = .ok (.iload_n 1, 1) := by decide +kernel
theorem dX12_feed_18 : decode cX12_feed 18 = .ok (.iastore, 1) := by decide +kernel
theorem dX12_feed_19 : decode cX12_feed 19 = .ok (.dup, 1) := by decide +kernel
theorem dX12_feed_20 : decode cX12_feed 20 = .ok (.iconst 1, 1) := by decide +kernel
theorem dX12_feed_21 : decode cX12_feed 21 = .ok (.iload_n 2, 1) := by decide +kernel
theorem dX12_feed_22 : decode cX12_feed 22 = .ok (.iastore, 1) := by decide +kernel
theorem dX12_feed_23 : decode cX12_feed 23 = .ok (.dup, 1) := by decide +kernel
theorem dX12_feed_24 : decode cX12_feed 24 = .ok (.iconst 2, 1) := by decide +kernel
theorem dX12_feed_25 : decode cX12_feed 25 = .ok (.iload_n 3, 1) := by decide +kernel
theorem dX12_feed_26 : decode cX12_feed 26 = .ok (.iastore, 1) := by decide +kernel
theorem dX12_feed_27 : decode cX12_feed 27 = .ok (.dup, 1) := by decide +kernel
theorem dX12_feed_28 : decode cX12_feed 28 = .ok (.iconst 3, 1) := by decide +kernel
theorem dX12_feed_29 : decode cX12_feed 29 = .ok (.iload 4, 2) := by decide +kernel
theorem dX12_feed_31 : decode cX12_feed 31 = .ok (.iastore, 1) := by decide +kernel
theorem dX12_feed_32 : decode cX12_feed 32 = .ok (.dup, 1) := by decide +kernel
theorem dX12_feed_33 : decode cX12_feed 33 = .ok (.iconst 4, 1) := by decide +kernel
theorem dX12_feed_34 : decode cX12_feed 34 = .ok (.iload 5, 2) := by decide +kernel
theorem dX12_feed_36 : decode cX12_feed 36 = .ok (.iastore, 1) := by decide +kernel
theorem dX12_feed_37 : decode cX12_feed 37 = .ok (.astore 6, 2) := by decide +kernel
theorem dX12_feed_39 : decode cX12_feed 39 = .ok (.iconst 0, 1) := by decide +kernel
theorem dX12_feed_40 : decode cX12_feed 40 = .ok (.istore 7, 2) := by decide +kernel
theorem dX12_feed_42 : decode cX12_feed 42 = .ok (.iload 7, 2) := by decide +kernel
theorem dX12_feed_44 : decode cX12_feed 44 = .ok (.bipush 20, 2) := by decide +kernel
theorem dX12_feed_46 : decode cX12_feed 46 = .ok (.if_icmp .ge 43, 3) := by decide +kernel
theorem dX12_feed_49 : decode cX12_feed 49 = .ok (.aload_n 0, 1) := by decide +kernel
theorem dX12_feed_50 : decode cX12_feed 50 = .ok (.getfield 19, 3) := by decide +kernel
theorem dX12_feed_53 : decode cX12_feed 53 = .ok (.aload_n 0, 1) := by decide +kernel
theorem dX12_feed_54 : decode cX12_feed 54 = .ok (.getfield 57, 3) := by decide +kernel
theorem dX12_feed_57 : decode cX12_feed 57 = .ok (.iload 7, 2) := by decide +kernel
theorem dX12_feed_59 : decode cX12_feed 59 = .ok (.iadd, 1) := by decide +kernel
theorem dX12_feed_60 : decode cX12_feed 60 = .ok (.aload 6, 2) := by decide +kernel
theorem dX12_feed_62 : decode cX12_feed 62 = .ok (.iload 7, 2) := by decide +kernel
theorem dX12_feed_64 : decode cX12_feed 64 = .ok (.iconst 4, 1) := by decide +kernel
theorem dX12_feed_65 : decode cX12_feed 65 = .ok (.idiv, 1) := by decide +kernel
theorem dX12_feed_66 : decode cX12_feed 66 = .ok (.iaload, 1) := by decide +kernel
theorem dX12_feed_67 : decode cX12_feed 67 = .ok (.bipush 24, 2) := by decide +kernel
theorem dX12_feed_69 : decode cX12_feed 69 = .ok (.bipush 8, 2) := by decide +kernel
theorem dX12_feed_71 : decode cX12_feed 71 = .ok (.iload 7, 2) := by decide +kernel
theorem dX12_feed_73 : decode cX12_feed 73 = .ok (.iconst 4, 1) := by decide +kernel
theorem dX12_feed_74 : decode cX12_feed 74 = .ok (.irem, 1) := by decide +kernel
theorem dX12_feed_75 : decode cX12_feed 75 = .ok (.imul, 1) := by decide +kernel
theorem dX12_feed_76 : decode cX12_feed 76 = .ok (.isub, 1) := by decide +kernel
theorem dX12_feed_77 : decode cX12_feed 77 = .ok (.iushr, 1) := by decide +kernel
theorem dX12_feed_78 : decode cX12_feed 78 = .ok (.sipush 255, 3) := by decide +kernel
theorem dX12_feed_81 : decode cX12_feed 81 = .ok (.iand, 1) := by decide +kernel
theorem dX12_feed_82 : decode cX12_feed 82 = .ok (.iastore, 1) := by decide +kernel
theorem dX12_feed_83 : decode cX12_feed 83 = .ok (.iinc 7 1, 3) := by decide +kernel
theorem dX12_feed_86 : decode cX12_feed 86 = .ok (.goto (-44), 3) := by decide +kernel
theorem dX12_feed_89 : decode cX12_feed 89 = .ok (.aload_n 0, 1) := by decide +kernel
theorem dX12_feed_90 : decode cX12_feed 90 = .ok (.dup, 1) := by decide +kernel
theorem dX12_feed_91 : decode cX12_feed 91 = .ok (.getfield 57, 3) := by decide +kernel
theorem dX12_feed_94 : decode cX12_feed 94 = .ok (.bipush 20, 2) := by decide +kernel
theorem dX12_feed_96 : decode cX12_feed 96 = .ok (.iadd, 1) := by decide +kernel
theorem dX12_feed_97 : decode cX12_feed 97 = .ok (.putfield 57, 3) := by decide +kernel
theorem dX12_feed_100 : decode cX12_feed 100 = .ok (.aload_n 0, 1) := by decide +kernel
theorem dX12_feed_101 : decode cX12_feed 101 = .ok (.getfield 57, 3) := by decide +kernel
theorem dX12_feed_104 : decode cX12_feed 104 = .ok (.ireturn, 1) := by decide +kernel
theorem dX12_end_0 : decode cX12_end 0 = .ok (.iload_n 1, 1) := by decide +kernel
theorem dX12_end_1 : decode cX12_end 1 = .ok (.i2l, 1) := by decide +kernel
theorem dX12_end_2 : decode cX12_end 2 = .ok (.lconst 0, 1) := by decide +kernel
theorem dX12_end_3 : decode cX12_end 3 = .ok (.aload_n 0, 1) := by decide +kernel
theorem dX12_end_4 : decode cX12_end 4 = .ok (.getfield 57, 3) := by decide +kernel
theorem dX12_end_7 : decode cX12_end 7 = .ok (.i2l, 1) := by decide +kernel
theorem dX12_end_8 : decode cX12_end 8 = .ok (.invokestatic 60, 3) := by decide +kernel
theorem dX12_end_11 : decode cX12_end 11 = .ok (.ifCond .ne 5, 3) := by decide +kernel
theorem dX12_end_14 : decode cX12_end 14 = .ok (.iconst (-1), 1) := by decide +kernel
theorem dX12_end_15 : decode cX12_end 15 = .ok (.ireturn, 1) := by decide +kernel
theorem dX12_end_16 : decode cX12_end 16 = .ok (.aload_n 0, 1) := by decide +kernel
theorem dX12_end_17 : decode cX12_end 17 = .ok (.iload_n 1, 1) := by decide +kernel
theorem dX12_end_18 : decode cX12_end 18 = .ok (.putfield 57, 3) := by decide +kernel
theorem dX12_end_21 : decode cX12_end 21 = .ok (.iload_n 1, 1) := by decide +kernel
theorem dX12_end_22 : decode cX12_end 22 = .ok (.ireturn, 1) := by decide +kernel
theorem dX12_isAt_0 : decode cX12_isAt 0 = .ok (.aload_n 0, 1) := by decide +kernel
theorem dX12_isAt_1 : decode cX12_isAt 1 = .ok (.getfield 64, 3) := by decide +kernel
theorem dX12_isAt_4 : decode cX12_isAt 4 = .ok (.aload_n 0, 1) := by decide +kernel
theorem dX12_isAt_5 : decode cX12_isAt 5 = .ok (.getfield 57, 3) := by decide +kernel
theorem dX12_isAt_8 : decode cX12_isAt 8 = .ok (.if_icmp .ge 27, 3) := by decide +kernel
theorem dX12_isAt_11 : decode cX12_isAt 11 = .ok (.aload_n 0, 1) := by decide +kernel
theorem dX12_isAt_12 : decode cX12_isAt 12 = .ok (.getfield 19, 3) := by decide +kernel
theorem dX12_isAt_15 : decode cX12_isAt 15 = .ok (.aload_n 0, 1) := by decide +kernel
theorem dX12_isAt_16 : decode cX12_isAt 16 = .ok (.getfield 64, 3) := by decide +kernel
theorem dX12_isAt_19 : decode cX12_isAt 19 = .ok (.iaload, 1) := by decide +kernel
theorem dX12_isAt_20 : decode cX12_isAt 20 = .ok (.i2l, 1) := by decide +kernel
theorem dX12_isAt_21 : decode cX12_isAt 21 = .ok (.iload_n 1, 1) := by decide +kernel
theorem dX12_isAt_22 : decode cX12_isAt 22 = .ok (.i2l, 1) := by decide +kernel
theorem dX12_isAt_23 : decode cX12_isAt 23 = .ok (.iload_n 2, 1) := by decide +kernel
theorem dX12_isAt_24 : decode cX12_isAt 24 = .ok (.i2l, 1) := by decide +kernel
theorem dX12_isAt_25 : decode cX12_isAt 25 = .ok (.invokestatic 60, 3) := by decide +kernel
theorem dX12_isAt_28 : decode cX12_isAt 28 = .ok (.ifCond .eq 7, 3) := by decide +kernel
theorem dX12_isAt_31 : decode cX12_isAt 31 = .ok (.iconst 1, 1) := by decide +kernel
theorem dX12_isAt_32 : decode cX12_isAt 32 = .ok (.goto 4, 3) := by decide +kernel
theorem dX12_isAt_35 : decode cX12_isAt 35 = .ok (.iconst 0, 1) := by decide +kernel
theorem dX12_isAt_36 : decode cX12_isAt 36 = .ok (.ireturn, 1) := by decide +kernel
theorem dX12_next_0 : decode cX12_next 0 = .ok (.aload_n 0, 1) := by decide +kernel
theorem dX12_next_1 : decode cX12_next 1 = .ok (.bipush 32, 2) := by decide +kernel
theorem dX12_next_3 : decode cX12_next 3 = .ok (.bipush 32, 2) := by decide +kernel
theorem dX12_next_5 : decode cX12_next 5 = .ok (.invokevirtual 67, 3) := by decide +kernel
theorem dX12_next_8 : decode cX12_next 8 = .ok (.ifCond .ne 14, 3) := by decide +kernel
theorem dX12_next_11 : decode cX12_next 11 = .ok (.aload_n 0, 1) := by decide +kernel
theorem dX12_next_12 : decode cX12_next 12 = .ok (.bipush 10, 2) := by decide +kernel
theorem dX12_next_14 : decode cX12_next 14 = .ok (.bipush 10, 2) := by decide +kernel
theorem dX12_next_16 : decode cX12_next 16 = .ok (.invokevirtual 67, 3) := by decide +kernel
theorem dX12_next_19 : decode cX12_next 19 = .ok (.ifCond .eq 16, 3) := by decide +kernel
theorem dX12_next_22 : decode cX12_next 22 = .ok (.aload_n 0, 1) := by decide +kernel
theorem dX12_next_23 : decode cX12_next 23 = .ok (.dup, 1) := by decide +kernel
theorem dX12_next_24 : decode cX12_next 24 = .ok (.getfield 64, 3) := by decide +kernel
theorem dX12_next_27 : decode cX12_next 27 = .ok (.iconst 1, 1) := by decide +kernel
theorem dX12_next_28 : decode cX12_next 28 = .ok (.iadd, 1) := by decide +kernel
theorem dX12_next_29 : decode cX12_next 29 = .ok (.putfield 64, 3) := by decide +kernel
theorem dX12_next_32 : decode cX12_next 32 = .ok (.goto (-32), 3) := by decide +kernel
theorem dX12_next_35 : decode cX12_next 35 = .ok (.aload_n 0, 1) := by decide +kernel
theorem dX12_next_36 : decode cX12_next 36 = .ok (.aload_n 0, 1) := by decide +kernel
theorem dX12_next_37 : decode cX12_next 37 = .ok (.getfield 64, 3) := by decide +kernel
theorem dX12_next_40 : decode cX12_next 40 = .ok (.putfield 71, 3) := by decide +kernel
theorem dX12_next_43 : decode cX12_next 43 = .ok (.aload_n 0, 1) := by decide +kernel
theorem dX12_next_44 : decode cX12_next 44 = .ok (.iconst 0, 1) := by decide +kernel
theorem dX12_next_45 : decode cX12_next 45 = .ok (.putfield 74, 3) := by decide +kernel
theorem dX12_next_48 : decode cX12_next 48 = .ok (.aload_n 0, 1) := by decide +kernel
theorem dX12_next_49 : decode cX12_next 49 = .ok (.getfield 64, 3) := by decide +kernel
theorem dX12_next_52 : decode cX12_next 52 = .ok (.aload_n 0, 1) := by decide +kernel
theorem dX12_next_53 : decode cX12_next 53 = .ok (.getfield 57, 3) := by decide +kernel
theorem dX12_next_56 : decode cX12_next 56 = .ok (.if_icmp .ne 11, 3) := by decide +kernel
theorem dX12_next_59 : decode cX12_next 59 = .ok (.aload_n 0, 1) := by decide +kernel
theorem dX12_next_60 : decode cX12_next 60 = .ok (.iconst 0, 1) := by decide +kernel
theorem dX12_next_61 : decode cX12_next 61 = .ok (.putfield 77, 3) := by decide +kernel
theorem dX12_next_64 : decode cX12_next 64 = .ok (.goto 142, 3) := by decide +kernel
theorem dX12_next_67 : decode cX12_next 67 = .ok (.aload_n 0, 1) := by decide +kernel
theorem dX12_next_68 : decode cX12_next 68 = .ok (.bipush 97, 2) := by decide +kernel
theorem dX12_next_70 : decode cX12_next 70 = .ok (.bipush 122, 2) := by decide +kernel
theorem dX12_next_72 : decode cX12_next 72 = .ok (.invokevirtual 67, 3) := by decide +kernel
theorem dX12_next_75 : decode cX12_next 75 = .ok (.ifCond .eq 32, 3) := by decide +kernel
theorem dX12_next_78 : decode cX12_next 78 = .ok (.aload_n 0, 1) := by decide +kernel
theorem dX12_next_79 : decode cX12_next 79 = .ok (.iconst 1, 1) := by decide +kernel
theorem dX12_next_80 : decode cX12_next 80 = .ok (.putfield 77, 3) := by decide +kernel
theorem dX12_next_83 : decode cX12_next 83 = .ok (.aload_n 0, 1) := by decide +kernel
theorem dX12_next_84 : decode cX12_next 84 = .ok (.bipush 97, 2) := by decide +kernel
theorem dX12_next_86 : decode cX12_next 86 = .ok (.bipush 122, 2) := by decide +kernel
theorem dX12_next_88 : decode cX12_next 88 = .ok (.invokevirtual 67, 3) := by decide +kernel
theorem dX12_next_91 : decode cX12_next 91 = .ok (.ifCond .eq 115, 3) := by decide +kernel
theorem dX12_next_94 : decode cX12_next 94 = .ok (.aload_n 0, 1) := by decide +kernel
theorem dX12_next_95 : decode cX12_next 95 = .ok (.dup, 1) := by decide +kernel
theorem dX12_next_96 : decode cX12_next 96 = .ok (.getfield 64, 3) := by decide +kernel
theorem dX12_next_99 : decode cX12_next 99 = .ok (.iconst 1, 1) := by decide +kernel
theorem dX12_next_100 : decode cX12_next 100 = .ok (.iadd, 1) := by decide +kernel
theorem dX12_next_101 : decode cX12_next 101 = .ok (.putfield 64, 3) := by decide +kernel
theorem dX12_next_104 : decode cX12_next 104 = .ok (.goto (-21), 3) := by decide +kernel
theorem dX12_next_107 : decode cX12_next 107 = .ok (.aload_n 0, 1) := by decide +kernel
theorem dX12_next_108 : decode cX12_next 108 = .ok (.bipush 48, 2) := by decide +kernel
theorem dX12_next_110 : decode cX12_next 110 = .ok (.bipush 57, 2) := by decide +kernel
theorem dX12_next_112 : decode cX12_next 112 = .ok (.invokevirtual 67, 3) := by decide +kernel
theorem dX12_next_115 : decode cX12_next 115 = .ok (.ifCond .eq 61, 3) := by decide +kernel
theorem dX12_next_118 : decode cX12_next 118 = .ok (.aload_n 0, 1) := by decide +kernel
theorem dX12_next_119 : decode cX12_next 119 = .ok (.iconst 2, 1) := by decide +kernel
theorem dX12_next_120 : decode cX12_next 120 = .ok (.putfield 77, 3) := by decide +kernel
theorem dX12_next_123 : decode cX12_next 123 = .ok (.aload_n 0, 1) := by decide +kernel
theorem dX12_next_124 : decode cX12_next 124 = .ok (.bipush 48, 2) := by decide +kernel
theorem dX12_next_126 : decode cX12_next 126 = .ok (.bipush 57, 2) := by decide +kernel
theorem dX12_next_128 : decode cX12_next 128 = .ok (.invokevirtual 67, 3) := by decide +kernel
theorem dX12_next_131 : decode cX12_next 131 = .ok (.ifCond .eq 75, 3) := by decide +kernel
theorem dX12_next_134 : decode cX12_next 134 = .ok (.aload_n 0, 1) := by decide +kernel
theorem dX12_next_135 : decode cX12_next 135 = .ok (.ldc 80, 2) := by decide +kernel
theorem dX12_next_137 : decode cX12_next 137 = .ok (.bipush 10, 2) := by decide +kernel
theorem dX12_next_139 : decode cX12_next 139 = .ok (.aload_n 0, 1) := by decide +kernel
theorem dX12_next_140 : decode cX12_next 140 = .ok (.getfield 74, 3) := by decide +kernel
theorem dX12_next_143 : decode cX12_next 143 = .ok (.imul, 1) := by decide +kernel
theorem dX12_next_144 : decode cX12_next 144 = .ok (.aload_n 0, 1) := by decide +kernel
theorem dX12_next_145 : decode cX12_next 145 = .ok (.getfield 19, 3) := by decide +kernel
theorem dX12_next_148 : decode cX12_next 148 = .ok (.aload_n 0, 1) := by decide +kernel
theorem dX12_next_149 : decode cX12_next 149 = .ok (.getfield 64, 3) := by decide +kernel
theorem dX12_next_152 : decode cX12_next 152 = .ok (.iaload, 1) := by decide +kernel
theorem dX12_next_153 : decode cX12_next 153 = .ok (.iadd, 1) := by decide +kernel
theorem dX12_next_154 : decode cX12_next 154 = .ok (.bipush 48, 2) := by decide +kernel
theorem dX12_next_156 : decode cX12_next 156 = .ok (.isub, 1) := by decide +kernel
theorem dX12_next_157 : decode cX12_next 157 = .ok (.invokestatic 81, 3) := by decide +kernel
theorem dX12_next_160 : decode cX12_next 160 = .ok (.putfield 74, 3) := by decide +kernel
theorem dX12_next_163 : decode cX12_next 163 = .ok (.aload_n 0, 1) := by decide +kernel
theorem dX12_next_164 : decode cX12_next 164 = .ok (.dup, 1) := by decide +kernel
theorem dX12_next_165 : decode cX12_next 165 = .ok (.getfield 64, 3) := by decide +kernel
theorem dX12_next_168 : decode cX12_next 168 = .ok (.iconst 1, 1) := by decide +kernel
theorem dX12_next_169 : decode cX12_next 169 = .ok (.iadd, 1) := by decide +kernel
theorem dX12_next_170 : decode cX12_next 170 = .ok (.putfield 64, 3) := by decide +kernel
theorem dX12_next_173 : decode cX12_next 173 = .ok (.goto (-50), 3) := by decide +kernel
theorem dX12_next_176 : decode cX12_next 176 = .ok (.aload_n 0, 1) := by decide +kernel
theorem dX12_next_177 : decode cX12_next 177 = .ok (.aload_n 0, 1) := by decide +kernel
theorem dX12_next_178 : decode cX12_next 178 = .ok (.bipush 59, 2) := by decide +kernel
theorem dX12_next_180 : decode cX12_next 180 = .ok (.bipush 59, 2) := by decide +kernel
theorem dX12_next_182 : decode cX12_next 182 = .ok (.invokevirtual 67, 3) := by decide +kernel
theorem dX12_next_185 : decode cX12_next 185 = .ok (.ifCond .eq 7, 3) := by decide +kernel
theorem dX12_next_188 : decode cX12_next 188 = .ok (.iconst 3, 1) := by decide +kernel
theorem dX12_next_189 : decode cX12_next 189 = .ok (.goto 4, 3) := by decide +kernel
theorem dX12_next_192 : decode cX12_next 192 = .ok (.iconst 4, 1) := by decide +kernel
theorem dX12_next_193 : decode cX12_next 193 = .ok (.putfield 77, 3) := by decide +kernel
theorem dX12_next_196 : decode cX12_next 196 = .ok (.aload_n 0, 1) := by decide +kernel
theorem dX12_next_197 : decode cX12_next 197 = .ok (.dup, 1) := by decide +kernel
theorem dX12_next_198 : decode cX12_next 198 = .ok (.getfield 64, 3) := by decide +kernel
theorem dX12_next_201 : decode cX12_next 201 = .ok (.iconst 1, 1) := by decide +kernel
theorem dX12_next_202 : decode cX12_next 202 = .ok (.iadd, 1) := by decide +kernel
theorem dX12_next_203 : decode cX12_next 203 = .ok (.putfield 64, 3) := by decide +kernel
theorem dX12_next_206 : decode cX12_next 206 = .ok (.return_, 1) := by decide +kernel
theorem dX12_faults_0 : decode cX12_faults 0 = .ok (.aload_n 0, 1) := by decide +kernel
theorem dX12_faults_1 : decode cX12_faults 1 = .ok (.getfield 87, 3) := by decide +kernel
theorem dX12_faults_4 : decode cX12_faults 4 = .ok (.ifCond .ne 21, 3) := by decide +kernel
theorem dX12_faults_7 : decode cX12_faults 7 = .ok (.aload_n 0, 1) := by decide +kernel
theorem dX12_faults_8 : decode cX12_faults 8 = .ok (.iconst 1, 1) := by decide +kernel
theorem dX12_faults_9 : decode cX12_faults 9 = .ok (.putfield 87, 3) := by decide +kernel
theorem dX12_faults_12 : decode cX12_faults 12 = .ok (.aload_n 0, 1) := by decide +kernel
theorem dX12_faults_13 : decode cX12_faults 13 = .ok (.iload_n 1, 1) := by decide +kernel
theorem dX12_faults_14 : decode cX12_faults 14 = .ok (.putfield 91, 3) := by decide +kernel
theorem dX12_faults_17 : decode cX12_faults 17 = .ok (.aload_n 0, 1) := by decide +kernel
theorem dX12_faults_18 : decode cX12_faults 18 = .ok (.aload_n 0, 1) := by decide +kernel
theorem dX12_faults_19 : decode cX12_faults 19 = .ok (.getfield 71, 3) := by decide +kernel
theorem dX12_faults_22 : decode cX12_faults 22 = .ok (.putfield 22, 3) := by decide +kernel
theorem dX12_faults_25 : decode cX12_faults 25 = .ok (.return_, 1) := by decide +kernel
theorem dX12_isWord_0 : decode cX12_isWord 0 = .ok (.aload_n 0, 1) := by decide +kernel
theorem dX12_isWord_1 : decode cX12_isWord 1 = .ok (.getfield 77, 3) := by decide +kernel
theorem dX12_isWord_4 : decode cX12_isWord 4 = .ok (.iconst 1, 1) := by decide +kernel
theorem dX12_isWord_5 : decode cX12_isWord 5 = .ok (.if_icmp .ne 19, 3) := by decide +kernel
theorem dX12_isWord_8 : decode cX12_isWord 8 = .ok (.aload_n 0, 1) := by decide +kernel
theorem dX12_isWord_9 : decode cX12_isWord 9 = .ok (.getfield 64, 3) := by decide +kernel
theorem dX12_isWord_12 : decode cX12_isWord 12 = .ok (.aload_n 0, 1) := by decide +kernel
theorem dX12_isWord_13 : decode cX12_isWord 13 = .ok (.getfield 71, 3) := by decide +kernel
theorem dX12_isWord_16 : decode cX12_isWord 16 = .ok (.isub, 1) := by decide +kernel
theorem dX12_isWord_17 : decode cX12_isWord 17 = .ok (.aload_n 1, 1) := by decide +kernel
theorem dX12_isWord_18 : decode cX12_isWord 18 = .ok (.invokevirtual 94, 3) := by decide +kernel
theorem dX12_isWord_21 : decode cX12_isWord 21 = .ok (.if_icmp .eq 5, 3) := by decide +kernel
theorem dX12_isWord_24 : decode cX12_isWord 24 = .ok (.iconst 0, 1) := by decide +kernel
theorem dX12_isWord_25 : decode cX12_isWord 25 = .ok (.ireturn, 1) := by decide +kernel
theorem dX12_isWord_26 : decode cX12_isWord 26 = .ok (.iconst 0, 1) := by decide +kernel
theorem dX12_isWord_27 : decode cX12_isWord 27 = .ok (.istore_n 2, 1) := by decide +kernel
theorem dX12_isWord_28 : decode cX12_isWord 28 = .ok (.iload_n 2, 1) := by decide +kernel
theorem dX12_isWord_29 : decode cX12_isWord 29 = .ok (.aload_n 1, 1) := by decide +kernel
theorem dX12_isWord_30 : decode cX12_isWord 30 = .ok (.invokevirtual 94, 3) := by decide +kernel
theorem dX12_isWord_33 : decode cX12_isWord 33 = .ok (.if_icmp .ge 30, 3) := by decide +kernel
theorem dX12_isWord_36 : decode cX12_isWord 36 = .ok (.aload_n 0, 1) := by decide +kernel
theorem dX12_isWord_37 : decode cX12_isWord 37 = .ok (.getfield 19, 3) := by decide +kernel
theorem dX12_isWord_40 : decode cX12_isWord 40 = .ok (.aload_n 0, 1) := by decide +kernel
theorem dX12_isWord_41 : decode cX12_isWord 41 = .ok (.getfield 71, 3) := by decide +kernel
theorem dX12_isWord_44 : decode cX12_isWord 44 = .ok (.iload_n 2, 1) := by decide +kernel
theorem dX12_isWord_45 : decode cX12_isWord 45 = .ok (.iadd, 1) := by decide +kernel
theorem dX12_isWord_46 : decode cX12_isWord 46 = .ok (.iaload, 1) := by decide +kernel
theorem dX12_isWord_47 : decode cX12_isWord 47 = .ok (.aload_n 1, 1) := by decide +kernel
theorem dX12_isWord_48 : decode cX12_isWord 48 = .ok (.iload_n 2, 1) := by decide +kernel
theorem dX12_isWord_49 : decode cX12_isWord 49 = .ok (.invokevirtual 100, 3) := by decide +kernel
theorem dX12_isWord_52 : decode cX12_isWord 52 = .ok (.if_icmp .eq 5, 3) := by decide +kernel
theorem dX12_isWord_55 : decode cX12_isWord 55 = .ok (.iconst 0, 1) := by decide +kernel
theorem dX12_isWord_56 : decode cX12_isWord 56 = .ok (.ireturn, 1) := by decide +kernel
theorem dX12_isWord_57 : decode cX12_isWord 57 = .ok (.iinc 2 1, 3) := by decide +kernel
theorem dX12_isWord_60 : decode cX12_isWord 60 = .ok (.goto (-32), 3) := by decide +kernel
theorem dX12_isWord_63 : decode cX12_isWord 63 = .ok (.iconst 1, 1) := by decide +kernel
theorem dX12_isWord_64 : decode cX12_isWord 64 = .ok (.ireturn, 1) := by decide +kernel
theorem dX12_passes_0 : decode cX12_passes 0 = .ok (.iload_n 1, 1) := by decide +kernel
theorem dX12_passes_1 : decode cX12_passes 1 = .ok (.ifCond .ne 8, 3) := by decide +kernel
theorem dX12_passes_4 : decode cX12_passes 4 = .ok (.aload_n 0, 1) := by decide +kernel
theorem dX12_passes_5 : decode cX12_passes 5 = .ok (.iconst 1, 1) := by decide +kernel
theorem dX12_passes_6 : decode cX12_passes 6 = .ok (.invokevirtual 104, 3) := by decide +kernel
theorem dX12_passes_9 : decode cX12_passes 9 = .ok (.aload_n 0, 1) := by decide +kernel
theorem dX12_passes_10 : decode cX12_passes 10 = .ok (.getfield 87, 3) := by decide +kernel
theorem dX12_passes_13 : decode cX12_passes 13 = .ok (.ifCond .ne 7, 3) := by decide +kernel
theorem dX12_passes_16 : decode cX12_passes 16 = .ok (.aload_n 0, 1) := by decide +kernel
theorem dX12_passes_17 : decode cX12_passes 17 = .ok (.invokevirtual 108, 3) := by decide +kernel
theorem dX12_passes_20 : decode cX12_passes 20 = .ok (.return_, 1) := by decide +kernel
theorem dX12_reads_0 : decode cX12_reads 0 = .ok (.aload_n 0, 1) := by decide +kernel
theorem dX12_reads_1 : decode cX12_reads 1 = .ok (.getfield 74, 3) := by decide +kernel
theorem dX12_reads_4 : decode cX12_reads 4 = .ok (.istore_n 3, 1) := by decide +kernel
theorem dX12_reads_5 : decode cX12_reads 5 = .ok (.aload_n 0, 1) := by decide +kernel
theorem dX12_reads_6 : decode cX12_reads 6 = .ok (.getfield 77, 3) := by decide +kernel
theorem dX12_reads_9 : decode cX12_reads 9 = .ok (.iconst 2, 1) := by decide +kernel
theorem dX12_reads_10 : decode cX12_reads 10 = .ok (.if_icmp .eq 11, 3) := by decide +kernel
theorem dX12_reads_13 : decode cX12_reads 13 = .ok (.aload_n 0, 1) := by decide +kernel
theorem dX12_reads_14 : decode cX12_reads 14 = .ok (.iconst 1, 1) := by decide +kernel
theorem dX12_reads_15 : decode cX12_reads 15 = .ok (.invokevirtual 104, 3) := by decide +kernel
theorem dX12_reads_18 : decode cX12_reads 18 = .ok (.goto 20, 3) := by decide +kernel
theorem dX12_reads_21 : decode cX12_reads 21 = .ok (.iload_n 3, 1) := by decide +kernel
theorem dX12_reads_22 : decode cX12_reads 22 = .ok (.i2l, 1) := by decide +kernel
theorem dX12_reads_23 : decode cX12_reads 23 = .ok (.iload_n 1, 1) := by decide +kernel
theorem dX12_reads_24 : decode cX12_reads 24 = .ok (.i2l, 1) := by decide +kernel
theorem dX12_reads_25 : decode cX12_reads 25 = .ok (.iload_n 2, 1) := by decide +kernel
theorem dX12_reads_26 : decode cX12_reads 26 = .ok (.i2l, 1) := by decide +kernel
theorem dX12_reads_27 : decode cX12_reads 27 = .ok (.invokestatic 60, 3) := by decide +kernel
theorem dX12_reads_30 : decode cX12_reads 30 = .ok (.ifCond .ne 8, 3) := by decide +kernel
theorem dX12_reads_33 : decode cX12_reads 33 = .ok (.aload_n 0, 1) := by decide +kernel
theorem dX12_reads_34 : decode cX12_reads 34 = .ok (.iconst 2, 1) := by decide +kernel
theorem dX12_reads_35 : decode cX12_reads 35 = .ok (.invokevirtual 104, 3) := by decide +kernel
theorem dX12_reads_38 : decode cX12_reads 38 = .ok (.aload_n 0, 1) := by decide +kernel
theorem dX12_reads_39 : decode cX12_reads 39 = .ok (.iconst 1, 1) := by decide +kernel
theorem dX12_reads_40 : decode cX12_reads 40 = .ok (.invokevirtual 111, 3) := by decide +kernel
theorem dX12_reads_43 : decode cX12_reads 43 = .ok (.iload_n 3, 1) := by decide +kernel
theorem dX12_reads_44 : decode cX12_reads 44 = .ok (.ireturn, 1) := by decide +kernel
theorem dX12_place_0 : decode cX12_place 0 = .ok (.iload_n 1, 1) := by decide +kernel
theorem dX12_place_1 : decode cX12_place 1 = .ok (.aload_n 0, 1) := by decide +kernel
theorem dX12_place_2 : decode cX12_place 2 = .ok (.getfield 9, 3) := by decide +kernel
theorem dX12_place_5 : decode cX12_place 5 = .ok (.iconst 1, 1) := by decide +kernel
theorem dX12_place_6 : decode cX12_place 6 = .ok (.iaload, 1) := by decide +kernel
theorem dX12_place_7 : decode cX12_place 7 = .ok (.imul, 1) := by decide +kernel
theorem dX12_place_8 : decode cX12_place 8 = .ok (.iload_n 2, 1) := by decide +kernel
theorem dX12_place_9 : decode cX12_place 9 = .ok (.iadd, 1) := by decide +kernel
theorem dX12_place_10 : decode cX12_place 10 = .ok (.ireturn, 1) := by decide +kernel
theorem dX12_readsTable_0 : decode cX12_readsTable 0 = .ok (.aload_n 0, 1) := by decide +kernel
theorem dX12_readsTable_1 : decode cX12_readsTable 1 = .ok (.aload_n 0, 1) := by decide +kernel
theorem dX12_readsTable_2 : decode cX12_readsTable 2 = .ok (.ldc 115, 2) := by decide +kernel
theorem dX12_readsTable_4 : decode cX12_readsTable 4 = .ok (.invokevirtual 117, 3) := by decide +kernel
theorem dX12_readsTable_7 : decode cX12_readsTable 7 = .ok (.invokevirtual 111, 3) := by decide +kernel
theorem dX12_readsTable_10 : decode cX12_readsTable 10 = .ok (.aload_n 0, 1) := by decide +kernel
theorem dX12_readsTable_11 : decode cX12_readsTable 11 = .ok (.aload_n 0, 1) := by decide +kernel
theorem dX12_readsTable_12 : decode cX12_readsTable 12 = .ok (.getfield 87, 3) := by decide +kernel
theorem dX12_readsTable_15 : decode cX12_readsTable 15 = .ok (.ifCond .ne 12, 3) := by decide +kernel
theorem dX12_readsTable_18 : decode cX12_readsTable 18 = .ok (.aload_n 0, 1) := by decide +kernel
theorem dX12_readsTable_19 : decode cX12_readsTable 19 = .ok (.ldc 121, 2) := by decide +kernel
theorem dX12_readsTable_21 : decode cX12_readsTable 21 = .ok (.invokevirtual 117, 3) := by decide +kernel
theorem dX12_readsTable_24 : decode cX12_readsTable 24 = .ok (.ifCond .eq 7, 3) := by decide +kernel
theorem dX12_readsTable_27 : decode cX12_readsTable 27 = .ok (.iconst 1, 1) := by decide +kernel
theorem dX12_readsTable_28 : decode cX12_readsTable 28 = .ok (.goto 4, 3) := by decide +kernel
theorem dX12_readsTable_31 : decode cX12_readsTable 31 = .ok (.iconst 0, 1) := by decide +kernel
theorem dX12_readsTable_32 : decode cX12_readsTable 32 = .ok (.invokevirtual 111, 3) := by decide +kernel
theorem dX12_readsTable_35 : decode cX12_readsTable 35 = .ok (.aload_n 0, 1) := by decide +kernel
theorem dX12_readsTable_36 : decode cX12_readsTable 36 = .ok (.getfield 9, 3) := by decide +kernel
theorem dX12_readsTable_39 : decode cX12_readsTable 39 = .ok (.iconst 0, 1) := by decide +kernel
theorem dX12_readsTable_40 : decode cX12_readsTable 40 = .ok (.aload_n 0, 1) := by decide +kernel
theorem dX12_readsTable_41 : decode cX12_readsTable 41 = .ok (.iconst 2, 1) := by decide +kernel
theorem dX12_readsTable_42 : decode cX12_readsTable 42 = .ok (.iconst 4, 1) := by decide +kernel
theorem dX12_readsTable_43 : decode cX12_readsTable 43 = .ok (.invokevirtual 123, 3) := by decide +kernel
theorem dX12_readsTable_46 : decode cX12_readsTable 46 = .ok (.iastore, 1) := by decide +kernel
theorem dX12_readsTable_47 : decode cX12_readsTable 47 = .ok (.aload_n 0, 1) := by decide +kernel
theorem dX12_readsTable_48 : decode cX12_readsTable 48 = .ok (.aload_n 0, 1) := by decide +kernel
theorem dX12_readsTable_49 : decode cX12_readsTable 49 = .ok (.getfield 87, 3) := by decide +kernel
theorem dX12_readsTable_52 : decode cX12_readsTable 52 = .ok (.ifCond .ne 12, 3) := by decide +kernel
theorem dX12_readsTable_55 : decode cX12_readsTable 55 = .ok (.aload_n 0, 1) := by decide +kernel
theorem dX12_readsTable_56 : decode cX12_readsTable 56 = .ok (.ldc 126, 2) := by decide +kernel
theorem dX12_readsTable_58 : decode cX12_readsTable 58 = .ok (.invokevirtual 117, 3) := by decide +kernel
theorem dX12_readsTable_61 : decode cX12_readsTable 61 = .ok (.ifCond .eq 7, 3) := by decide +kernel
theorem dX12_readsTable_64 : decode cX12_readsTable 64 = .ok (.iconst 1, 1) := by decide +kernel
theorem dX12_readsTable_65 : decode cX12_readsTable 65 = .ok (.goto 4, 3) := by decide +kernel
theorem dX12_readsTable_68 : decode cX12_readsTable 68 = .ok (.iconst 0, 1) := by decide +kernel
theorem dX12_readsTable_69 : decode cX12_readsTable 69 = .ok (.invokevirtual 111, 3) := by decide +kernel
theorem dX12_readsTable_72 : decode cX12_readsTable 72 = .ok (.aload_n 0, 1) := by decide +kernel
theorem dX12_readsTable_73 : decode cX12_readsTable 73 = .ok (.getfield 9, 3) := by decide +kernel
theorem dX12_readsTable_76 : decode cX12_readsTable 76 = .ok (.iconst 1, 1) := by decide +kernel
theorem dX12_readsTable_77 : decode cX12_readsTable 77 = .ok (.aload_n 0, 1) := by decide +kernel
theorem dX12_readsTable_78 : decode cX12_readsTable 78 = .ok (.iconst 2, 1) := by decide +kernel
theorem dX12_readsTable_79 : decode cX12_readsTable 79 = .ok (.iconst 4, 1) := by decide +kernel
theorem dX12_readsTable_80 : decode cX12_readsTable 80 = .ok (.invokevirtual 123, 3) := by decide +kernel
theorem dX12_readsTable_83 : decode cX12_readsTable 83 = .ok (.iastore, 1) := by decide +kernel
theorem dX12_readsTable_84 : decode cX12_readsTable 84 = .ok (.return_, 1) := by decide +kernel
theorem dX12_readsRow_0 : decode cX12_readsRow 0 = .ok (.aload_n 0, 1) := by decide +kernel
theorem dX12_readsRow_1 : decode cX12_readsRow 1 = .ok (.aload_n 0, 1) := by decide +kernel
theorem dX12_readsRow_2 : decode cX12_readsRow 2 = .ok (.ldc 128, 2) := by decide +kernel
theorem dX12_readsRow_4 : decode cX12_readsRow 4 = .ok (.invokevirtual 117, 3) := by decide +kernel
theorem dX12_readsRow_7 : decode cX12_readsRow 7 = .ok (.invokevirtual 111, 3) := by decide +kernel
theorem dX12_readsRow_10 : decode cX12_readsRow 10 = .ok (.iconst 0, 1) := by decide +kernel
theorem dX12_readsRow_11 : decode cX12_readsRow 11 = .ok (.istore_n 2, 1) := by decide +kernel
theorem dX12_readsRow_12 : decode cX12_readsRow 12 = .ok (.iload_n 2, 1) := by decide +kernel
theorem dX12_readsRow_13 : decode cX12_readsRow 13 = .ok (.aload_n 0, 1) := by decide +kernel
theorem dX12_readsRow_14 : decode cX12_readsRow 14 = .ok (.getfield 9, 3) := by decide +kernel
theorem dX12_readsRow_17 : decode cX12_readsRow 17 = .ok (.iconst 1, 1) := by decide +kernel
theorem dX12_readsRow_18 : decode cX12_readsRow 18 = .ok (.iaload, 1) := by decide +kernel
theorem dX12_readsRow_19 : decode cX12_readsRow 19 = .ok (.if_icmp .ge 58, 3) := by decide +kernel
theorem dX12_readsRow_22 : decode cX12_readsRow 22 = .ok (.aload_n 0, 1) := by decide +kernel
theorem dX12_readsRow_23 : decode cX12_readsRow 23 = .ok (.getfield 87, 3) := by decide +kernel
theorem dX12_readsRow_26 : decode cX12_readsRow 26 = .ok (.ifCond .ne 51, 3) := by decide +kernel
theorem dX12_readsRow_29 : decode cX12_readsRow 29 = .ok (.aload_n 0, 1) := by decide +kernel
theorem dX12_readsRow_30 : decode cX12_readsRow 30 = .ok (.iconst 0, 1) := by decide +kernel
theorem dX12_readsRow_31 : decode cX12_readsRow 31 = .ok (.bipush 9, 2) := by decide +kernel
theorem dX12_readsRow_33 : decode cX12_readsRow 33 = .ok (.bipush 20, 2) := by decide +kernel
theorem dX12_readsRow_35 : decode cX12_readsRow 35 = .ok (.aload_n 0, 1) := by decide +kernel
theorem dX12_readsRow_36 : decode cX12_readsRow 36 = .ok (.getfield 130, 3) := by decide +kernel
theorem dX12_readsRow_39 : decode cX12_readsRow 39 = .ok (.isub, 1) := by decide +kernel
theorem dX12_readsRow_40 : decode cX12_readsRow 40 = .ok (.invokestatic 81, 3) := by decide +kernel
theorem dX12_readsRow_43 : decode cX12_readsRow 43 = .ok (.invokevirtual 123, 3) := by decide +kernel
theorem dX12_readsRow_46 : decode cX12_readsRow 46 = .ok (.istore_n 3, 1) := by decide +kernel
theorem dX12_readsRow_47 : decode cX12_readsRow 47 = .ok (.aload_n 0, 1) := by decide +kernel
theorem dX12_readsRow_48 : decode cX12_readsRow 48 = .ok (.getfield 9, 3) := by decide +kernel
theorem dX12_readsRow_51 : decode cX12_readsRow 51 = .ok (.iconst 5, 1) := by decide +kernel
theorem dX12_readsRow_52 : decode cX12_readsRow 52 = .ok (.aload_n 0, 1) := by decide +kernel
theorem dX12_readsRow_53 : decode cX12_readsRow 53 = .ok (.iload_n 1, 1) := by decide +kernel
theorem dX12_readsRow_54 : decode cX12_readsRow 54 = .ok (.iload_n 2, 1) := by decide +kernel
theorem dX12_readsRow_55 : decode cX12_readsRow 55 = .ok (.invokevirtual 133, 3) := by decide +kernel
theorem dX12_readsRow_58 : decode cX12_readsRow 58 = .ok (.iadd, 1) := by decide +kernel
theorem dX12_readsRow_59 : decode cX12_readsRow 59 = .ok (.iload_n 3, 1) := by decide +kernel
theorem dX12_readsRow_60 : decode cX12_readsRow 60 = .ok (.iastore, 1) := by decide +kernel
theorem dX12_readsRow_61 : decode cX12_readsRow 61 = .ok (.aload_n 0, 1) := by decide +kernel
theorem dX12_readsRow_62 : decode cX12_readsRow 62 = .ok (.dup, 1) := by decide +kernel
theorem dX12_readsRow_63 : decode cX12_readsRow 63 = .ok (.getfield 130, 3) := by decide +kernel
theorem dX12_readsRow_66 : decode cX12_readsRow 66 = .ok (.iload_n 3, 1) := by decide +kernel
theorem dX12_readsRow_67 : decode cX12_readsRow 67 = .ok (.iadd, 1) := by decide +kernel
theorem dX12_readsRow_68 : decode cX12_readsRow 68 = .ok (.putfield 130, 3) := by decide +kernel
theorem dX12_readsRow_71 : decode cX12_readsRow 71 = .ok (.iinc 2 1, 3) := by decide +kernel
theorem dX12_readsRow_74 : decode cX12_readsRow 74 = .ok (.goto (-62), 3) := by decide +kernel
theorem dX12_readsRow_77 : decode cX12_readsRow 77 = .ok (.return_, 1) := by decide +kernel
theorem dX12_readsHole_0 : decode cX12_readsHole 0 = .ok (.aload_n 0, 1) := by decide +kernel
theorem dX12_readsHole_1 : decode cX12_readsHole 1 = .ok (.aload_n 0, 1) := by decide +kernel
theorem dX12_readsHole_2 : decode cX12_readsHole 2 = .ok (.ldc 136, 2) := by decide +kernel
theorem dX12_readsHole_4 : decode cX12_readsHole 4 = .ok (.invokevirtual 117, 3) := by decide +kernel
theorem dX12_readsHole_7 : decode cX12_readsHole 7 = .ok (.invokevirtual 111, 3) := by decide +kernel
theorem dX12_readsHole_10 : decode cX12_readsHole 10 = .ok (.aload_n 0, 1) := by decide +kernel
theorem dX12_readsHole_11 : decode cX12_readsHole 11 = .ok (.getfield 87, 3) := by decide +kernel
theorem dX12_readsHole_14 : decode cX12_readsHole 14 = .ok (.ifCond .eq 7, 3) := by decide +kernel
theorem dX12_readsHole_17 : decode cX12_readsHole 17 = .ok (.iconst 0, 1) := by decide +kernel
theorem dX12_readsHole_18 : decode cX12_readsHole 18 = .ok (.goto 16, 3) := by decide +kernel
theorem dX12_readsHole_21 : decode cX12_readsHole 21 = .ok (.aload_n 0, 1) := by decide +kernel
theorem dX12_readsHole_22 : decode cX12_readsHole 22 = .ok (.iconst 0, 1) := by decide +kernel
theorem dX12_readsHole_23 : decode cX12_readsHole 23 = .ok (.aload_n 0, 1) := by decide +kernel
theorem dX12_readsHole_24 : decode cX12_readsHole 24 = .ok (.getfield 9, 3) := by decide +kernel
theorem dX12_readsHole_27 : decode cX12_readsHole 27 = .ok (.iconst 0, 1) := by decide +kernel
theorem dX12_readsHole_28 : decode cX12_readsHole 28 = .ok (.iaload, 1) := by decide +kernel
theorem dX12_readsHole_29 : decode cX12_readsHole 29 = .ok (.iconst 1, 1) := by decide +kernel
theorem dX12_readsHole_30 : decode cX12_readsHole 30 = .ok (.isub, 1) := by decide +kernel
theorem dX12_readsHole_31 : decode cX12_readsHole 31 = .ok (.invokevirtual 123, 3) := by decide +kernel
theorem dX12_readsHole_34 : decode cX12_readsHole 34 = .ok (.istore_n 1, 1) := by decide +kernel
theorem dX12_readsHole_35 : decode cX12_readsHole 35 = .ok (.aload_n 0, 1) := by decide +kernel
theorem dX12_readsHole_36 : decode cX12_readsHole 36 = .ok (.getfield 87, 3) := by decide +kernel
theorem dX12_readsHole_39 : decode cX12_readsHole 39 = .ok (.ifCond .eq 4, 3) := by decide +kernel
theorem dX12_readsHole_42 : decode cX12_readsHole 42 = .ok (.return_, 1) := by decide +kernel
theorem dX12_readsHole_43 : decode cX12_readsHole 43 = .ok (.aload_n 0, 1) := by decide +kernel
theorem dX12_readsHole_44 : decode cX12_readsHole 44 = .ok (.getfield 77, 3) := by decide +kernel
theorem dX12_readsHole_47 : decode cX12_readsHole 47 = .ok (.iconst 2, 1) := by decide +kernel
theorem dX12_readsHole_48 : decode cX12_readsHole 48 = .ok (.if_icmp .ne 61, 3) := by decide +kernel
theorem dX12_readsHole_51 : decode cX12_readsHole 51 = .ok (.aload_n 0, 1) := by decide +kernel
theorem dX12_readsHole_52 : decode cX12_readsHole 52 = .ok (.getfield 74, 3) := by decide +kernel
theorem dX12_readsHole_55 : decode cX12_readsHole 55 = .ok (.aload_n 0, 1) := by decide +kernel
theorem dX12_readsHole_56 : decode cX12_readsHole 56 = .ok (.getfield 9, 3) := by decide +kernel
theorem dX12_readsHole_59 : decode cX12_readsHole 59 = .ok (.iconst 1, 1) := by decide +kernel
theorem dX12_readsHole_60 : decode cX12_readsHole 60 = .ok (.iaload, 1) := by decide +kernel
theorem dX12_readsHole_61 : decode cX12_readsHole 61 = .ok (.if_icmp .ge 48, 3) := by decide +kernel
theorem dX12_readsHole_64 : decode cX12_readsHole 64 = .ok (.aload_n 0, 1) := by decide +kernel
theorem dX12_readsHole_65 : decode cX12_readsHole 65 = .ok (.getfield 9, 3) := by decide +kernel
theorem dX12_readsHole_68 : decode cX12_readsHole 68 = .ok (.iconst 2, 1) := by decide +kernel
theorem dX12_readsHole_69 : decode cX12_readsHole 69 = .ok (.iaload, 1) := by decide +kernel
theorem dX12_readsHole_70 : decode cX12_readsHole 70 = .ok (.aload_n 0, 1) := by decide +kernel
theorem dX12_readsHole_71 : decode cX12_readsHole 71 = .ok (.iload_n 1, 1) := by decide +kernel
theorem dX12_readsHole_72 : decode cX12_readsHole 72 = .ok (.aload_n 0, 1) := by decide +kernel
theorem dX12_readsHole_73 : decode cX12_readsHole 73 = .ok (.getfield 74, 3) := by decide +kernel
theorem dX12_readsHole_76 : decode cX12_readsHole 76 = .ok (.invokevirtual 133, 3) := by decide +kernel
theorem dX12_readsHole_79 : decode cX12_readsHole 79 = .ok (.invokestatic 138, 3) := by decide +kernel
theorem dX12_readsHole_82 : decode cX12_readsHole 82 = .ok (.ifCond .ne 22, 3) := by decide +kernel
theorem dX12_readsHole_85 : decode cX12_readsHole 85 = .ok (.aload_n 0, 1) := by decide +kernel
theorem dX12_readsHole_86 : decode cX12_readsHole 86 = .ok (.getfield 9, 3) := by decide +kernel
theorem dX12_readsHole_89 : decode cX12_readsHole 89 = .ok (.iconst 5, 1) := by decide +kernel
theorem dX12_readsHole_90 : decode cX12_readsHole 90 = .ok (.aload_n 0, 1) := by decide +kernel
theorem dX12_readsHole_91 : decode cX12_readsHole 91 = .ok (.iload_n 1, 1) := by decide +kernel
theorem dX12_readsHole_92 : decode cX12_readsHole 92 = .ok (.aload_n 0, 1) := by decide +kernel
theorem dX12_readsHole_93 : decode cX12_readsHole 93 = .ok (.getfield 74, 3) := by decide +kernel
theorem dX12_readsHole_96 : decode cX12_readsHole 96 = .ok (.invokevirtual 133, 3) := by decide +kernel
theorem dX12_readsHole_99 : decode cX12_readsHole 99 = .ok (.iadd, 1) := by decide +kernel
theorem dX12_readsHole_100 : decode cX12_readsHole 100 = .ok (.iaload, 1) := by decide +kernel
theorem dX12_readsHole_101 : decode cX12_readsHole 101 = .ok (.ifCond .le 8, 3) := by decide +kernel
theorem dX12_readsHole_104 : decode cX12_readsHole 104 = .ok (.aload_n 0, 1) := by decide +kernel
theorem dX12_readsHole_105 : decode cX12_readsHole 105 = .ok (.iconst 2, 1) := by decide +kernel
theorem dX12_readsHole_106 : decode cX12_readsHole 106 = .ok (.invokevirtual 104, 3) := by decide +kernel
theorem dX12_readsHole_109 : decode cX12_readsHole 109 = .ok (.aload_n 0, 1) := by decide +kernel
theorem dX12_readsHole_110 : decode cX12_readsHole 110 = .ok (.iconst 0, 1) := by decide +kernel
theorem dX12_readsHole_111 : decode cX12_readsHole 111 = .ok (.aload_n 0, 1) := by decide +kernel
theorem dX12_readsHole_112 : decode cX12_readsHole 112 = .ok (.getfield 9, 3) := by decide +kernel
theorem dX12_readsHole_115 : decode cX12_readsHole 115 = .ok (.iconst 1, 1) := by decide +kernel
theorem dX12_readsHole_116 : decode cX12_readsHole 116 = .ok (.iaload, 1) := by decide +kernel
theorem dX12_readsHole_117 : decode cX12_readsHole 117 = .ok (.iconst 1, 1) := by decide +kernel
theorem dX12_readsHole_118 : decode cX12_readsHole 118 = .ok (.isub, 1) := by decide +kernel
theorem dX12_readsHole_119 : decode cX12_readsHole 119 = .ok (.invokevirtual 123, 3) := by decide +kernel
theorem dX12_readsHole_122 : decode cX12_readsHole 122 = .ok (.istore_n 2, 1) := by decide +kernel
theorem dX12_readsHole_123 : decode cX12_readsHole 123 = .ok (.aload_n 0, 1) := by decide +kernel
theorem dX12_readsHole_124 : decode cX12_readsHole 124 = .ok (.getfield 9, 3) := by decide +kernel
theorem dX12_readsHole_127 : decode cX12_readsHole 127 = .ok (.iconst 2, 1) := by decide +kernel
theorem dX12_readsHole_128 : decode cX12_readsHole 128 = .ok (.dup2, 1) := by decide +kernel
theorem dX12_readsHole_129 : decode cX12_readsHole 129 = .ok (.iaload, 1) := by decide +kernel
theorem dX12_readsHole_130 : decode cX12_readsHole 130 = .ok (.aload_n 0, 1) := by decide +kernel
theorem dX12_readsHole_131 : decode cX12_readsHole 131 = .ok (.getfield 87, 3) := by decide +kernel
theorem dX12_readsHole_134 : decode cX12_readsHole 134 = .ok (.ifCond .eq 7, 3) := by decide +kernel
theorem dX12_readsHole_137 : decode cX12_readsHole 137 = .ok (.iconst 0, 1) := by decide +kernel
theorem dX12_readsHole_138 : decode cX12_readsHole 138 = .ok (.goto 11, 3) := by decide +kernel
theorem dX12_readsHole_141 : decode cX12_readsHole 141 = .ok (.iconst 1, 1) := by decide +kernel
theorem dX12_readsHole_142 : decode cX12_readsHole 142 = .ok (.aload_n 0, 1) := by decide +kernel
theorem dX12_readsHole_143 : decode cX12_readsHole 143 = .ok (.iload_n 1, 1) := by decide +kernel
theorem dX12_readsHole_144 : decode cX12_readsHole 144 = .ok (.iload_n 2, 1) := by decide +kernel
theorem dX12_readsHole_145 : decode cX12_readsHole 145 = .ok (.invokevirtual 133, 3) := by decide +kernel
theorem dX12_readsHole_148 : decode cX12_readsHole 148 = .ok (.ishl, 1) := by decide +kernel
theorem dX12_readsHole_149 : decode cX12_readsHole 149 = .ok (.ior, 1) := by decide +kernel
theorem dX12_readsHole_150 : decode cX12_readsHole 150 = .ok (.iastore, 1) := by decide +kernel
theorem dX12_readsHole_151 : decode cX12_readsHole 151 = .ok (.return_, 1) := by decide +kernel
theorem dX12_table_0 : decode cX12_table 0 = .ok (.iconst 0, 1) := by decide +kernel
theorem dX12_table_1 : decode cX12_table 1 = .ok (.istore_n 1, 1) := by decide +kernel
theorem dX12_table_2 : decode cX12_table 2 = .ok (.iload_n 1, 1) := by decide +kernel
theorem dX12_table_3 : decode cX12_table 3 = .ok (.bipush 21, 2) := by decide +kernel
theorem dX12_table_5 : decode cX12_table 5 = .ok (.if_icmp .ge 28, 3) := by decide +kernel
theorem dX12_table_8 : decode cX12_table 8 = .ok (.aload_n 0, 1) := by decide +kernel
theorem dX12_table_9 : decode cX12_table 9 = .ok (.getfield 13, 3) := by decide +kernel
theorem dX12_table_12 : decode cX12_table 12 = .ok (.iload_n 1, 1) := by decide +kernel
theorem dX12_table_13 : decode cX12_table 13 = .ok (.aload_n 0, 1) := by decide +kernel
theorem dX12_table_14 : decode cX12_table 14 = .ok (.getfield 9, 3) := by decide +kernel
theorem dX12_table_17 : decode cX12_table 17 = .ok (.iload_n 1, 1) := by decide +kernel
theorem dX12_table_18 : decode cX12_table 18 = .ok (.iaload, 1) := by decide +kernel
theorem dX12_table_19 : decode cX12_table 19 = .ok (.iastore, 1) := by decide +kernel
theorem dX12_table_20 : decode cX12_table 20 = .ok (.aload_n 0, 1) := by decide +kernel
theorem dX12_table_21 : decode cX12_table 21 = .ok (.getfield 9, 3) := by decide +kernel
theorem dX12_table_24 : decode cX12_table 24 = .ok (.iload_n 1, 1) := by decide +kernel
theorem dX12_table_25 : decode cX12_table 25 = .ok (.iconst 0, 1) := by decide +kernel
theorem dX12_table_26 : decode cX12_table 26 = .ok (.iastore, 1) := by decide +kernel
theorem dX12_table_27 : decode cX12_table 27 = .ok (.iinc 1 1, 3) := by decide +kernel
theorem dX12_table_30 : decode cX12_table 30 = .ok (.goto (-28), 3) := by decide +kernel
theorem dX12_table_33 : decode cX12_table 33 = .ok (.aload_n 0, 1) := by decide +kernel
theorem dX12_table_34 : decode cX12_table 34 = .ok (.iconst 0, 1) := by decide +kernel
theorem dX12_table_35 : decode cX12_table 35 = .ok (.putfield 64, 3) := by decide +kernel
theorem dX12_table_38 : decode cX12_table 38 = .ok (.aload_n 0, 1) := by decide +kernel
theorem dX12_table_39 : decode cX12_table 39 = .ok (.iconst 0, 1) := by decide +kernel
theorem dX12_table_40 : decode cX12_table 40 = .ok (.putfield 87, 3) := by decide +kernel
theorem dX12_table_43 : decode cX12_table 43 = .ok (.aload_n 0, 1) := by decide +kernel
theorem dX12_table_44 : decode cX12_table 44 = .ok (.iconst 0, 1) := by decide +kernel
theorem dX12_table_45 : decode cX12_table 45 = .ok (.putfield 130, 3) := by decide +kernel
theorem dX12_table_48 : decode cX12_table 48 = .ok (.aload_n 0, 1) := by decide +kernel
theorem dX12_table_49 : decode cX12_table 49 = .ok (.invokevirtual 108, 3) := by decide +kernel
theorem dX12_table_52 : decode cX12_table 52 = .ok (.aload_n 0, 1) := by decide +kernel
theorem dX12_table_53 : decode cX12_table 53 = .ok (.getfield 77, 3) := by decide +kernel
theorem dX12_table_56 : decode cX12_table 56 = .ok (.ifCond .eq 7, 3) := by decide +kernel
theorem dX12_table_59 : decode cX12_table 59 = .ok (.iconst 1, 1) := by decide +kernel
theorem dX12_table_60 : decode cX12_table 60 = .ok (.goto 4, 3) := by decide +kernel
theorem dX12_table_63 : decode cX12_table 63 = .ok (.iconst 0, 1) := by decide +kernel
theorem dX12_table_64 : decode cX12_table 64 = .ok (.istore_n 1, 1) := by decide +kernel
theorem dX12_table_65 : decode cX12_table 65 = .ok (.iload_n 1, 1) := by decide +kernel
theorem dX12_table_66 : decode cX12_table 66 = .ok (.ifCond .eq 125, 3) := by decide +kernel
theorem dX12_table_69 : decode cX12_table 69 = .ok (.aload_n 0, 1) := by decide +kernel
theorem dX12_table_70 : decode cX12_table 70 = .ok (.getfield 9, 3) := by decide +kernel
theorem dX12_table_73 : decode cX12_table 73 = .ok (.iconst 3, 1) := by decide +kernel
theorem dX12_table_74 : decode cX12_table 74 = .ok (.iaload, 1) := by decide +kernel
theorem dX12_table_75 : decode cX12_table 75 = .ok (.ifCond .ne 10, 3) := by decide +kernel
theorem dX12_table_78 : decode cX12_table 78 = .ok (.aload_n 0, 1) := by decide +kernel
theorem dX12_table_79 : decode cX12_table 79 = .ok (.invokevirtual 141, 3) := by decide +kernel
theorem dX12_table_82 : decode cX12_table 82 = .ok (.goto 37, 3) := by decide +kernel
theorem dX12_table_85 : decode cX12_table 85 = .ok (.aload_n 0, 1) := by decide +kernel
theorem dX12_table_86 : decode cX12_table 86 = .ok (.getfield 9, 3) := by decide +kernel
theorem dX12_table_89 : decode cX12_table 89 = .ok (.iconst 3, 1) := by decide +kernel
theorem dX12_table_90 : decode cX12_table 90 = .ok (.iaload, 1) := by decide +kernel
theorem dX12_table_91 : decode cX12_table 91 = .ok (.aload_n 0, 1) := by decide +kernel
theorem dX12_table_92 : decode cX12_table 92 = .ok (.getfield 9, 3) := by decide +kernel
theorem dX12_table_95 : decode cX12_table 95 = .ok (.iconst 0, 1) := by decide +kernel
theorem dX12_table_96 : decode cX12_table 96 = .ok (.iaload, 1) := by decide +kernel
theorem dX12_table_97 : decode cX12_table 97 = .ok (.if_icmp .gt 18, 3) := by decide +kernel
theorem dX12_table_100 : decode cX12_table 100 = .ok (.aload_n 0, 1) := by decide +kernel
theorem dX12_table_101 : decode cX12_table 101 = .ok (.aload_n 0, 1) := by decide +kernel
theorem dX12_table_102 : decode cX12_table 102 = .ok (.getfield 9, 3) := by decide +kernel
theorem dX12_table_105 : decode cX12_table 105 = .ok (.iconst 3, 1) := by decide +kernel
theorem dX12_table_106 : decode cX12_table 106 = .ok (.iaload, 1) := by decide +kernel
theorem dX12_table_107 : decode cX12_table 107 = .ok (.iconst 1, 1) := by decide +kernel
theorem dX12_table_108 : decode cX12_table 108 = .ok (.isub, 1) := by decide +kernel
theorem dX12_table_109 : decode cX12_table 109 = .ok (.invokevirtual 144, 3) := by decide +kernel
theorem dX12_table_112 : decode cX12_table 112 = .ok (.goto 7, 3) := by decide +kernel
theorem dX12_table_115 : decode cX12_table 115 = .ok (.aload_n 0, 1) := by decide +kernel
theorem dX12_table_116 : decode cX12_table 116 = .ok (.invokevirtual 147, 3) := by decide +kernel
theorem dX12_table_119 : decode cX12_table 119 = .ok (.aload_n 0, 1) := by decide +kernel
theorem dX12_table_120 : decode cX12_table 120 = .ok (.aload_n 0, 1) := by decide +kernel
theorem dX12_table_121 : decode cX12_table 121 = .ok (.getfield 87, 3) := by decide +kernel
theorem dX12_table_124 : decode cX12_table 124 = .ok (.ifCond .ne 11, 3) := by decide +kernel
theorem dX12_table_127 : decode cX12_table 127 = .ok (.aload_n 0, 1) := by decide +kernel
theorem dX12_table_128 : decode cX12_table 128 = .ok (.getfield 77, 3) := by decide +kernel
theorem dX12_table_131 : decode cX12_table 131 = .ok (.iconst 3, 1) := by decide +kernel
theorem dX12_table_132 : decode cX12_table 132 = .ok (.if_icmp .ne 7, 3) := by decide +kernel
theorem dX12_table_135 : decode cX12_table 135 = .ok (.iconst 1, 1) := by decide +kernel
theorem dX12_table_136 : decode cX12_table 136 = .ok (.goto 4, 3) := by decide +kernel
theorem dX12_table_139 : decode cX12_table 139 = .ok (.iconst 0, 1) := by decide +kernel
theorem dX12_table_140 : decode cX12_table 140 = .ok (.invokevirtual 111, 3) := by decide +kernel
theorem dX12_table_143 : decode cX12_table 143 = .ok (.aload_n 0, 1) := by decide +kernel
theorem dX12_table_144 : decode cX12_table 144 = .ok (.getfield 9, 3) := by decide +kernel
theorem dX12_table_147 : decode cX12_table 147 = .ok (.iconst 3, 1) := by decide +kernel
theorem dX12_table_148 : decode cX12_table 148 = .ok (.dup2, 1) := by decide +kernel
theorem dX12_table_149 : decode cX12_table 149 = .ok (.iaload, 1) := by decide +kernel
theorem dX12_table_150 : decode cX12_table 150 = .ok (.iconst 1, 1) := by decide +kernel
theorem dX12_table_151 : decode cX12_table 151 = .ok (.iadd, 1) := by decide +kernel
theorem dX12_table_152 : decode cX12_table 152 = .ok (.iastore, 1) := by decide +kernel
theorem dX12_table_153 : decode cX12_table 153 = .ok (.aload_n 0, 1) := by decide +kernel
theorem dX12_table_154 : decode cX12_table 154 = .ok (.getfield 87, 3) := by decide +kernel
theorem dX12_table_157 : decode cX12_table 157 = .ok (.ifCond .ne 29, 3) := by decide +kernel
theorem dX12_table_160 : decode cX12_table 160 = .ok (.aload_n 0, 1) := by decide +kernel
theorem dX12_table_161 : decode cX12_table 161 = .ok (.getfield 77, 3) := by decide +kernel
theorem dX12_table_164 : decode cX12_table 164 = .ok (.ifCond .ne 18, 3) := by decide +kernel
theorem dX12_table_167 : decode cX12_table 167 = .ok (.aload_n 0, 1) := by decide +kernel
theorem dX12_table_168 : decode cX12_table 168 = .ok (.getfield 9, 3) := by decide +kernel
theorem dX12_table_171 : decode cX12_table 171 = .ok (.iconst 3, 1) := by decide +kernel
theorem dX12_table_172 : decode cX12_table 172 = .ok (.iaload, 1) := by decide +kernel
theorem dX12_table_173 : decode cX12_table 173 = .ok (.aload_n 0, 1) := by decide +kernel
theorem dX12_table_174 : decode cX12_table 174 = .ok (.getfield 9, 3) := by decide +kernel
theorem dX12_table_177 : decode cX12_table 177 = .ok (.iconst 0, 1) := by decide +kernel
theorem dX12_table_178 : decode cX12_table 178 = .ok (.iaload, 1) := by decide +kernel
theorem dX12_table_179 : decode cX12_table 179 = .ok (.if_icmp .gt 7, 3) := by decide +kernel
theorem dX12_table_182 : decode cX12_table 182 = .ok (.iconst 1, 1) := by decide +kernel
theorem dX12_table_183 : decode cX12_table 183 = .ok (.goto 4, 3) := by decide +kernel
theorem dX12_table_186 : decode cX12_table 186 = .ok (.iconst 0, 1) := by decide +kernel
theorem dX12_table_187 : decode cX12_table 187 = .ok (.istore_n 1, 1) := by decide +kernel
theorem dX12_table_188 : decode cX12_table 188 = .ok (.goto (-123), 3) := by decide +kernel
theorem dX12_table_191 : decode cX12_table 191 = .ok (.aload_n 0, 1) := by decide +kernel
theorem dX12_table_192 : decode cX12_table 192 = .ok (.iconst 0, 1) := by decide +kernel
theorem dX12_table_193 : decode cX12_table 193 = .ok (.putfield 57, 3) := by decide +kernel
theorem dX12_table_196 : decode cX12_table 196 = .ok (.aload_n 0, 1) := by decide +kernel
theorem dX12_table_197 : decode cX12_table 197 = .ok (.getfield 87, 3) := by decide +kernel
theorem dX12_table_200 : decode cX12_table 200 = .ok (.ifCond .eq 32, 3) := by decide +kernel
theorem dX12_table_203 : decode cX12_table 203 = .ok (.iconst 0, 1) := by decide +kernel
theorem dX12_table_204 : decode cX12_table 204 = .ok (.istore_n 2, 1) := by decide +kernel
theorem dX12_table_205 : decode cX12_table 205 = .ok (.iload_n 2, 1) := by decide +kernel
theorem dX12_table_206 : decode cX12_table 206 = .ok (.bipush 21, 2) := by decide +kernel
theorem dX12_table_208 : decode cX12_table 208 = .ok (.if_icmp .ge 21, 3) := by decide +kernel
theorem dX12_table_211 : decode cX12_table 211 = .ok (.aload_n 0, 1) := by decide +kernel
theorem dX12_table_212 : decode cX12_table 212 = .ok (.getfield 9, 3) := by decide +kernel
theorem dX12_table_215 : decode cX12_table 215 = .ok (.iload_n 2, 1) := by decide +kernel
theorem dX12_table_216 : decode cX12_table 216 = .ok (.aload_n 0, 1) := by decide +kernel
theorem dX12_table_217 : decode cX12_table 217 = .ok (.getfield 13, 3) := by decide +kernel
theorem dX12_table_220 : decode cX12_table 220 = .ok (.iload_n 2, 1) := by decide +kernel
theorem dX12_table_221 : decode cX12_table 221 = .ok (.iaload, 1) := by decide +kernel
theorem dX12_table_222 : decode cX12_table 222 = .ok (.iastore, 1) := by decide +kernel
theorem dX12_table_223 : decode cX12_table 223 = .ok (.iinc 2 1, 3) := by decide +kernel
theorem dX12_table_226 : decode cX12_table 226 = .ok (.goto (-21), 3) := by decide +kernel
theorem dX12_table_229 : decode cX12_table 229 = .ok (.bipush (-4), 2) := by decide +kernel
theorem dX12_table_231 : decode cX12_table 231 = .ok (.ireturn, 1) := by decide +kernel
theorem dX12_table_232 : decode cX12_table 232 = .ok (.aload_n 0, 1) := by decide +kernel
theorem dX12_table_233 : decode cX12_table 233 = .ok (.iconst 0, 1) := by decide +kernel
theorem dX12_table_234 : decode cX12_table 234 = .ok (.putfield 91, 3) := by decide +kernel
theorem dX12_table_237 : decode cX12_table 237 = .ok (.aload_n 0, 1) := by decide +kernel
theorem dX12_table_238 : decode cX12_table 238 = .ok (.iconst (-1), 1) := by decide +kernel
theorem dX12_table_239 : decode cX12_table 239 = .ok (.putfield 22, 3) := by decide +kernel
theorem dX12_table_242 : decode cX12_table 242 = .ok (.aload_n 0, 1) := by decide +kernel
theorem dX12_table_243 : decode cX12_table 243 = .ok (.getfield 9, 3) := by decide +kernel
theorem dX12_table_246 : decode cX12_table 246 = .ok (.iconst 3, 1) := by decide +kernel
theorem dX12_table_247 : decode cX12_table 247 = .ok (.iaload, 1) := by decide +kernel
theorem dX12_table_248 : decode cX12_table 248 = .ok (.ireturn, 1) := by decide +kernel
theorem dX12_fault_0 : decode cX12_fault 0 = .ok (.iload_n 1, 1) := by decide +kernel
theorem dX12_fault_1 : decode cX12_fault 1 = .ok (.ifCond .ne 10, 3) := by decide +kernel
theorem dX12_fault_4 : decode cX12_fault 4 = .ok (.aload_n 0, 1) := by decide +kernel
theorem dX12_fault_5 : decode cX12_fault 5 = .ok (.getfield 91, 3) := by decide +kernel
theorem dX12_fault_8 : decode cX12_fault 8 = .ok (.goto 16, 3) := by decide +kernel
theorem dX12_fault_11 : decode cX12_fault 11 = .ok (.iload_n 1, 1) := by decide +kernel
theorem dX12_fault_12 : decode cX12_fault 12 = .ok (.iconst 1, 1) := by decide +kernel
theorem dX12_fault_13 : decode cX12_fault 13 = .ok (.if_icmp .ne 10, 3) := by decide +kernel
theorem dX12_fault_16 : decode cX12_fault 16 = .ok (.aload_n 0, 1) := by decide +kernel
theorem dX12_fault_17 : decode cX12_fault 17 = .ok (.getfield 22, 3) := by decide +kernel
theorem dX12_fault_20 : decode cX12_fault 20 = .ok (.goto 4, 3) := by decide +kernel
theorem dX12_fault_23 : decode cX12_fault 23 = .ok (.iconst (-1), 1) := by decide +kernel
theorem dX12_fault_24 : decode cX12_fault 24 = .ok (.ireturn, 1) := by decide +kernel
theorem dX12_many_0 : decode cX12_many 0 = .ok (.aload_n 0, 1) := by decide +kernel
theorem dX12_many_1 : decode cX12_many 1 = .ok (.getfield 9, 3) := by decide +kernel
theorem dX12_many_4 : decode cX12_many 4 = .ok (.iconst 0, 1) := by decide +kernel
theorem dX12_many_5 : decode cX12_many 5 = .ok (.iaload, 1) := by decide +kernel
theorem dX12_many_6 : decode cX12_many 6 = .ok (.aload_n 0, 1) := by decide +kernel
theorem dX12_many_7 : decode cX12_many 7 = .ok (.getfield 9, 3) := by decide +kernel
theorem dX12_many_10 : decode cX12_many 10 = .ok (.iconst 1, 1) := by decide +kernel
theorem dX12_many_11 : decode cX12_many 11 = .ok (.iaload, 1) := by decide +kernel
theorem dX12_many_12 : decode cX12_many 12 = .ok (.imul, 1) := by decide +kernel
theorem dX12_many_13 : decode cX12_many 13 = .ok (.ireturn, 1) := by decide +kernel
theorem dX12_totalNow_0 : decode cX12_totalNow 0 = .ok (.iconst 0, 1) := by decide +kernel
theorem dX12_totalNow_1 : decode cX12_totalNow 1 = .ok (.istore_n 1, 1) := by decide +kernel
theorem dX12_totalNow_2 : decode cX12_totalNow 2 = .ok (.iconst 0, 1) := by decide +kernel
theorem dX12_totalNow_3 : decode cX12_totalNow 3 = .ok (.istore_n 2, 1) := by decide +kernel
theorem dX12_totalNow_4 : decode cX12_totalNow 4 = .ok (.iload_n 2, 1) := by decide +kernel
theorem dX12_totalNow_5 : decode cX12_totalNow 5 = .ok (.aload_n 0, 1) := by decide +kernel
theorem dX12_totalNow_6 : decode cX12_totalNow 6 = .ok (.invokevirtual 150, 3) := by decide +kernel
theorem dX12_totalNow_9 : decode cX12_totalNow 9 = .ok (.if_icmp .ge 20, 3) := by decide +kernel
theorem dX12_totalNow_12 : decode cX12_totalNow 12 = .ok (.iload_n 1, 1) := by decide +kernel
theorem dX12_totalNow_13 : decode cX12_totalNow 13 = .ok (.aload_n 0, 1) := by decide +kernel
theorem dX12_totalNow_14 : decode cX12_totalNow 14 = .ok (.getfield 9, 3) := by decide +kernel
theorem dX12_totalNow_17 : decode cX12_totalNow 17 = .ok (.iconst 5, 1) := by decide +kernel
theorem dX12_totalNow_18 : decode cX12_totalNow 18 = .ok (.iload_n 2, 1) := by decide +kernel
theorem dX12_totalNow_19 : decode cX12_totalNow 19 = .ok (.iadd, 1) := by decide +kernel
theorem dX12_totalNow_20 : decode cX12_totalNow 20 = .ok (.iaload, 1) := by decide +kernel
theorem dX12_totalNow_21 : decode cX12_totalNow 21 = .ok (.iadd, 1) := by decide +kernel
theorem dX12_totalNow_22 : decode cX12_totalNow 22 = .ok (.istore_n 1, 1) := by decide +kernel
theorem dX12_totalNow_23 : decode cX12_totalNow 23 = .ok (.iinc 2 1, 3) := by decide +kernel
theorem dX12_totalNow_26 : decode cX12_totalNow 26 = .ok (.goto (-22), 3) := by decide +kernel
theorem dX12_totalNow_29 : decode cX12_totalNow 29 = .ok (.iload_n 1, 1) := by decide +kernel
theorem dX12_totalNow_30 : decode cX12_totalNow 30 = .ok (.ireturn, 1) := by decide +kernel
theorem dX12_count_0 : decode cX12_count 0 = .ok (.iload_n 1, 1) := by decide +kernel
theorem dX12_count_1 : decode cX12_count 1 = .ok (.tableswitch 91 0 6 #[43, 50, 57, 62, 72, 79, 86], 43) := by decide +kernel
theorem dX12_count_44 : decode cX12_count 44 = .ok (.aload_n 0, 1) := by decide +kernel
theorem dX12_count_45 : decode cX12_count 45 = .ok (.getfield 9, 3) := by decide +kernel
theorem dX12_count_48 : decode cX12_count 48 = .ok (.iconst 0, 1) := by decide +kernel
theorem dX12_count_49 : decode cX12_count 49 = .ok (.iaload, 1) := by decide +kernel
theorem dX12_count_50 : decode cX12_count 50 = .ok (.ireturn, 1) := by decide +kernel
theorem dX12_count_51 : decode cX12_count 51 = .ok (.aload_n 0, 1) := by decide +kernel
theorem dX12_count_52 : decode cX12_count 52 = .ok (.getfield 9, 3) := by decide +kernel
theorem dX12_count_55 : decode cX12_count 55 = .ok (.iconst 1, 1) := by decide +kernel
theorem dX12_count_56 : decode cX12_count 56 = .ok (.iaload, 1) := by decide +kernel
theorem dX12_count_57 : decode cX12_count 57 = .ok (.ireturn, 1) := by decide +kernel
theorem dX12_count_58 : decode cX12_count 58 = .ok (.aload_n 0, 1) := by decide +kernel
theorem dX12_count_59 : decode cX12_count 59 = .ok (.invokevirtual 153, 3) := by decide +kernel
theorem dX12_count_62 : decode cX12_count 62 = .ok (.ireturn, 1) := by decide +kernel
theorem dX12_count_63 : decode cX12_count 63 = .ok (.aload_n 0, 1) := by decide +kernel
theorem dX12_count_64 : decode cX12_count 64 = .ok (.getfield 9, 3) := by decide +kernel
theorem dX12_count_67 : decode cX12_count 67 = .ok (.iconst 2, 1) := by decide +kernel
theorem dX12_count_68 : decode cX12_count 68 = .ok (.iaload, 1) := by decide +kernel
theorem dX12_count_69 : decode cX12_count 69 = .ok (.invokestatic 156, 3) := by decide +kernel
theorem dX12_count_72 : decode cX12_count 72 = .ok (.ireturn, 1) := by decide +kernel
theorem dX12_count_73 : decode cX12_count 73 = .ok (.aload_n 0, 1) := by decide +kernel
theorem dX12_count_74 : decode cX12_count 74 = .ok (.getfield 9, 3) := by decide +kernel
theorem dX12_count_77 : decode cX12_count 77 = .ok (.iconst 4, 1) := by decide +kernel
theorem dX12_count_78 : decode cX12_count 78 = .ok (.iaload, 1) := by decide +kernel
theorem dX12_count_79 : decode cX12_count 79 = .ok (.ireturn, 1) := by decide +kernel
theorem dX12_count_80 : decode cX12_count 80 = .ok (.aload_n 0, 1) := by decide +kernel
theorem dX12_count_81 : decode cX12_count 81 = .ok (.getfield 9, 3) := by decide +kernel
theorem dX12_count_84 : decode cX12_count 84 = .ok (.iconst 3, 1) := by decide +kernel
theorem dX12_count_85 : decode cX12_count 85 = .ok (.iaload, 1) := by decide +kernel
theorem dX12_count_86 : decode cX12_count 86 = .ok (.ireturn, 1) := by decide +kernel
theorem dX12_count_87 : decode cX12_count 87 = .ok (.aload_n 0, 1) := by decide +kernel
theorem dX12_count_88 : decode cX12_count 88 = .ok (.getfield 57, 3) := by decide +kernel
theorem dX12_count_91 : decode cX12_count 91 = .ok (.ireturn, 1) := by decide +kernel
theorem dX12_count_92 : decode cX12_count 92 = .ok (.iconst (-1), 1) := by decide +kernel
theorem dX12_count_93 : decode cX12_count 93 = .ok (.ireturn, 1) := by decide +kernel
theorem dX12_isCell_0 : decode cX12_isCell 0 = .ok (.iload_n 1, 1) := by decide +kernel
theorem dX12_isCell_1 : decode cX12_isCell 1 = .ok (.i2l, 1) := by decide +kernel
theorem dX12_isCell_2 : decode cX12_isCell 2 = .ok (.lconst 0, 1) := by decide +kernel
theorem dX12_isCell_3 : decode cX12_isCell 3 = .ok (.aload_n 0, 1) := by decide +kernel
theorem dX12_isCell_4 : decode cX12_isCell 4 = .ok (.getfield 9, 3) := by decide +kernel
theorem dX12_isCell_7 : decode cX12_isCell 7 = .ok (.iconst 0, 1) := by decide +kernel
theorem dX12_isCell_8 : decode cX12_isCell 8 = .ok (.iaload, 1) := by decide +kernel
theorem dX12_isCell_9 : decode cX12_isCell 9 = .ok (.iconst 1, 1) := by decide +kernel
theorem dX12_isCell_10 : decode cX12_isCell 10 = .ok (.isub, 1) := by decide +kernel
theorem dX12_isCell_11 : decode cX12_isCell 11 = .ok (.i2l, 1) := by decide +kernel
theorem dX12_isCell_12 : decode cX12_isCell 12 = .ok (.invokestatic 60, 3) := by decide +kernel
theorem dX12_isCell_15 : decode cX12_isCell 15 = .ok (.ifCond .eq 25, 3) := by decide +kernel
theorem dX12_isCell_18 : decode cX12_isCell 18 = .ok (.iload_n 2, 1) := by decide +kernel
theorem dX12_isCell_19 : decode cX12_isCell 19 = .ok (.i2l, 1) := by decide +kernel
theorem dX12_isCell_20 : decode cX12_isCell 20 = .ok (.lconst 0, 1) := by decide +kernel
theorem dX12_isCell_21 : decode cX12_isCell 21 = .ok (.aload_n 0, 1) := by decide +kernel
theorem dX12_isCell_22 : decode cX12_isCell 22 = .ok (.getfield 9, 3) := by decide +kernel
theorem dX12_isCell_25 : decode cX12_isCell 25 = .ok (.iconst 1, 1) := by decide +kernel
theorem dX12_isCell_26 : decode cX12_isCell 26 = .ok (.iaload, 1) := by decide +kernel
theorem dX12_isCell_27 : decode cX12_isCell 27 = .ok (.iconst 1, 1) := by decide +kernel
theorem dX12_isCell_28 : decode cX12_isCell 28 = .ok (.isub, 1) := by decide +kernel
theorem dX12_isCell_29 : decode cX12_isCell 29 = .ok (.i2l, 1) := by decide +kernel
theorem dX12_isCell_30 : decode cX12_isCell 30 = .ok (.invokestatic 60, 3) := by decide +kernel
theorem dX12_isCell_33 : decode cX12_isCell 33 = .ok (.ifCond .eq 7, 3) := by decide +kernel
theorem dX12_isCell_36 : decode cX12_isCell 36 = .ok (.iconst 1, 1) := by decide +kernel
theorem dX12_isCell_37 : decode cX12_isCell 37 = .ok (.goto 4, 3) := by decide +kernel
theorem dX12_isCell_40 : decode cX12_isCell 40 = .ok (.iconst 0, 1) := by decide +kernel
theorem dX12_isCell_41 : decode cX12_isCell 41 = .ok (.ireturn, 1) := by decide +kernel
theorem dX12_sumOfRow_0 : decode cX12_sumOfRow 0 = .ok (.iconst 0, 1) := by decide +kernel
theorem dX12_sumOfRow_1 : decode cX12_sumOfRow 1 = .ok (.istore_n 2, 1) := by decide +kernel
theorem dX12_sumOfRow_2 : decode cX12_sumOfRow 2 = .ok (.iconst 0, 1) := by decide +kernel
theorem dX12_sumOfRow_3 : decode cX12_sumOfRow 3 = .ok (.istore_n 3, 1) := by decide +kernel
theorem dX12_sumOfRow_4 : decode cX12_sumOfRow 4 = .ok (.iload_n 3, 1) := by decide +kernel
theorem dX12_sumOfRow_5 : decode cX12_sumOfRow 5 = .ok (.aload_n 0, 1) := by decide +kernel
theorem dX12_sumOfRow_6 : decode cX12_sumOfRow 6 = .ok (.getfield 9, 3) := by decide +kernel
theorem dX12_sumOfRow_9 : decode cX12_sumOfRow 9 = .ok (.iconst 1, 1) := by decide +kernel
theorem dX12_sumOfRow_10 : decode cX12_sumOfRow 10 = .ok (.iaload, 1) := by decide +kernel
theorem dX12_sumOfRow_11 : decode cX12_sumOfRow 11 = .ok (.if_icmp .ge 25, 3) := by decide +kernel
theorem dX12_sumOfRow_14 : decode cX12_sumOfRow 14 = .ok (.iload_n 2, 1) := by decide +kernel
theorem dX12_sumOfRow_15 : decode cX12_sumOfRow 15 = .ok (.aload_n 0, 1) := by decide +kernel
theorem dX12_sumOfRow_16 : decode cX12_sumOfRow 16 = .ok (.getfield 9, 3) := by decide +kernel
theorem dX12_sumOfRow_19 : decode cX12_sumOfRow 19 = .ok (.iconst 5, 1) := by decide +kernel
theorem dX12_sumOfRow_20 : decode cX12_sumOfRow 20 = .ok (.aload_n 0, 1) := by decide +kernel
theorem dX12_sumOfRow_21 : decode cX12_sumOfRow 21 = .ok (.iload_n 1, 1) := by decide +kernel
theorem dX12_sumOfRow_22 : decode cX12_sumOfRow 22 = .ok (.iload_n 3, 1) := by decide +kernel
theorem dX12_sumOfRow_23 : decode cX12_sumOfRow 23 = .ok (.invokevirtual 133, 3) := by decide +kernel
theorem dX12_sumOfRow_26 : decode cX12_sumOfRow 26 = .ok (.iadd, 1) := by decide +kernel
theorem dX12_sumOfRow_27 : decode cX12_sumOfRow 27 = .ok (.iaload, 1) := by decide +kernel
theorem dX12_sumOfRow_28 : decode cX12_sumOfRow 28 = .ok (.iadd, 1) := by decide +kernel
theorem dX12_sumOfRow_29 : decode cX12_sumOfRow 29 = .ok (.istore_n 2, 1) := by decide +kernel
theorem dX12_sumOfRow_30 : decode cX12_sumOfRow 30 = .ok (.iinc 3 1, 3) := by decide +kernel
theorem dX12_sumOfRow_33 : decode cX12_sumOfRow 33 = .ok (.goto (-29), 3) := by decide +kernel
theorem dX12_sumOfRow_36 : decode cX12_sumOfRow 36 = .ok (.iload_n 2, 1) := by decide +kernel
theorem dX12_sumOfRow_37 : decode cX12_sumOfRow 37 = .ok (.ireturn, 1) := by decide +kernel
theorem dX12_sumOfColumn_0 : decode cX12_sumOfColumn 0 = .ok (.iconst 0, 1) := by decide +kernel
theorem dX12_sumOfColumn_1 : decode cX12_sumOfColumn 1 = .ok (.istore_n 2, 1) := by decide +kernel
theorem dX12_sumOfColumn_2 : decode cX12_sumOfColumn 2 = .ok (.iconst 0, 1) := by decide +kernel
theorem dX12_sumOfColumn_3 : decode cX12_sumOfColumn 3 = .ok (.istore_n 3, 1) := by decide +kernel
theorem dX12_sumOfColumn_4 : decode cX12_sumOfColumn 4 = .ok (.iload_n 3, 1) := by decide +kernel
theorem dX12_sumOfColumn_5 : decode cX12_sumOfColumn 5 = .ok (.aload_n 0, 1) := by decide +kernel
theorem dX12_sumOfColumn_6 : decode cX12_sumOfColumn 6 = .ok (.getfield 9, 3) := by decide +kernel
theorem dX12_sumOfColumn_9 : decode cX12_sumOfColumn 9 = .ok (.iconst 0, 1) := by decide +kernel
theorem dX12_sumOfColumn_10 : decode cX12_sumOfColumn 10 = .ok (.iaload, 1) := by decide +kernel
theorem dX12_sumOfColumn_11 : decode cX12_sumOfColumn 11 = .ok (.if_icmp .ge 25, 3) := by decide +kernel
theorem dX12_sumOfColumn_14 : decode cX12_sumOfColumn 14 = .ok (.iload_n 2, 1) := by decide +kernel
theorem dX12_sumOfColumn_15 : decode cX12_sumOfColumn 15 = .ok (.aload_n 0, 1) := by decide +kernel
theorem dX12_sumOfColumn_16 : decode cX12_sumOfColumn 16 = .ok (.getfield 9, 3) := by decide +kernel
theorem dX12_sumOfColumn_19 : decode cX12_sumOfColumn 19 = .ok (.iconst 5, 1) := by decide +kernel
theorem dX12_sumOfColumn_20 : decode cX12_sumOfColumn 20 = .ok (.aload_n 0, 1) := by decide +kernel
theorem dX12_sumOfColumn_21 : decode cX12_sumOfColumn 21 = .ok (.iload_n 3, 1) := by decide +kernel
theorem dX12_sumOfColumn_22 : decode cX12_sumOfColumn 22 = .ok (.iload_n 1, 1) := by decide +kernel
theorem dX12_sumOfColumn_23 : decode cX12_sumOfColumn 23 = .ok (.invokevirtual 133, 3) := by decide +kernel
theorem dX12_sumOfColumn_26 : decode cX12_sumOfColumn 26 = .ok (.iadd, 1) := by decide +kernel
theorem dX12_sumOfColumn_27 : decode cX12_sumOfColumn 27 = .ok (.iaload, 1) := by decide +kernel
theorem dX12_sumOfColumn_28 : decode cX12_sumOfColumn 28 = .ok (.iadd, 1) := by decide +kernel
theorem dX12_sumOfColumn_29 : decode cX12_sumOfColumn 29 = .ok (.istore_n 2, 1) := by decide +kernel
theorem dX12_sumOfColumn_30 : decode cX12_sumOfColumn 30 = .ok (.iinc 3 1, 3) := by decide +kernel
theorem dX12_sumOfColumn_33 : decode cX12_sumOfColumn 33 = .ok (.goto (-29), 3) := by decide +kernel
theorem dX12_sumOfColumn_36 : decode cX12_sumOfColumn 36 = .ok (.iload_n 2, 1) := by decide +kernel
theorem dX12_sumOfColumn_37 : decode cX12_sumOfColumn 37 = .ok (.ireturn, 1) := by decide +kernel
theorem dX12_cell_0 : decode cX12_cell 0 = .ok (.aload_n 0, 1) := by decide +kernel
theorem dX12_cell_1 : decode cX12_cell 1 = .ok (.iload_n 1, 1) := by decide +kernel
theorem dX12_cell_2 : decode cX12_cell 2 = .ok (.iload_n 2, 1) := by decide +kernel
theorem dX12_cell_3 : decode cX12_cell 3 = .ok (.invokevirtual 160, 3) := by decide +kernel
theorem dX12_cell_6 : decode cX12_cell 6 = .ok (.ifCond .eq 19, 3) := by decide +kernel
theorem dX12_cell_9 : decode cX12_cell 9 = .ok (.aload_n 0, 1) := by decide +kernel
theorem dX12_cell_10 : decode cX12_cell 10 = .ok (.getfield 9, 3) := by decide +kernel
theorem dX12_cell_13 : decode cX12_cell 13 = .ok (.iconst 5, 1) := by decide +kernel
theorem dX12_cell_14 : decode cX12_cell 14 = .ok (.aload_n 0, 1) := by decide +kernel
theorem dX12_cell_15 : decode cX12_cell 15 = .ok (.iload_n 1, 1) := by decide +kernel
theorem dX12_cell_16 : decode cX12_cell 16 = .ok (.iload_n 2, 1) := by decide +kernel
theorem dX12_cell_17 : decode cX12_cell 17 = .ok (.invokevirtual 133, 3) := by decide +kernel
theorem dX12_cell_20 : decode cX12_cell 20 = .ok (.iadd, 1) := by decide +kernel
theorem dX12_cell_21 : decode cX12_cell 21 = .ok (.iaload, 1) := by decide +kernel
theorem dX12_cell_22 : decode cX12_cell 22 = .ok (.goto 5, 3) := by decide +kernel
theorem dX12_cell_25 : decode cX12_cell 25 = .ok (.bipush (-2), 2) := by decide +kernel
theorem dX12_cell_27 : decode cX12_cell 27 = .ok (.ireturn, 1) := by decide +kernel
theorem dX12_hole_0 : decode cX12_hole 0 = .ok (.aload_n 0, 1) := by decide +kernel
theorem dX12_hole_1 : decode cX12_hole 1 = .ok (.iload_n 1, 1) := by decide +kernel
theorem dX12_hole_2 : decode cX12_hole 2 = .ok (.iload_n 2, 1) := by decide +kernel
theorem dX12_hole_3 : decode cX12_hole 3 = .ok (.invokevirtual 160, 3) := by decide +kernel
theorem dX12_hole_6 : decode cX12_hole 6 = .ok (.ifCond .ne 6, 3) := by decide +kernel
theorem dX12_hole_9 : decode cX12_hole 9 = .ok (.bipush (-2), 2) := by decide +kernel
theorem dX12_hole_11 : decode cX12_hole 11 = .ok (.ireturn, 1) := by decide +kernel
theorem dX12_hole_12 : decode cX12_hole 12 = .ok (.aload_n 0, 1) := by decide +kernel
theorem dX12_hole_13 : decode cX12_hole 13 = .ok (.getfield 9, 3) := by decide +kernel
theorem dX12_hole_16 : decode cX12_hole 16 = .ok (.iconst 2, 1) := by decide +kernel
theorem dX12_hole_17 : decode cX12_hole 17 = .ok (.iaload, 1) := by decide +kernel
theorem dX12_hole_18 : decode cX12_hole 18 = .ok (.aload_n 0, 1) := by decide +kernel
theorem dX12_hole_19 : decode cX12_hole 19 = .ok (.iload_n 1, 1) := by decide +kernel
theorem dX12_hole_20 : decode cX12_hole 20 = .ok (.iload_n 2, 1) := by decide +kernel
theorem dX12_hole_21 : decode cX12_hole 21 = .ok (.invokevirtual 133, 3) := by decide +kernel
theorem dX12_hole_24 : decode cX12_hole 24 = .ok (.invokestatic 138, 3) := by decide +kernel
theorem dX12_hole_27 : decode cX12_hole 27 = .ok (.ifCond .eq 7, 3) := by decide +kernel
theorem dX12_hole_30 : decode cX12_hole 30 = .ok (.iconst 1, 1) := by decide +kernel
theorem dX12_hole_31 : decode cX12_hole 31 = .ok (.goto 4, 3) := by decide +kernel
theorem dX12_hole_34 : decode cX12_hole 34 = .ok (.iconst 0, 1) := by decide +kernel
theorem dX12_hole_35 : decode cX12_hole 35 = .ok (.ireturn, 1) := by decide +kernel
theorem dX12_row_0 : decode cX12_row 0 = .ok (.iload_n 1, 1) := by decide +kernel
theorem dX12_row_1 : decode cX12_row 1 = .ok (.i2l, 1) := by decide +kernel
theorem dX12_row_2 : decode cX12_row 2 = .ok (.lconst 0, 1) := by decide +kernel
theorem dX12_row_3 : decode cX12_row 3 = .ok (.aload_n 0, 1) := by decide +kernel
theorem dX12_row_4 : decode cX12_row 4 = .ok (.getfield 9, 3) := by decide +kernel
theorem dX12_row_7 : decode cX12_row 7 = .ok (.iconst 0, 1) := by decide +kernel
theorem dX12_row_8 : decode cX12_row 8 = .ok (.iaload, 1) := by decide +kernel
theorem dX12_row_9 : decode cX12_row 9 = .ok (.iconst 1, 1) := by decide +kernel
theorem dX12_row_10 : decode cX12_row 10 = .ok (.isub, 1) := by decide +kernel
theorem dX12_row_11 : decode cX12_row 11 = .ok (.i2l, 1) := by decide +kernel
theorem dX12_row_12 : decode cX12_row 12 = .ok (.invokestatic 60, 3) := by decide +kernel
theorem dX12_row_15 : decode cX12_row 15 = .ok (.ifCond .eq 11, 3) := by decide +kernel
theorem dX12_row_18 : decode cX12_row 18 = .ok (.aload_n 0, 1) := by decide +kernel
theorem dX12_row_19 : decode cX12_row 19 = .ok (.iload_n 1, 1) := by decide +kernel
theorem dX12_row_20 : decode cX12_row 20 = .ok (.invokevirtual 163, 3) := by decide +kernel
theorem dX12_row_23 : decode cX12_row 23 = .ok (.goto 5, 3) := by decide +kernel
theorem dX12_row_26 : decode cX12_row 26 = .ok (.bipush (-2), 2) := by decide +kernel
theorem dX12_row_28 : decode cX12_row 28 = .ok (.ireturn, 1) := by decide +kernel
theorem dX12_column_0 : decode cX12_column 0 = .ok (.iload_n 1, 1) := by decide +kernel
theorem dX12_column_1 : decode cX12_column 1 = .ok (.i2l, 1) := by decide +kernel
theorem dX12_column_2 : decode cX12_column 2 = .ok (.lconst 0, 1) := by decide +kernel
theorem dX12_column_3 : decode cX12_column 3 = .ok (.aload_n 0, 1) := by decide +kernel
theorem dX12_column_4 : decode cX12_column 4 = .ok (.getfield 9, 3) := by decide +kernel
theorem dX12_column_7 : decode cX12_column 7 = .ok (.iconst 1, 1) := by decide +kernel
theorem dX12_column_8 : decode cX12_column 8 = .ok (.iaload, 1) := by decide +kernel
theorem dX12_column_9 : decode cX12_column 9 = .ok (.iconst 1, 1) := by decide +kernel
theorem dX12_column_10 : decode cX12_column 10 = .ok (.isub, 1) := by decide +kernel
theorem dX12_column_11 : decode cX12_column 11 = .ok (.i2l, 1) := by decide +kernel
theorem dX12_column_12 : decode cX12_column 12 = .ok (.invokestatic 60, 3) := by decide +kernel
theorem dX12_column_15 : decode cX12_column 15 = .ok (.ifCond .eq 11, 3) := by decide +kernel
theorem dX12_column_18 : decode cX12_column 18 = .ok (.aload_n 0, 1) := by decide +kernel
theorem dX12_column_19 : decode cX12_column 19 = .ok (.iload_n 1, 1) := by decide +kernel
theorem dX12_column_20 : decode cX12_column 20 = .ok (.invokevirtual 166, 3) := by decide +kernel
theorem dX12_column_23 : decode cX12_column 23 = .ok (.goto 5, 3) := by decide +kernel
theorem dX12_column_26 : decode cX12_column 26 = .ok (.bipush (-2), 2) := by decide +kernel
theorem dX12_column_28 : decode cX12_column 28 = .ok (.ireturn, 1) := by decide +kernel
theorem dX12_goesAll_0 : decode cX12_goesAll 0 = .ok (.aload_n 0, 1) := by decide +kernel
theorem dX12_goesAll_1 : decode cX12_goesAll 1 = .ok (.iload_n 1, 1) := by decide +kernel
theorem dX12_goesAll_2 : decode cX12_goesAll 2 = .ok (.putfield 169, 3) := by decide +kernel
theorem dX12_goesAll_5 : decode cX12_goesAll 5 = .ok (.aload_n 0, 1) := by decide +kernel
theorem dX12_goesAll_6 : decode cX12_goesAll 6 = .ok (.iconst 0, 1) := by decide +kernel
theorem dX12_goesAll_7 : decode cX12_goesAll 7 = .ok (.putfield 172, 3) := by decide +kernel
theorem dX12_goesAll_10 : decode cX12_goesAll 10 = .ok (.aload_n 0, 1) := by decide +kernel
theorem dX12_goesAll_11 : decode cX12_goesAll 11 = .ok (.lconst 0, 1) := by decide +kernel
theorem dX12_goesAll_12 : decode cX12_goesAll 12 = .ok (.putfield 175, 3) := by decide +kernel
theorem dX12_goesAll_15 : decode cX12_goesAll 15 = .ok (.aload_n 0, 1) := by decide +kernel
theorem dX12_goesAll_16 : decode cX12_goesAll 16 = .ok (.ldc2_w 179, 3) := by decide +kernel
theorem dX12_goesAll_19 : decode cX12_goesAll 19 = .ok (.putfield 181, 3) := by decide +kernel
theorem dX12_goesAll_22 : decode cX12_goesAll 22 = .ok (.iconst 0, 1) := by decide +kernel
theorem dX12_goesAll_23 : decode cX12_goesAll 23 = .ok (.istore_n 2, 1) := by decide +kernel
theorem dX12_goesAll_24 : decode cX12_goesAll 24 = .ok (.iload_n 2, 1) := by decide +kernel
theorem dX12_goesAll_25 : decode cX12_goesAll 25 = .ok (.aload_n 0, 1) := by decide +kernel
theorem dX12_goesAll_26 : decode cX12_goesAll 26 = .ok (.getfield 9, 3) := by decide +kernel
theorem dX12_goesAll_29 : decode cX12_goesAll 29 = .ok (.iconst 0, 1) := by decide +kernel
theorem dX12_goesAll_30 : decode cX12_goesAll 30 = .ok (.iaload, 1) := by decide +kernel
theorem dX12_goesAll_31 : decode cX12_goesAll 31 = .ok (.if_icmp .ge 20, 3) := by decide +kernel
theorem dX12_goesAll_34 : decode cX12_goesAll 34 = .ok (.aload_n 0, 1) := by decide +kernel
theorem dX12_goesAll_35 : decode cX12_goesAll 35 = .ok (.getfield 29, 3) := by decide +kernel
theorem dX12_goesAll_38 : decode cX12_goesAll 38 = .ok (.iload_n 2, 1) := by decide +kernel
theorem dX12_goesAll_39 : decode cX12_goesAll 39 = .ok (.aload_n 0, 1) := by decide +kernel
theorem dX12_goesAll_40 : decode cX12_goesAll 40 = .ok (.iload_n 2, 1) := by decide +kernel
theorem dX12_goesAll_41 : decode cX12_goesAll 41 = .ok (.invokevirtual 163, 3) := by decide +kernel
theorem dX12_goesAll_44 : decode cX12_goesAll 44 = .ok (.iastore, 1) := by decide +kernel
theorem dX12_goesAll_45 : decode cX12_goesAll 45 = .ok (.iinc 2 1, 3) := by decide +kernel
theorem dX12_goesAll_48 : decode cX12_goesAll 48 = .ok (.goto (-24), 3) := by decide +kernel
theorem dX12_goesAll_51 : decode cX12_goesAll 51 = .ok (.iconst 0, 1) := by decide +kernel
theorem dX12_goesAll_52 : decode cX12_goesAll 52 = .ok (.istore_n 2, 1) := by decide +kernel
theorem dX12_goesAll_53 : decode cX12_goesAll 53 = .ok (.iload_n 2, 1) := by decide +kernel
theorem dX12_goesAll_54 : decode cX12_goesAll 54 = .ok (.aload_n 0, 1) := by decide +kernel
theorem dX12_goesAll_55 : decode cX12_goesAll 55 = .ok (.getfield 9, 3) := by decide +kernel
theorem dX12_goesAll_58 : decode cX12_goesAll 58 = .ok (.iconst 1, 1) := by decide +kernel
theorem dX12_goesAll_59 : decode cX12_goesAll 59 = .ok (.iaload, 1) := by decide +kernel
theorem dX12_goesAll_60 : decode cX12_goesAll 60 = .ok (.if_icmp .ge 20, 3) := by decide +kernel
theorem dX12_goesAll_63 : decode cX12_goesAll 63 = .ok (.aload_n 0, 1) := by decide +kernel
theorem dX12_goesAll_64 : decode cX12_goesAll 64 = .ok (.getfield 32, 3) := by decide +kernel
theorem dX12_goesAll_67 : decode cX12_goesAll 67 = .ok (.iload_n 2, 1) := by decide +kernel
theorem dX12_goesAll_68 : decode cX12_goesAll 68 = .ok (.aload_n 0, 1) := by decide +kernel
theorem dX12_goesAll_69 : decode cX12_goesAll 69 = .ok (.iload_n 2, 1) := by decide +kernel
theorem dX12_goesAll_70 : decode cX12_goesAll 70 = .ok (.invokevirtual 166, 3) := by decide +kernel
theorem dX12_goesAll_73 : decode cX12_goesAll 73 = .ok (.iastore, 1) := by decide +kernel
theorem dX12_goesAll_74 : decode cX12_goesAll 74 = .ok (.iinc 2 1, 3) := by decide +kernel
theorem dX12_goesAll_77 : decode cX12_goesAll 77 = .ok (.goto (-24), 3) := by decide +kernel
theorem dX12_goesAll_80 : decode cX12_goesAll 80 = .ok (.aload_n 0, 1) := by decide +kernel
theorem dX12_goesAll_81 : decode cX12_goesAll 81 = .ok (.iconst 0, 1) := by decide +kernel
theorem dX12_goesAll_82 : decode cX12_goesAll 82 = .ok (.invokevirtual 184, 3) := by decide +kernel
theorem dX12_goesAll_85 : decode cX12_goesAll 85 = .ok (.return_, 1) := by decide +kernel
theorem dX12_hasPlace_0 : decode cX12_hasPlace 0 = .ok (.iconst 0, 1) := by decide +kernel
theorem dX12_hasPlace_1 : decode cX12_hasPlace 1 = .ok (.istore 4, 2) := by decide +kernel
theorem dX12_hasPlace_3 : decode cX12_hasPlace 3 = .ok (.iload_n 2, 1) := by decide +kernel
theorem dX12_hasPlace_4 : decode cX12_hasPlace 4 = .ok (.iconst 1, 1) := by decide +kernel
theorem dX12_hasPlace_5 : decode cX12_hasPlace 5 = .ok (.iadd, 1) := by decide +kernel
theorem dX12_hasPlace_6 : decode cX12_hasPlace 6 = .ok (.istore 5, 2) := by decide +kernel
theorem dX12_hasPlace_8 : decode cX12_hasPlace 8 = .ok (.iload 5, 2) := by decide +kernel
theorem dX12_hasPlace_10 : decode cX12_hasPlace 10 = .ok (.aload_n 0, 1) := by decide +kernel
theorem dX12_hasPlace_11 : decode cX12_hasPlace 11 = .ok (.getfield 9, 3) := by decide +kernel
theorem dX12_hasPlace_14 : decode cX12_hasPlace 14 = .ok (.iconst 1, 1) := by decide +kernel
theorem dX12_hasPlace_15 : decode cX12_hasPlace 15 = .ok (.iaload, 1) := by decide +kernel
theorem dX12_hasPlace_16 : decode cX12_hasPlace 16 = .ok (.if_icmp .ge 44, 3) := by decide +kernel
theorem dX12_hasPlace_19 : decode cX12_hasPlace 19 = .ok (.iload 4, 2) := by decide +kernel
theorem dX12_hasPlace_21 : decode cX12_hasPlace 21 = .ok (.aload_n 0, 1) := by decide +kernel
theorem dX12_hasPlace_22 : decode cX12_hasPlace 22 = .ok (.getfield 9, 3) := by decide +kernel
theorem dX12_hasPlace_25 : decode cX12_hasPlace 25 = .ok (.iconst 2, 1) := by decide +kernel
theorem dX12_hasPlace_26 : decode cX12_hasPlace 26 = .ok (.iaload, 1) := by decide +kernel
theorem dX12_hasPlace_27 : decode cX12_hasPlace 27 = .ok (.aload_n 0, 1) := by decide +kernel
theorem dX12_hasPlace_28 : decode cX12_hasPlace 28 = .ok (.iload_n 1, 1) := by decide +kernel
theorem dX12_hasPlace_29 : decode cX12_hasPlace 29 = .ok (.iload 5, 2) := by decide +kernel
theorem dX12_hasPlace_31 : decode cX12_hasPlace 31 = .ok (.invokevirtual 133, 3) := by decide +kernel
theorem dX12_hasPlace_34 : decode cX12_hasPlace 34 = .ok (.invokestatic 138, 3) := by decide +kernel
theorem dX12_hasPlace_37 : decode cX12_hasPlace 37 = .ok (.ifCond .eq 7, 3) := by decide +kernel
theorem dX12_hasPlace_40 : decode cX12_hasPlace 40 = .ok (.iconst 0, 1) := by decide +kernel
theorem dX12_hasPlace_41 : decode cX12_hasPlace 41 = .ok (.goto 10, 3) := by decide +kernel
theorem dX12_hasPlace_44 : decode cX12_hasPlace 44 = .ok (.aload_n 0, 1) := by decide +kernel
theorem dX12_hasPlace_45 : decode cX12_hasPlace 45 = .ok (.getfield 32, 3) := by decide +kernel
theorem dX12_hasPlace_48 : decode cX12_hasPlace 48 = .ok (.iload 5, 2) := by decide +kernel
theorem dX12_hasPlace_50 : decode cX12_hasPlace 50 = .ok (.iaload, 1) := by decide +kernel
theorem dX12_hasPlace_51 : decode cX12_hasPlace 51 = .ok (.iadd, 1) := by decide +kernel
theorem dX12_hasPlace_52 : decode cX12_hasPlace 52 = .ok (.istore 4, 2) := by decide +kernel
theorem dX12_hasPlace_54 : decode cX12_hasPlace 54 = .ok (.iinc 5 1, 3) := by decide +kernel
theorem dX12_hasPlace_57 : decode cX12_hasPlace 57 = .ok (.goto (-49), 3) := by decide +kernel
theorem dX12_hasPlace_60 : decode cX12_hasPlace 60 = .ok (.iload 4, 2) := by decide +kernel
theorem dX12_hasPlace_62 : decode cX12_hasPlace 62 = .ok (.iload_n 3, 1) := by decide +kernel
theorem dX12_hasPlace_63 : decode cX12_hasPlace 63 = .ok (.if_icmp .lt 7, 3) := by decide +kernel
theorem dX12_hasPlace_66 : decode cX12_hasPlace 66 = .ok (.iconst 1, 1) := by decide +kernel
theorem dX12_hasPlace_67 : decode cX12_hasPlace 67 = .ok (.goto 4, 3) := by decide +kernel
theorem dX12_hasPlace_70 : decode cX12_hasPlace 70 = .ok (.iconst 0, 1) := by decide +kernel
theorem dX12_hasPlace_71 : decode cX12_hasPlace 71 = .ok (.ireturn, 1) := by decide +kernel
theorem dX12_goes_0 : decode cX12_goes 0 = .ok (.iload_n 1, 1) := by decide +kernel
theorem dX12_goes_1 : decode cX12_goes 1 = .ok (.aload_n 0, 1) := by decide +kernel
theorem dX12_goes_2 : decode cX12_goes 2 = .ok (.invokevirtual 150, 3) := by decide +kernel
theorem dX12_goes_5 : decode cX12_goes 5 = .ok (.if_icmp .ne 18, 3) := by decide +kernel
theorem dX12_goes_8 : decode cX12_goes 8 = .ok (.aload_n 0, 1) := by decide +kernel
theorem dX12_goes_9 : decode cX12_goes 9 = .ok (.invokevirtual 187, 3) := by decide +kernel
theorem dX12_goes_12 : decode cX12_goes 12 = .ok (.aload_n 0, 1) := by decide +kernel
theorem dX12_goes_13 : decode cX12_goes 13 = .ok (.dup, 1) := by decide +kernel
theorem dX12_goes_14 : decode cX12_goes 14 = .ok (.getfield 175, 3) := by decide +kernel
theorem dX12_goes_17 : decode cX12_goes 17 = .ok (.lconst 1, 1) := by decide +kernel
theorem dX12_goes_18 : decode cX12_goes 18 = .ok (.ladd, 1) := by decide +kernel
theorem dX12_goes_19 : decode cX12_goes 19 = .ok (.putfield 175, 3) := by decide +kernel
theorem dX12_goes_22 : decode cX12_goes 22 = .ok (.return_, 1) := by decide +kernel
theorem dX12_goes_23 : decode cX12_goes 23 = .ok (.iload_n 1, 1) := by decide +kernel
theorem dX12_goes_24 : decode cX12_goes 24 = .ok (.aload_n 0, 1) := by decide +kernel
theorem dX12_goes_25 : decode cX12_goes 25 = .ok (.getfield 9, 3) := by decide +kernel
theorem dX12_goes_28 : decode cX12_goes 28 = .ok (.iconst 1, 1) := by decide +kernel
theorem dX12_goes_29 : decode cX12_goes 29 = .ok (.iaload, 1) := by decide +kernel
theorem dX12_goes_30 : decode cX12_goes 30 = .ok (.idiv, 1) := by decide +kernel
theorem dX12_goes_31 : decode cX12_goes 31 = .ok (.istore_n 2, 1) := by decide +kernel
theorem dX12_goes_32 : decode cX12_goes 32 = .ok (.iload_n 1, 1) := by decide +kernel
theorem dX12_goes_33 : decode cX12_goes 33 = .ok (.aload_n 0, 1) := by decide +kernel
theorem dX12_goes_34 : decode cX12_goes 34 = .ok (.getfield 9, 3) := by decide +kernel
theorem dX12_goes_37 : decode cX12_goes 37 = .ok (.iconst 1, 1) := by decide +kernel
theorem dX12_goes_38 : decode cX12_goes 38 = .ok (.iaload, 1) := by decide +kernel
theorem dX12_goes_39 : decode cX12_goes 39 = .ok (.irem, 1) := by decide +kernel
theorem dX12_goes_40 : decode cX12_goes 40 = .ok (.istore_n 3, 1) := by decide +kernel
theorem dX12_goes_41 : decode cX12_goes 41 = .ok (.aload_n 0, 1) := by decide +kernel
theorem dX12_goes_42 : decode cX12_goes 42 = .ok (.getfield 9, 3) := by decide +kernel
theorem dX12_goes_45 : decode cX12_goes 45 = .ok (.iconst 2, 1) := by decide +kernel
theorem dX12_goes_46 : decode cX12_goes 46 = .ok (.iaload, 1) := by decide +kernel
theorem dX12_goes_47 : decode cX12_goes 47 = .ok (.iload_n 1, 1) := by decide +kernel
theorem dX12_goes_48 : decode cX12_goes 48 = .ok (.invokestatic 138, 3) := by decide +kernel
theorem dX12_goes_51 : decode cX12_goes 51 = .ok (.ifCond .eq 7, 3) := by decide +kernel
theorem dX12_goes_54 : decode cX12_goes 54 = .ok (.iconst 0, 1) := by decide +kernel
theorem dX12_goes_55 : decode cX12_goes 55 = .ok (.goto 18, 3) := by decide +kernel
theorem dX12_goes_58 : decode cX12_goes 58 = .ok (.aload_n 0, 1) := by decide +kernel
theorem dX12_goes_59 : decode cX12_goes 59 = .ok (.getfield 29, 3) := by decide +kernel
theorem dX12_goes_62 : decode cX12_goes 62 = .ok (.iload_n 2, 1) := by decide +kernel
theorem dX12_goes_63 : decode cX12_goes 63 = .ok (.iaload, 1) := by decide +kernel
theorem dX12_goes_64 : decode cX12_goes 64 = .ok (.aload_n 0, 1) := by decide +kernel
theorem dX12_goes_65 : decode cX12_goes 65 = .ok (.getfield 32, 3) := by decide +kernel
theorem dX12_goes_68 : decode cX12_goes 68 = .ok (.iload_n 3, 1) := by decide +kernel
theorem dX12_goes_69 : decode cX12_goes 69 = .ok (.iaload, 1) := by decide +kernel
theorem dX12_goes_70 : decode cX12_goes 70 = .ok (.invokestatic 81, 3) := by decide +kernel
theorem dX12_goes_73 : decode cX12_goes 73 = .ok (.istore 4, 2) := by decide +kernel
theorem dX12_goes_75 : decode cX12_goes 75 = .ok (.iload_n 3, 1) := by decide +kernel
theorem dX12_goes_76 : decode cX12_goes 76 = .ok (.aload_n 0, 1) := by decide +kernel
theorem dX12_goes_77 : decode cX12_goes 77 = .ok (.getfield 9, 3) := by decide +kernel
theorem dX12_goes_80 : decode cX12_goes 80 = .ok (.iconst 1, 1) := by decide +kernel
theorem dX12_goes_81 : decode cX12_goes 81 = .ok (.iaload, 1) := by decide +kernel
theorem dX12_goes_82 : decode cX12_goes 82 = .ok (.iconst 1, 1) := by decide +kernel
theorem dX12_goes_83 : decode cX12_goes 83 = .ok (.isub, 1) := by decide +kernel
theorem dX12_goes_84 : decode cX12_goes 84 = .ok (.if_icmp .ne 12, 3) := by decide +kernel
theorem dX12_goes_87 : decode cX12_goes 87 = .ok (.aload_n 0, 1) := by decide +kernel
theorem dX12_goes_88 : decode cX12_goes 88 = .ok (.getfield 29, 3) := by decide +kernel
theorem dX12_goes_91 : decode cX12_goes 91 = .ok (.iload_n 2, 1) := by decide +kernel
theorem dX12_goes_92 : decode cX12_goes 92 = .ok (.iaload, 1) := by decide +kernel
theorem dX12_goes_93 : decode cX12_goes 93 = .ok (.goto 25, 3) := by decide +kernel
theorem dX12_goes_96 : decode cX12_goes 96 = .ok (.iload_n 2, 1) := by decide +kernel
theorem dX12_goes_97 : decode cX12_goes 97 = .ok (.aload_n 0, 1) := by decide +kernel
theorem dX12_goes_98 : decode cX12_goes 98 = .ok (.getfield 9, 3) := by decide +kernel
theorem dX12_goes_101 : decode cX12_goes 101 = .ok (.iconst 0, 1) := by decide +kernel
theorem dX12_goes_102 : decode cX12_goes 102 = .ok (.iaload, 1) := by decide +kernel
theorem dX12_goes_103 : decode cX12_goes 103 = .ok (.iconst 1, 1) := by decide +kernel
theorem dX12_goes_104 : decode cX12_goes 104 = .ok (.isub, 1) := by decide +kernel
theorem dX12_goes_105 : decode cX12_goes 105 = .ok (.if_icmp .ne 12, 3) := by decide +kernel
theorem dX12_goes_108 : decode cX12_goes 108 = .ok (.aload_n 0, 1) := by decide +kernel
theorem dX12_goes_109 : decode cX12_goes 109 = .ok (.getfield 32, 3) := by decide +kernel
theorem dX12_goes_112 : decode cX12_goes 112 = .ok (.iload_n 3, 1) := by decide +kernel
theorem dX12_goes_113 : decode cX12_goes 113 = .ok (.iaload, 1) := by decide +kernel
theorem dX12_goes_114 : decode cX12_goes 114 = .ok (.goto 4, 3) := by decide +kernel
theorem dX12_goes_117 : decode cX12_goes 117 = .ok (.iconst 0, 1) := by decide +kernel
theorem dX12_goes_118 : decode cX12_goes 118 = .ok (.istore 5, 2) := by decide +kernel
theorem dX12_goes_120 : decode cX12_goes 120 = .ok (.iload 5, 2) := by decide +kernel
theorem dX12_goes_122 : decode cX12_goes 122 = .ok (.istore 6, 2) := by decide +kernel
theorem dX12_goes_124 : decode cX12_goes 124 = .ok (.iload 6, 2) := by decide +kernel
theorem dX12_goes_126 : decode cX12_goes 126 = .ok (.iload 4, 2) := by decide +kernel
theorem dX12_goes_128 : decode cX12_goes 128 = .ok (.if_icmp .gt 128, 3) := by decide +kernel
theorem dX12_goes_131 : decode cX12_goes 131 = .ok (.aload_n 0, 1) := by decide +kernel
theorem dX12_goes_132 : decode cX12_goes 132 = .ok (.getfield 172, 3) := by decide +kernel
theorem dX12_goes_135 : decode cX12_goes 135 = .ok (.ifCond .ne 121, 3) := by decide +kernel
theorem dX12_goes_138 : decode cX12_goes 138 = .ok (.iload_n 2, 1) := by decide +kernel
theorem dX12_goes_139 : decode cX12_goes 139 = .ok (.aload_n 0, 1) := by decide +kernel
theorem dX12_goes_140 : decode cX12_goes 140 = .ok (.getfield 9, 3) := by decide +kernel
theorem dX12_goes_143 : decode cX12_goes 143 = .ok (.iconst 0, 1) := by decide +kernel
theorem dX12_goes_144 : decode cX12_goes 144 = .ok (.iaload, 1) := by decide +kernel
theorem dX12_goes_145 : decode cX12_goes 145 = .ok (.iconst 1, 1) := by decide +kernel
theorem dX12_goes_146 : decode cX12_goes 146 = .ok (.isub, 1) := by decide +kernel
theorem dX12_goes_147 : decode cX12_goes 147 = .ok (.if_icmp .ne 18, 3) := by decide +kernel
theorem dX12_goes_150 : decode cX12_goes 150 = .ok (.iload 6, 2) := by decide +kernel
theorem dX12_goes_152 : decode cX12_goes 152 = .ok (.aload_n 0, 1) := by decide +kernel
theorem dX12_goes_153 : decode cX12_goes 153 = .ok (.getfield 32, 3) := by decide +kernel
theorem dX12_goes_156 : decode cX12_goes 156 = .ok (.iload_n 3, 1) := by decide +kernel
theorem dX12_goes_157 : decode cX12_goes 157 = .ok (.iaload, 1) := by decide +kernel
theorem dX12_goes_158 : decode cX12_goes 158 = .ok (.if_icmp .eq 7, 3) := by decide +kernel
theorem dX12_goes_161 : decode cX12_goes 161 = .ok (.iconst 1, 1) := by decide +kernel
theorem dX12_goes_162 : decode cX12_goes 162 = .ok (.goto 4, 3) := by decide +kernel
theorem dX12_goes_165 : decode cX12_goes 165 = .ok (.iconst 0, 1) := by decide +kernel
theorem dX12_goes_166 : decode cX12_goes 166 = .ok (.istore 7, 2) := by decide +kernel
theorem dX12_goes_168 : decode cX12_goes 168 = .ok (.iload 7, 2) := by decide +kernel
theorem dX12_goes_170 : decode cX12_goes 170 = .ok (.ifCond .ne 80, 3) := by decide +kernel
theorem dX12_goes_173 : decode cX12_goes 173 = .ok (.aload_n 0, 1) := by decide +kernel
theorem dX12_goes_174 : decode cX12_goes 174 = .ok (.iload_n 2, 1) := by decide +kernel
theorem dX12_goes_175 : decode cX12_goes 175 = .ok (.iload_n 3, 1) := by decide +kernel
theorem dX12_goes_176 : decode cX12_goes 176 = .ok (.aload_n 0, 1) := by decide +kernel
theorem dX12_goes_177 : decode cX12_goes 177 = .ok (.getfield 29, 3) := by decide +kernel
theorem dX12_goes_180 : decode cX12_goes 180 = .ok (.iload_n 2, 1) := by decide +kernel
theorem dX12_goes_181 : decode cX12_goes 181 = .ok (.iaload, 1) := by decide +kernel
theorem dX12_goes_182 : decode cX12_goes 182 = .ok (.iload 6, 2) := by decide +kernel
theorem dX12_goes_184 : decode cX12_goes 184 = .ok (.isub, 1) := by decide +kernel
theorem dX12_goes_185 : decode cX12_goes 185 = .ok (.invokevirtual 190, 3) := by decide +kernel
theorem dX12_goes_188 : decode cX12_goes 188 = .ok (.ifCond .eq 62, 3) := by decide +kernel
theorem dX12_goes_191 : decode cX12_goes 191 = .ok (.aload_n 0, 1) := by decide +kernel
theorem dX12_goes_192 : decode cX12_goes 192 = .ok (.getfield 26, 3) := by decide +kernel
theorem dX12_goes_195 : decode cX12_goes 195 = .ok (.iload_n 1, 1) := by decide +kernel
theorem dX12_goes_196 : decode cX12_goes 196 = .ok (.iload 6, 2) := by decide +kernel
theorem dX12_goes_198 : decode cX12_goes 198 = .ok (.iastore, 1) := by decide +kernel
theorem dX12_goes_199 : decode cX12_goes 199 = .ok (.aload_n 0, 1) := by decide +kernel
theorem dX12_goes_200 : decode cX12_goes 200 = .ok (.getfield 29, 3) := by decide +kernel
theorem dX12_goes_203 : decode cX12_goes 203 = .ok (.iload_n 2, 1) := by decide +kernel
theorem dX12_goes_204 : decode cX12_goes 204 = .ok (.dup2, 1) := by decide +kernel
theorem dX12_goes_205 : decode cX12_goes 205 = .ok (.iaload, 1) := by decide +kernel
theorem dX12_goes_206 : decode cX12_goes 206 = .ok (.iload 6, 2) := by decide +kernel
theorem dX12_goes_208 : decode cX12_goes 208 = .ok (.isub, 1) := by decide +kernel
theorem dX12_goes_209 : decode cX12_goes 209 = .ok (.iastore, 1) := by decide +kernel
theorem dX12_goes_210 : decode cX12_goes 210 = .ok (.aload_n 0, 1) := by decide +kernel
theorem dX12_goes_211 : decode cX12_goes 211 = .ok (.getfield 32, 3) := by decide +kernel
theorem dX12_goes_214 : decode cX12_goes 214 = .ok (.iload_n 3, 1) := by decide +kernel
theorem dX12_goes_215 : decode cX12_goes 215 = .ok (.dup2, 1) := by decide +kernel
theorem dX12_goes_216 : decode cX12_goes 216 = .ok (.iaload, 1) := by decide +kernel
theorem dX12_goes_217 : decode cX12_goes 217 = .ok (.iload 6, 2) := by decide +kernel
theorem dX12_goes_219 : decode cX12_goes 219 = .ok (.isub, 1) := by decide +kernel
theorem dX12_goes_220 : decode cX12_goes 220 = .ok (.iastore, 1) := by decide +kernel
theorem dX12_goes_221 : decode cX12_goes 221 = .ok (.aload_n 0, 1) := by decide +kernel
theorem dX12_goes_222 : decode cX12_goes 222 = .ok (.iload_n 1, 1) := by decide +kernel
theorem dX12_goes_223 : decode cX12_goes 223 = .ok (.iconst 1, 1) := by decide +kernel
theorem dX12_goes_224 : decode cX12_goes 224 = .ok (.iadd, 1) := by decide +kernel
theorem dX12_goes_225 : decode cX12_goes 225 = .ok (.invokevirtual 184, 3) := by decide +kernel
theorem dX12_goes_228 : decode cX12_goes 228 = .ok (.aload_n 0, 1) := by decide +kernel
theorem dX12_goes_229 : decode cX12_goes 229 = .ok (.getfield 29, 3) := by decide +kernel
theorem dX12_goes_232 : decode cX12_goes 232 = .ok (.iload_n 2, 1) := by decide +kernel
theorem dX12_goes_233 : decode cX12_goes 233 = .ok (.dup2, 1) := by decide +kernel
theorem dX12_goes_234 : decode cX12_goes 234 = .ok (.iaload, 1) := by decide +kernel
theorem dX12_goes_235 : decode cX12_goes 235 = .ok (.iload 6, 2) := by decide +kernel
theorem dX12_goes_237 : decode cX12_goes 237 = .ok (.iadd, 1) := by decide +kernel
theorem dX12_goes_238 : decode cX12_goes 238 = .ok (.iastore, 1) := by decide +kernel
theorem dX12_goes_239 : decode cX12_goes 239 = .ok (.aload_n 0, 1) := by decide +kernel
theorem dX12_goes_240 : decode cX12_goes 240 = .ok (.getfield 32, 3) := by decide +kernel
theorem dX12_goes_243 : decode cX12_goes 243 = .ok (.iload_n 3, 1) := by decide +kernel
theorem dX12_goes_244 : decode cX12_goes 244 = .ok (.dup2, 1) := by decide +kernel
theorem dX12_goes_245 : decode cX12_goes 245 = .ok (.iaload, 1) := by decide +kernel
theorem dX12_goes_246 : decode cX12_goes 246 = .ok (.iload 6, 2) := by decide +kernel
theorem dX12_goes_248 : decode cX12_goes 248 = .ok (.iadd, 1) := by decide +kernel
theorem dX12_goes_249 : decode cX12_goes 249 = .ok (.iastore, 1) := by decide +kernel
theorem dX12_goes_250 : decode cX12_goes 250 = .ok (.iinc 6 1, 3) := by decide +kernel
theorem dX12_goes_253 : decode cX12_goes 253 = .ok (.goto (-129), 3) := by decide +kernel
theorem dX12_goes_256 : decode cX12_goes 256 = .ok (.return_, 1) := by decide +kernel
theorem dX12_visits_0 : decode cX12_visits 0 = .ok (.aload_n 0, 1) := by decide +kernel
theorem dX12_visits_1 : decode cX12_visits 1 = .ok (.getfield 169, 3) := by decide +kernel
theorem dX12_visits_4 : decode cX12_visits 4 = .ok (.tableswitch 99 1 6 #[40, 47, 71, 78, 85, 92], 40) := by decide +kernel
theorem dX12_visits_44 : decode cX12_visits 44 = .ok (.aload_n 0, 1) := by decide +kernel
theorem dX12_visits_45 : decode cX12_visits 45 = .ok (.invokevirtual 194, 3) := by decide +kernel
theorem dX12_visits_48 : decode cX12_visits 48 = .ok (.goto 55, 3) := by decide +kernel
theorem dX12_visits_51 : decode cX12_visits 51 = .ok (.aload_n 0, 1) := by decide +kernel
theorem dX12_visits_52 : decode cX12_visits 52 = .ok (.aload_n 0, 1) := by decide +kernel
theorem dX12_visits_53 : decode cX12_visits 53 = .ok (.getfield 175, 3) := by decide +kernel
theorem dX12_visits_56 : decode cX12_visits 56 = .ok (.aload_n 0, 1) := by decide +kernel
theorem dX12_visits_57 : decode cX12_visits 57 = .ok (.getfield 197, 3) := by decide +kernel
theorem dX12_visits_60 : decode cX12_visits 60 = .ok (.lcmp, 1) := by decide +kernel
theorem dX12_visits_61 : decode cX12_visits 61 = .ok (.ifCond .ne 7, 3) := by decide +kernel
theorem dX12_visits_64 : decode cX12_visits 64 = .ok (.iconst 1, 1) := by decide +kernel
theorem dX12_visits_65 : decode cX12_visits 65 = .ok (.goto 4, 3) := by decide +kernel
theorem dX12_visits_68 : decode cX12_visits 68 = .ok (.iconst 0, 1) := by decide +kernel
theorem dX12_visits_69 : decode cX12_visits 69 = .ok (.putfield 172, 3) := by decide +kernel
theorem dX12_visits_72 : decode cX12_visits 72 = .ok (.goto 31, 3) := by decide +kernel
theorem dX12_visits_75 : decode cX12_visits 75 = .ok (.aload_n 0, 1) := by decide +kernel
theorem dX12_visits_76 : decode cX12_visits 76 = .ok (.invokevirtual 200, 3) := by decide +kernel
theorem dX12_visits_79 : decode cX12_visits 79 = .ok (.goto 24, 3) := by decide +kernel
theorem dX12_visits_82 : decode cX12_visits 82 = .ok (.aload_n 0, 1) := by decide +kernel
theorem dX12_visits_83 : decode cX12_visits 83 = .ok (.invokevirtual 203, 3) := by decide +kernel
theorem dX12_visits_86 : decode cX12_visits 86 = .ok (.goto 17, 3) := by decide +kernel
theorem dX12_visits_89 : decode cX12_visits 89 = .ok (.aload_n 0, 1) := by decide +kernel
theorem dX12_visits_90 : decode cX12_visits 90 = .ok (.invokevirtual 206, 3) := by decide +kernel
theorem dX12_visits_93 : decode cX12_visits 93 = .ok (.goto 10, 3) := by decide +kernel
theorem dX12_visits_96 : decode cX12_visits 96 = .ok (.aload_n 0, 1) := by decide +kernel
theorem dX12_visits_97 : decode cX12_visits 97 = .ok (.invokevirtual 209, 3) := by decide +kernel
theorem dX12_visits_100 : decode cX12_visits 100 = .ok (.goto 3, 3) := by decide +kernel
theorem dX12_visits_103 : decode cX12_visits 103 = .ok (.return_, 1) := by decide +kernel
theorem dX12_finds_0 : decode cX12_finds 0 = .ok (.iconst 1, 1) := by decide +kernel
theorem dX12_finds_1 : decode cX12_finds 1 = .ok (.istore_n 1, 1) := by decide +kernel
theorem dX12_finds_2 : decode cX12_finds 2 = .ok (.iconst 0, 1) := by decide +kernel
theorem dX12_finds_3 : decode cX12_finds 3 = .ok (.istore_n 2, 1) := by decide +kernel
theorem dX12_finds_4 : decode cX12_finds 4 = .ok (.iload_n 2, 1) := by decide +kernel
theorem dX12_finds_5 : decode cX12_finds 5 = .ok (.aload_n 0, 1) := by decide +kernel
theorem dX12_finds_6 : decode cX12_finds 6 = .ok (.invokevirtual 150, 3) := by decide +kernel
theorem dX12_finds_9 : decode cX12_finds 9 = .ok (.if_icmp .ge 36, 3) := by decide +kernel
theorem dX12_finds_12 : decode cX12_finds 12 = .ok (.iload_n 1, 1) := by decide +kernel
theorem dX12_finds_13 : decode cX12_finds 13 = .ok (.ifCond .eq 24, 3) := by decide +kernel
theorem dX12_finds_16 : decode cX12_finds 16 = .ok (.aload_n 0, 1) := by decide +kernel
theorem dX12_finds_17 : decode cX12_finds 17 = .ok (.getfield 26, 3) := by decide +kernel
theorem dX12_finds_20 : decode cX12_finds 20 = .ok (.iload_n 2, 1) := by decide +kernel
theorem dX12_finds_21 : decode cX12_finds 21 = .ok (.iaload, 1) := by decide +kernel
theorem dX12_finds_22 : decode cX12_finds 22 = .ok (.aload_n 0, 1) := by decide +kernel
theorem dX12_finds_23 : decode cX12_finds 23 = .ok (.getfield 9, 3) := by decide +kernel
theorem dX12_finds_26 : decode cX12_finds 26 = .ok (.iconst 5, 1) := by decide +kernel
theorem dX12_finds_27 : decode cX12_finds 27 = .ok (.iload_n 2, 1) := by decide +kernel
theorem dX12_finds_28 : decode cX12_finds 28 = .ok (.iadd, 1) := by decide +kernel
theorem dX12_finds_29 : decode cX12_finds 29 = .ok (.iaload, 1) := by decide +kernel
theorem dX12_finds_30 : decode cX12_finds 30 = .ok (.if_icmp .ne 7, 3) := by decide +kernel
theorem dX12_finds_33 : decode cX12_finds 33 = .ok (.iconst 1, 1) := by decide +kernel
theorem dX12_finds_34 : decode cX12_finds 34 = .ok (.goto 4, 3) := by decide +kernel
theorem dX12_finds_37 : decode cX12_finds 37 = .ok (.iconst 0, 1) := by decide +kernel
theorem dX12_finds_38 : decode cX12_finds 38 = .ok (.istore_n 1, 1) := by decide +kernel
theorem dX12_finds_39 : decode cX12_finds 39 = .ok (.iinc 2 1, 3) := by decide +kernel
theorem dX12_finds_42 : decode cX12_finds 42 = .ok (.goto (-38), 3) := by decide +kernel
theorem dX12_finds_45 : decode cX12_finds 45 = .ok (.aload_n 0, 1) := by decide +kernel
theorem dX12_finds_46 : decode cX12_finds 46 = .ok (.iload_n 1, 1) := by decide +kernel
theorem dX12_finds_47 : decode cX12_finds 47 = .ok (.ifCond .eq 10, 3) := by decide +kernel
theorem dX12_finds_50 : decode cX12_finds 50 = .ok (.aload_n 0, 1) := by decide +kernel
theorem dX12_finds_51 : decode cX12_finds 51 = .ok (.getfield 175, 3) := by decide +kernel
theorem dX12_finds_54 : decode cX12_finds 54 = .ok (.goto 7, 3) := by decide +kernel
theorem dX12_finds_57 : decode cX12_finds 57 = .ok (.aload_n 0, 1) := by decide +kernel
theorem dX12_finds_58 : decode cX12_finds 58 = .ok (.getfield 181, 3) := by decide +kernel
theorem dX12_finds_61 : decode cX12_finds 61 = .ok (.putfield 181, 3) := by decide +kernel
theorem dX12_finds_64 : decode cX12_finds 64 = .ok (.aload_n 0, 1) := by decide +kernel
theorem dX12_finds_65 : decode cX12_finds 65 = .ok (.iload_n 1, 1) := by decide +kernel
theorem dX12_finds_66 : decode cX12_finds 66 = .ok (.putfield 172, 3) := by decide +kernel
theorem dX12_finds_69 : decode cX12_finds 69 = .ok (.return_, 1) := by decide +kernel
theorem dX12_tallies_0 : decode cX12_tallies 0 = .ok (.iconst 0, 1) := by decide +kernel
theorem dX12_tallies_1 : decode cX12_tallies 1 = .ok (.istore_n 1, 1) := by decide +kernel
theorem dX12_tallies_2 : decode cX12_tallies 2 = .ok (.iload_n 1, 1) := by decide +kernel
theorem dX12_tallies_3 : decode cX12_tallies 3 = .ok (.aload_n 0, 1) := by decide +kernel
theorem dX12_tallies_4 : decode cX12_tallies 4 = .ok (.invokevirtual 150, 3) := by decide +kernel
theorem dX12_tallies_7 : decode cX12_tallies 7 = .ok (.if_icmp .ge 29, 3) := by decide +kernel
theorem dX12_tallies_10 : decode cX12_tallies 10 = .ok (.aload_n 0, 1) := by decide +kernel
theorem dX12_tallies_11 : decode cX12_tallies 11 = .ok (.getfield 35, 3) := by decide +kernel
theorem dX12_tallies_14 : decode cX12_tallies 14 = .ok (.bipush 21, 2) := by decide +kernel
theorem dX12_tallies_16 : decode cX12_tallies 16 = .ok (.iload_n 1, 1) := by decide +kernel
theorem dX12_tallies_17 : decode cX12_tallies 17 = .ok (.imul, 1) := by decide +kernel
theorem dX12_tallies_18 : decode cX12_tallies 18 = .ok (.aload_n 0, 1) := by decide +kernel
theorem dX12_tallies_19 : decode cX12_tallies 19 = .ok (.getfield 26, 3) := by decide +kernel
theorem dX12_tallies_22 : decode cX12_tallies 22 = .ok (.iload_n 1, 1) := by decide +kernel
theorem dX12_tallies_23 : decode cX12_tallies 23 = .ok (.iaload, 1) := by decide +kernel
theorem dX12_tallies_24 : decode cX12_tallies 24 = .ok (.iadd, 1) := by decide +kernel
theorem dX12_tallies_25 : decode cX12_tallies 25 = .ok (.dup2, 1) := by decide +kernel
theorem dX12_tallies_26 : decode cX12_tallies 26 = .ok (.laload, 1) := by decide +kernel
theorem dX12_tallies_27 : decode cX12_tallies 27 = .ok (.lconst 1, 1) := by decide +kernel
theorem dX12_tallies_28 : decode cX12_tallies 28 = .ok (.ladd, 1) := by decide +kernel
theorem dX12_tallies_29 : decode cX12_tallies 29 = .ok (.lastore, 1) := by decide +kernel
theorem dX12_tallies_30 : decode cX12_tallies 30 = .ok (.iinc 1 1, 3) := by decide +kernel
theorem dX12_tallies_33 : decode cX12_tallies 33 = .ok (.goto (-31), 3) := by decide +kernel
theorem dX12_tallies_36 : decode cX12_tallies 36 = .ok (.return_, 1) := by decide +kernel
theorem dX12_weighs_0 : decode cX12_weighs 0 = .ok (.aload_n 0, 1) := by decide +kernel
theorem dX12_weighs_1 : decode cX12_weighs 1 = .ok (.invokevirtual 212, 3) := by decide +kernel
theorem dX12_weighs_4 : decode cX12_weighs 4 = .ok (.lstore_n 1, 1) := by decide +kernel
theorem dX12_weighs_5 : decode cX12_weighs 5 = .ok (.aload_n 0, 1) := by decide +kernel
theorem dX12_weighs_6 : decode cX12_weighs 6 = .ok (.dup, 1) := by decide +kernel
theorem dX12_weighs_7 : decode cX12_weighs 7 = .ok (.getfield 216, 3) := by decide +kernel
theorem dX12_weighs_10 : decode cX12_weighs 10 = .ok (.lload_n 1, 1) := by decide +kernel
theorem dX12_weighs_11 : decode cX12_weighs 11 = .ok (.ladd, 1) := by decide +kernel
theorem dX12_weighs_12 : decode cX12_weighs 12 = .ok (.putfield 216, 3) := by decide +kernel
theorem dX12_weighs_15 : decode cX12_weighs 15 = .ok (.aload_n 0, 1) := by decide +kernel
theorem dX12_weighs_16 : decode cX12_weighs 16 = .ok (.getfield 175, 3) := by decide +kernel
theorem dX12_weighs_19 : decode cX12_weighs 19 = .ok (.lconst 0, 1) := by decide +kernel
theorem dX12_weighs_20 : decode cX12_weighs 20 = .ok (.lcmp, 1) := by decide +kernel
theorem dX12_weighs_21 : decode cX12_weighs 21 = .ok (.ifCond .eq 12, 3) := by decide +kernel
theorem dX12_weighs_24 : decode cX12_weighs 24 = .ok (.lload_n 1, 1) := by decide +kernel
theorem dX12_weighs_25 : decode cX12_weighs 25 = .ok (.aload_n 0, 1) := by decide +kernel
theorem dX12_weighs_26 : decode cX12_weighs 26 = .ok (.getfield 219, 3) := by decide +kernel
theorem dX12_weighs_29 : decode cX12_weighs 29 = .ok (.lcmp, 1) := by decide +kernel
theorem dX12_weighs_30 : decode cX12_weighs 30 = .ok (.ifCond .le 16, 3) := by decide +kernel
theorem dX12_weighs_33 : decode cX12_weighs 33 = .ok (.aload_n 0, 1) := by decide +kernel
theorem dX12_weighs_34 : decode cX12_weighs 34 = .ok (.lload_n 1, 1) := by decide +kernel
theorem dX12_weighs_35 : decode cX12_weighs 35 = .ok (.putfield 219, 3) := by decide +kernel
theorem dX12_weighs_38 : decode cX12_weighs 38 = .ok (.aload_n 0, 1) := by decide +kernel
theorem dX12_weighs_39 : decode cX12_weighs 39 = .ok (.aload_n 0, 1) := by decide +kernel
theorem dX12_weighs_40 : decode cX12_weighs 40 = .ok (.getfield 175, 3) := by decide +kernel
theorem dX12_weighs_43 : decode cX12_weighs 43 = .ok (.putfield 222, 3) := by decide +kernel
theorem dX12_weighs_46 : decode cX12_weighs 46 = .ok (.aload_n 0, 1) := by decide +kernel
theorem dX12_weighs_47 : decode cX12_weighs 47 = .ok (.getfield 175, 3) := by decide +kernel
theorem dX12_weighs_50 : decode cX12_weighs 50 = .ok (.lconst 0, 1) := by decide +kernel
theorem dX12_weighs_51 : decode cX12_weighs 51 = .ok (.lcmp, 1) := by decide +kernel
theorem dX12_weighs_52 : decode cX12_weighs 52 = .ok (.ifCond .eq 12, 3) := by decide +kernel
theorem dX12_weighs_55 : decode cX12_weighs 55 = .ok (.lload_n 1, 1) := by decide +kernel
theorem dX12_weighs_56 : decode cX12_weighs 56 = .ok (.aload_n 0, 1) := by decide +kernel
theorem dX12_weighs_57 : decode cX12_weighs 57 = .ok (.getfield 225, 3) := by decide +kernel
theorem dX12_weighs_60 : decode cX12_weighs 60 = .ok (.lcmp, 1) := by decide +kernel
theorem dX12_weighs_61 : decode cX12_weighs 61 = .ok (.ifCond .ge 16, 3) := by decide +kernel
theorem dX12_weighs_64 : decode cX12_weighs 64 = .ok (.aload_n 0, 1) := by decide +kernel
theorem dX12_weighs_65 : decode cX12_weighs 65 = .ok (.lload_n 1, 1) := by decide +kernel
theorem dX12_weighs_66 : decode cX12_weighs 66 = .ok (.putfield 225, 3) := by decide +kernel
theorem dX12_weighs_69 : decode cX12_weighs 69 = .ok (.aload_n 0, 1) := by decide +kernel
theorem dX12_weighs_70 : decode cX12_weighs 70 = .ok (.aload_n 0, 1) := by decide +kernel
theorem dX12_weighs_71 : decode cX12_weighs 71 = .ok (.getfield 175, 3) := by decide +kernel
theorem dX12_weighs_74 : decode cX12_weighs 74 = .ok (.putfield 228, 3) := by decide +kernel
theorem dX12_weighs_77 : decode cX12_weighs 77 = .ok (.return_, 1) := by decide +kernel
theorem dX12_measures_0 : decode cX12_measures 0 = .ok (.aload_n 0, 1) := by decide +kernel
theorem dX12_measures_1 : decode cX12_measures 1 = .ok (.aload_n 0, 1) := by decide +kernel
theorem dX12_measures_2 : decode cX12_measures 2 = .ok (.getfield 231, 3) := by decide +kernel
theorem dX12_measures_5 : decode cX12_measures 5 = .ok (.invokevirtual 234, 3) := by decide +kernel
theorem dX12_measures_8 : decode cX12_measures 8 = .ok (.lstore_n 1, 1) := by decide +kernel
theorem dX12_measures_9 : decode cX12_measures 9 = .ok (.aload_n 0, 1) := by decide +kernel
theorem dX12_measures_10 : decode cX12_measures 10 = .ok (.invokevirtual 212, 3) := by decide +kernel
theorem dX12_measures_13 : decode cX12_measures 13 = .ok (.lstore_n 3, 1) := by decide +kernel
theorem dX12_measures_14 : decode cX12_measures 14 = .ok (.aload_n 0, 1) := by decide +kernel
theorem dX12_measures_15 : decode cX12_measures 15 = .ok (.dup, 1) := by decide +kernel
theorem dX12_measures_16 : decode cX12_measures 16 = .ok (.getfield 216, 3) := by decide +kernel
theorem dX12_measures_19 : decode cX12_measures 19 = .ok (.lload_n 3, 1) := by decide +kernel
theorem dX12_measures_20 : decode cX12_measures 20 = .ok (.ladd, 1) := by decide +kernel
theorem dX12_measures_21 : decode cX12_measures 21 = .ok (.putfield 216, 3) := by decide +kernel
theorem dX12_measures_24 : decode cX12_measures 24 = .ok (.aload_n 0, 1) := by decide +kernel
theorem dX12_measures_25 : decode cX12_measures 25 = .ok (.getfield 231, 3) := by decide +kernel
theorem dX12_measures_28 : decode cX12_measures 28 = .ok (.ifCond .ne 20, 3) := by decide +kernel
theorem dX12_measures_31 : decode cX12_measures 31 = .ok (.lload_n 1, 1) := by decide +kernel
theorem dX12_measures_32 : decode cX12_measures 32 = .ok (.aload_n 0, 1) := by decide +kernel
theorem dX12_measures_33 : decode cX12_measures 33 = .ok (.getfield 238, 3) := by decide +kernel
theorem dX12_measures_36 : decode cX12_measures 36 = .ok (.lcmp, 1) := by decide +kernel
theorem dX12_measures_37 : decode cX12_measures 37 = .ok (.ifCond .gt 7, 3) := by decide +kernel
theorem dX12_measures_40 : decode cX12_measures 40 = .ok (.iconst 1, 1) := by decide +kernel
theorem dX12_measures_41 : decode cX12_measures 41 = .ok (.goto 21, 3) := by decide +kernel
theorem dX12_measures_44 : decode cX12_measures 44 = .ok (.iconst 0, 1) := by decide +kernel
theorem dX12_measures_45 : decode cX12_measures 45 = .ok (.goto 17, 3) := by decide +kernel
theorem dX12_measures_48 : decode cX12_measures 48 = .ok (.lload_n 1, 1) := by decide +kernel
theorem dX12_measures_49 : decode cX12_measures 49 = .ok (.aload_n 0, 1) := by decide +kernel
theorem dX12_measures_50 : decode cX12_measures 50 = .ok (.getfield 238, 3) := by decide +kernel
theorem dX12_measures_53 : decode cX12_measures 53 = .ok (.lcmp, 1) := by decide +kernel
theorem dX12_measures_54 : decode cX12_measures 54 = .ok (.ifCond .lt 7, 3) := by decide +kernel
theorem dX12_measures_57 : decode cX12_measures 57 = .ok (.iconst 1, 1) := by decide +kernel
theorem dX12_measures_58 : decode cX12_measures 58 = .ok (.goto 4, 3) := by decide +kernel
theorem dX12_measures_61 : decode cX12_measures 61 = .ok (.iconst 0, 1) := by decide +kernel
theorem dX12_measures_62 : decode cX12_measures 62 = .ok (.istore 5, 2) := by decide +kernel
theorem dX12_measures_64 : decode cX12_measures 64 = .ok (.aload_n 0, 1) := by decide +kernel
theorem dX12_measures_65 : decode cX12_measures 65 = .ok (.dup, 1) := by decide +kernel
theorem dX12_measures_66 : decode cX12_measures 66 = .ok (.getfield 241, 3) := by decide +kernel
theorem dX12_measures_69 : decode cX12_measures 69 = .ok (.iload 5, 2) := by decide +kernel
theorem dX12_measures_71 : decode cX12_measures 71 = .ok (.ifCond .eq 7, 3) := by decide +kernel
theorem dX12_measures_74 : decode cX12_measures 74 = .ok (.lconst 1, 1) := by decide +kernel
theorem dX12_measures_75 : decode cX12_measures 75 = .ok (.goto 4, 3) := by decide +kernel
theorem dX12_measures_78 : decode cX12_measures 78 = .ok (.lconst 0, 1) := by decide +kernel
theorem dX12_measures_79 : decode cX12_measures 79 = .ok (.ladd, 1) := by decide +kernel
theorem dX12_measures_80 : decode cX12_measures 80 = .ok (.putfield 241, 3) := by decide +kernel
theorem dX12_measures_83 : decode cX12_measures 83 = .ok (.aload_n 0, 1) := by decide +kernel
theorem dX12_measures_84 : decode cX12_measures 84 = .ok (.dup, 1) := by decide +kernel
theorem dX12_measures_85 : decode cX12_measures 85 = .ok (.getfield 244, 3) := by decide +kernel
theorem dX12_measures_88 : decode cX12_measures 88 = .ok (.iload 5, 2) := by decide +kernel
theorem dX12_measures_90 : decode cX12_measures 90 = .ok (.ifCond .eq 7, 3) := by decide +kernel
theorem dX12_measures_93 : decode cX12_measures 93 = .ok (.lload_n 3, 1) := by decide +kernel
theorem dX12_measures_94 : decode cX12_measures 94 = .ok (.goto 4, 3) := by decide +kernel
theorem dX12_measures_97 : decode cX12_measures 97 = .ok (.lconst 0, 1) := by decide +kernel
theorem dX12_measures_98 : decode cX12_measures 98 = .ok (.ladd, 1) := by decide +kernel
theorem dX12_measures_99 : decode cX12_measures 99 = .ok (.putfield 244, 3) := by decide +kernel
theorem dX12_measures_102 : decode cX12_measures 102 = .ok (.return_, 1) := by decide +kernel
theorem dX12_lists_0 : decode cX12_lists 0 = .ok (.aload_n 0, 1) := by decide +kernel
theorem dX12_lists_1 : decode cX12_lists 1 = .ok (.getfield 175, 3) := by decide +kernel
theorem dX12_lists_4 : decode cX12_lists 4 = .ok (.ldc2_w 247, 3) := by decide +kernel
theorem dX12_lists_7 : decode cX12_lists 7 = .ok (.lcmp, 1) := by decide +kernel
theorem dX12_lists_8 : decode cX12_lists 8 = .ok (.ifCond .ne 9, 3) := by decide +kernel
theorem dX12_lists_11 : decode cX12_lists 11 = .ok (.aload_n 0, 1) := by decide +kernel
theorem dX12_lists_12 : decode cX12_lists 12 = .ok (.iconst 1, 1) := by decide +kernel
theorem dX12_lists_13 : decode cX12_lists 13 = .ok (.putfield 172, 3) := by decide +kernel
theorem dX12_lists_16 : decode cX12_lists 16 = .ok (.return_, 1) := by decide +kernel
theorem dX12_lists_17 : decode cX12_lists 17 = .ok (.iconst 0, 1) := by decide +kernel
theorem dX12_lists_18 : decode cX12_lists 18 = .ok (.istore_n 1, 1) := by decide +kernel
theorem dX12_lists_19 : decode cX12_lists 19 = .ok (.iload_n 1, 1) := by decide +kernel
theorem dX12_lists_20 : decode cX12_lists 20 = .ok (.aload_n 0, 1) := by decide +kernel
theorem dX12_lists_21 : decode cX12_lists 21 = .ok (.invokevirtual 150, 3) := by decide +kernel
theorem dX12_lists_24 : decode cX12_lists 24 = .ok (.if_icmp .ge 30, 3) := by decide +kernel
theorem dX12_lists_27 : decode cX12_lists 27 = .ok (.aload_n 0, 1) := by decide +kernel
theorem dX12_lists_28 : decode cX12_lists 28 = .ok (.getfield 39, 3) := by decide +kernel
theorem dX12_lists_31 : decode cX12_lists 31 = .ok (.bipush 16, 2) := by decide +kernel
theorem dX12_lists_33 : decode cX12_lists 33 = .ok (.aload_n 0, 1) := by decide +kernel
theorem dX12_lists_34 : decode cX12_lists 34 = .ok (.getfield 175, 3) := by decide +kernel
theorem dX12_lists_37 : decode cX12_lists 37 = .ok (.l2i, 1) := by decide +kernel
theorem dX12_lists_38 : decode cX12_lists 38 = .ok (.imul, 1) := by decide +kernel
theorem dX12_lists_39 : decode cX12_lists 39 = .ok (.iload_n 1, 1) := by decide +kernel
theorem dX12_lists_40 : decode cX12_lists 40 = .ok (.iadd, 1) := by decide +kernel
theorem dX12_lists_41 : decode cX12_lists 41 = .ok (.aload_n 0, 1) := by decide +kernel
theorem dX12_lists_42 : decode cX12_lists 42 = .ok (.getfield 26, 3) := by decide +kernel
theorem dX12_lists_45 : decode cX12_lists 45 = .ok (.iload_n 1, 1) := by decide +kernel
theorem dX12_lists_46 : decode cX12_lists 46 = .ok (.iaload, 1) := by decide +kernel
theorem dX12_lists_47 : decode cX12_lists 47 = .ok (.iastore, 1) := by decide +kernel
theorem dX12_lists_48 : decode cX12_lists 48 = .ok (.iinc 1 1, 3) := by decide +kernel
theorem dX12_lists_51 : decode cX12_lists 51 = .ok (.goto (-32), 3) := by decide +kernel
theorem dX12_lists_54 : decode cX12_lists 54 = .ok (.return_, 1) := by decide +kernel
theorem dX12_waysOf_0 : decode cX12_waysOf 0 = .ok (.lconst 1, 1) := by decide +kernel
theorem dX12_waysOf_1 : decode cX12_waysOf 1 = .ok (.lstore_n 2, 1) := by decide +kernel
theorem dX12_waysOf_2 : decode cX12_waysOf 2 = .ok (.iconst 1, 1) := by decide +kernel
theorem dX12_waysOf_3 : decode cX12_waysOf 3 = .ok (.istore 4, 2) := by decide +kernel
theorem dX12_waysOf_5 : decode cX12_waysOf 5 = .ok (.iload 4, 2) := by decide +kernel
theorem dX12_waysOf_7 : decode cX12_waysOf 7 = .ok (.iload_n 1, 1) := by decide +kernel
theorem dX12_waysOf_8 : decode cX12_waysOf 8 = .ok (.if_icmp .gt 23, 3) := by decide +kernel
theorem dX12_waysOf_11 : decode cX12_waysOf 11 = .ok (.lload_n 2, 1) := by decide +kernel
theorem dX12_waysOf_12 : decode cX12_waysOf 12 = .ok (.iload_n 0, 1) := by decide +kernel
theorem dX12_waysOf_13 : decode cX12_waysOf 13 = .ok (.iload_n 1, 1) := by decide +kernel
theorem dX12_waysOf_14 : decode cX12_waysOf 14 = .ok (.isub, 1) := by decide +kernel
theorem dX12_waysOf_15 : decode cX12_waysOf 15 = .ok (.iload 4, 2) := by decide +kernel
theorem dX12_waysOf_17 : decode cX12_waysOf 17 = .ok (.iadd, 1) := by decide +kernel
theorem dX12_waysOf_18 : decode cX12_waysOf 18 = .ok (.i2l, 1) := by decide +kernel
theorem dX12_waysOf_19 : decode cX12_waysOf 19 = .ok (.lmul, 1) := by decide +kernel
theorem dX12_waysOf_20 : decode cX12_waysOf 20 = .ok (.iload 4, 2) := by decide +kernel
theorem dX12_waysOf_22 : decode cX12_waysOf 22 = .ok (.i2l, 1) := by decide +kernel
theorem dX12_waysOf_23 : decode cX12_waysOf 23 = .ok (.ldiv, 1) := by decide +kernel
theorem dX12_waysOf_24 : decode cX12_waysOf 24 = .ok (.lstore_n 2, 1) := by decide +kernel
theorem dX12_waysOf_25 : decode cX12_waysOf 25 = .ok (.iinc 4 1, 3) := by decide +kernel
theorem dX12_waysOf_28 : decode cX12_waysOf 28 = .ok (.goto (-23), 3) := by decide +kernel
theorem dX12_waysOf_31 : decode cX12_waysOf 31 = .ok (.lload_n 2, 1) := by decide +kernel
theorem dX12_waysOf_32 : decode cX12_waysOf 32 = .ok (.lreturn, 1) := by decide +kernel
theorem dX12_weightOf_0 : decode cX12_weightOf 0 = .ok (.lconst 1, 1) := by decide +kernel
theorem dX12_weightOf_1 : decode cX12_weightOf 1 = .ok (.lstore_n 1, 1) := by decide +kernel
theorem dX12_weightOf_2 : decode cX12_weightOf 2 = .ok (.iconst 0, 1) := by decide +kernel
theorem dX12_weightOf_3 : decode cX12_weightOf 3 = .ok (.istore_n 3, 1) := by decide +kernel
theorem dX12_weightOf_4 : decode cX12_weightOf 4 = .ok (.iload_n 3, 1) := by decide +kernel
theorem dX12_weightOf_5 : decode cX12_weightOf 5 = .ok (.aload_n 0, 1) := by decide +kernel
theorem dX12_weightOf_6 : decode cX12_weightOf 6 = .ok (.getfield 9, 3) := by decide +kernel
theorem dX12_weightOf_9 : decode cX12_weightOf 9 = .ok (.iconst 0, 1) := by decide +kernel
theorem dX12_weightOf_10 : decode cX12_weightOf 10 = .ok (.iaload, 1) := by decide +kernel
theorem dX12_weightOf_11 : decode cX12_weightOf 11 = .ok (.if_icmp .ge 69, 3) := by decide +kernel
theorem dX12_weightOf_14 : decode cX12_weightOf 14 = .ok (.iconst 0, 1) := by decide +kernel
theorem dX12_weightOf_15 : decode cX12_weightOf 15 = .ok (.istore 4, 2) := by decide +kernel
theorem dX12_weightOf_17 : decode cX12_weightOf 17 = .ok (.iconst 0, 1) := by decide +kernel
theorem dX12_weightOf_18 : decode cX12_weightOf 18 = .ok (.istore 5, 2) := by decide +kernel
theorem dX12_weightOf_20 : decode cX12_weightOf 20 = .ok (.iload 5, 2) := by decide +kernel
theorem dX12_weightOf_22 : decode cX12_weightOf 22 = .ok (.aload_n 0, 1) := by decide +kernel
theorem dX12_weightOf_23 : decode cX12_weightOf 23 = .ok (.getfield 9, 3) := by decide +kernel
theorem dX12_weightOf_26 : decode cX12_weightOf 26 = .ok (.iconst 1, 1) := by decide +kernel
theorem dX12_weightOf_27 : decode cX12_weightOf 27 = .ok (.iaload, 1) := by decide +kernel
theorem dX12_weightOf_28 : decode cX12_weightOf 28 = .ok (.if_icmp .ge 46, 3) := by decide +kernel
theorem dX12_weightOf_31 : decode cX12_weightOf 31 = .ok (.iload 4, 2) := by decide +kernel
theorem dX12_weightOf_33 : decode cX12_weightOf 33 = .ok (.aload_n 0, 1) := by decide +kernel
theorem dX12_weightOf_34 : decode cX12_weightOf 34 = .ok (.getfield 26, 3) := by decide +kernel
theorem dX12_weightOf_37 : decode cX12_weightOf 37 = .ok (.aload_n 0, 1) := by decide +kernel
theorem dX12_weightOf_38 : decode cX12_weightOf 38 = .ok (.iload_n 3, 1) := by decide +kernel
theorem dX12_weightOf_39 : decode cX12_weightOf 39 = .ok (.iload 5, 2) := by decide +kernel
theorem dX12_weightOf_41 : decode cX12_weightOf 41 = .ok (.invokevirtual 133, 3) := by decide +kernel
theorem dX12_weightOf_44 : decode cX12_weightOf 44 = .ok (.iaload, 1) := by decide +kernel
theorem dX12_weightOf_45 : decode cX12_weightOf 45 = .ok (.iadd, 1) := by decide +kernel
theorem dX12_weightOf_46 : decode cX12_weightOf 46 = .ok (.istore 4, 2) := by decide +kernel
theorem dX12_weightOf_48 : decode cX12_weightOf 48 = .ok (.lload_n 1, 1) := by decide +kernel
theorem dX12_weightOf_49 : decode cX12_weightOf 49 = .ok (.iload 4, 2) := by decide +kernel
theorem dX12_weightOf_51 : decode cX12_weightOf 51 = .ok (.aload_n 0, 1) := by decide +kernel
theorem dX12_weightOf_52 : decode cX12_weightOf 52 = .ok (.getfield 26, 3) := by decide +kernel
theorem dX12_weightOf_55 : decode cX12_weightOf 55 = .ok (.aload_n 0, 1) := by decide +kernel
theorem dX12_weightOf_56 : decode cX12_weightOf 56 = .ok (.iload_n 3, 1) := by decide +kernel
theorem dX12_weightOf_57 : decode cX12_weightOf 57 = .ok (.iload 5, 2) := by decide +kernel
theorem dX12_weightOf_59 : decode cX12_weightOf 59 = .ok (.invokevirtual 133, 3) := by decide +kernel
theorem dX12_weightOf_62 : decode cX12_weightOf 62 = .ok (.iaload, 1) := by decide +kernel
theorem dX12_weightOf_63 : decode cX12_weightOf 63 = .ok (.invokestatic 249, 3) := by decide +kernel
theorem dX12_weightOf_66 : decode cX12_weightOf 66 = .ok (.lmul, 1) := by decide +kernel
theorem dX12_weightOf_67 : decode cX12_weightOf 67 = .ok (.lstore_n 1, 1) := by decide +kernel
theorem dX12_weightOf_68 : decode cX12_weightOf 68 = .ok (.iinc 5 1, 3) := by decide +kernel
theorem dX12_weightOf_71 : decode cX12_weightOf 71 = .ok (.goto (-51), 3) := by decide +kernel
theorem dX12_weightOf_74 : decode cX12_weightOf 74 = .ok (.iinc 3 1, 3) := by decide +kernel
theorem dX12_weightOf_77 : decode cX12_weightOf 77 = .ok (.goto (-73), 3) := by decide +kernel
theorem dX12_weightOf_80 : decode cX12_weightOf 80 = .ok (.lload_n 1, 1) := by decide +kernel
theorem dX12_weightOf_81 : decode cX12_weightOf 81 = .ok (.lreturn, 1) := by decide +kernel
theorem dX12_measureOf_0 : decode cX12_measureOf 0 = .ok (.iload_n 1, 1) := by decide +kernel
theorem dX12_measureOf_1 : decode cX12_measureOf 1 = .ok (.ifCond .ne 8, 3) := by decide +kernel
theorem dX12_measureOf_4 : decode cX12_measureOf 4 = .ok (.aload_n 0, 1) := by decide +kernel
theorem dX12_measureOf_5 : decode cX12_measureOf 5 = .ok (.invokevirtual 212, 3) := by decide +kernel
theorem dX12_measureOf_8 : decode cX12_measureOf 8 = .ok (.lreturn, 1) := by decide +kernel
theorem dX12_measureOf_9 : decode cX12_measureOf 9 = .ok (.lconst 0, 1) := by decide +kernel
theorem dX12_measureOf_10 : decode cX12_measureOf 10 = .ok (.lstore_n 2, 1) := by decide +kernel
theorem dX12_measureOf_11 : decode cX12_measureOf 11 = .ok (.iconst 0, 1) := by decide +kernel
theorem dX12_measureOf_12 : decode cX12_measureOf 12 = .ok (.istore 4, 2) := by decide +kernel
theorem dX12_measureOf_14 : decode cX12_measureOf 14 = .ok (.iload 4, 2) := by decide +kernel
theorem dX12_measureOf_16 : decode cX12_measureOf 16 = .ok (.aload_n 0, 1) := by decide +kernel
theorem dX12_measureOf_17 : decode cX12_measureOf 17 = .ok (.invokevirtual 150, 3) := by decide +kernel
theorem dX12_measureOf_20 : decode cX12_measureOf 20 = .ok (.if_icmp .ge 131, 3) := by decide +kernel
theorem dX12_measureOf_23 : decode cX12_measureOf 23 = .ok (.iload 4, 2) := by decide +kernel
theorem dX12_measureOf_25 : decode cX12_measureOf 25 = .ok (.aload_n 0, 1) := by decide +kernel
theorem dX12_measureOf_26 : decode cX12_measureOf 26 = .ok (.getfield 9, 3) := by decide +kernel
theorem dX12_measureOf_29 : decode cX12_measureOf 29 = .ok (.iconst 1, 1) := by decide +kernel
theorem dX12_measureOf_30 : decode cX12_measureOf 30 = .ok (.iaload, 1) := by decide +kernel
theorem dX12_measureOf_31 : decode cX12_measureOf 31 = .ok (.idiv, 1) := by decide +kernel
theorem dX12_measureOf_32 : decode cX12_measureOf 32 = .ok (.istore 5, 2) := by decide +kernel
theorem dX12_measureOf_34 : decode cX12_measureOf 34 = .ok (.iload 4, 2) := by decide +kernel
theorem dX12_measureOf_36 : decode cX12_measureOf 36 = .ok (.aload_n 0, 1) := by decide +kernel
theorem dX12_measureOf_37 : decode cX12_measureOf 37 = .ok (.getfield 9, 3) := by decide +kernel
theorem dX12_measureOf_40 : decode cX12_measureOf 40 = .ok (.iconst 1, 1) := by decide +kernel
theorem dX12_measureOf_41 : decode cX12_measureOf 41 = .ok (.iaload, 1) := by decide +kernel
theorem dX12_measureOf_42 : decode cX12_measureOf 42 = .ok (.irem, 1) := by decide +kernel
theorem dX12_measureOf_43 : decode cX12_measureOf 43 = .ok (.istore 6, 2) := by decide +kernel
theorem dX12_measureOf_45 : decode cX12_measureOf 45 = .ok (.aload_n 0, 1) := by decide +kernel
theorem dX12_measureOf_46 : decode cX12_measureOf 46 = .ok (.getfield 26, 3) := by decide +kernel
theorem dX12_measureOf_49 : decode cX12_measureOf 49 = .ok (.iload 4, 2) := by decide +kernel
theorem dX12_measureOf_51 : decode cX12_measureOf 51 = .ok (.iaload, 1) := by decide +kernel
theorem dX12_measureOf_52 : decode cX12_measureOf 52 = .ok (.i2l, 1) := by decide +kernel
theorem dX12_measureOf_53 : decode cX12_measureOf 53 = .ok (.lstore 7, 2) := by decide +kernel
theorem dX12_measureOf_55 : decode cX12_measureOf 55 = .ok (.iload_n 1, 1) := by decide +kernel
theorem dX12_measureOf_56 : decode cX12_measureOf 56 = .ok (.iconst 1, 1) := by decide +kernel
theorem dX12_measureOf_57 : decode cX12_measureOf 57 = .ok (.if_icmp .ne 56, 3) := by decide +kernel
theorem dX12_measureOf_60 : decode cX12_measureOf 60 = .ok (.lload_n 2, 1) := by decide +kernel
theorem dX12_measureOf_61 : decode cX12_measureOf 61 = .ok (.aload_n 0, 1) := by decide +kernel
theorem dX12_measureOf_62 : decode cX12_measureOf 62 = .ok (.iload 5, 2) := by decide +kernel
theorem dX12_measureOf_64 : decode cX12_measureOf 64 = .ok (.invokevirtual 163, 3) := by decide +kernel
theorem dX12_measureOf_67 : decode cX12_measureOf 67 = .ok (.ifCond .le 40, 3) := by decide +kernel
theorem dX12_measureOf_70 : decode cX12_measureOf 70 = .ok (.aload_n 0, 1) := by decide +kernel
theorem dX12_measureOf_71 : decode cX12_measureOf 71 = .ok (.iload 6, 2) := by decide +kernel
theorem dX12_measureOf_73 : decode cX12_measureOf 73 = .ok (.invokevirtual 166, 3) := by decide +kernel
theorem dX12_measureOf_76 : decode cX12_measureOf 76 = .ok (.ifCond .le 31, 3) := by decide +kernel
theorem dX12_measureOf_79 : decode cX12_measureOf 79 = .ok (.lload 7, 2) := by decide +kernel
theorem dX12_measureOf_81 : decode cX12_measureOf 81 = .ok (.lload 7, 2) := by decide +kernel
theorem dX12_measureOf_83 : decode cX12_measureOf 83 = .ok (.lmul, 1) := by decide +kernel
theorem dX12_measureOf_84 : decode cX12_measureOf 84 = .ok (.aload_n 0, 1) := by decide +kernel
theorem dX12_measureOf_85 : decode cX12_measureOf 85 = .ok (.invokevirtual 253, 3) := by decide +kernel
theorem dX12_measureOf_88 : decode cX12_measureOf 88 = .ok (.lmul, 1) := by decide +kernel
theorem dX12_measureOf_89 : decode cX12_measureOf 89 = .ok (.aload_n 0, 1) := by decide +kernel
theorem dX12_measureOf_90 : decode cX12_measureOf 90 = .ok (.iload 5, 2) := by decide +kernel
theorem dX12_measureOf_92 : decode cX12_measureOf 92 = .ok (.invokevirtual 163, 3) := by decide +kernel
theorem dX12_measureOf_95 : decode cX12_measureOf 95 = .ok (.aload_n 0, 1) := by decide +kernel
theorem dX12_measureOf_96 : decode cX12_measureOf 96 = .ok (.iload 6, 2) := by decide +kernel
theorem dX12_measureOf_98 : decode cX12_measureOf 98 = .ok (.invokevirtual 166, 3) := by decide +kernel
theorem dX12_measureOf_101 : decode cX12_measureOf 101 = .ok (.imul, 1) := by decide +kernel
theorem dX12_measureOf_102 : decode cX12_measureOf 102 = .ok (.i2l, 1) := by decide +kernel
theorem dX12_measureOf_103 : decode cX12_measureOf 103 = .ok (.ldiv, 1) := by decide +kernel
theorem dX12_measureOf_104 : decode cX12_measureOf 104 = .ok (.goto 4, 3) := by decide +kernel
theorem dX12_measureOf_107 : decode cX12_measureOf 107 = .ok (.lconst 0, 1) := by decide +kernel
theorem dX12_measureOf_108 : decode cX12_measureOf 108 = .ok (.ladd, 1) := by decide +kernel
theorem dX12_measureOf_109 : decode cX12_measureOf 109 = .ok (.lstore_n 2, 1) := by decide +kernel
theorem dX12_measureOf_110 : decode cX12_measureOf 110 = .ok (.goto 35, 3) := by decide +kernel
theorem dX12_measureOf_113 : decode cX12_measureOf 113 = .ok (.iload_n 1, 1) := by decide +kernel
theorem dX12_measureOf_114 : decode cX12_measureOf 114 = .ok (.iconst 2, 1) := by decide +kernel
theorem dX12_measureOf_115 : decode cX12_measureOf 115 = .ok (.if_icmp .ne 23, 3) := by decide +kernel
theorem dX12_measureOf_118 : decode cX12_measureOf 118 = .ok (.lload_n 2, 1) := by decide +kernel
theorem dX12_measureOf_119 : decode cX12_measureOf 119 = .ok (.lload 7, 2) := by decide +kernel
theorem dX12_measureOf_121 : decode cX12_measureOf 121 = .ok (.iload 5, 2) := by decide +kernel
theorem dX12_measureOf_123 : decode cX12_measureOf 123 = .ok (.iconst 1, 1) := by decide +kernel
theorem dX12_measureOf_124 : decode cX12_measureOf 124 = .ok (.iadd, 1) := by decide +kernel
theorem dX12_measureOf_125 : decode cX12_measureOf 125 = .ok (.i2l, 1) := by decide +kernel
theorem dX12_measureOf_126 : decode cX12_measureOf 126 = .ok (.lmul, 1) := by decide +kernel
theorem dX12_measureOf_127 : decode cX12_measureOf 127 = .ok (.iload 6, 2) := by decide +kernel
theorem dX12_measureOf_129 : decode cX12_measureOf 129 = .ok (.iconst 1, 1) := by decide +kernel
theorem dX12_measureOf_130 : decode cX12_measureOf 130 = .ok (.iadd, 1) := by decide +kernel
theorem dX12_measureOf_131 : decode cX12_measureOf 131 = .ok (.i2l, 1) := by decide +kernel
theorem dX12_measureOf_132 : decode cX12_measureOf 132 = .ok (.lmul, 1) := by decide +kernel
theorem dX12_measureOf_133 : decode cX12_measureOf 133 = .ok (.ladd, 1) := by decide +kernel
theorem dX12_measureOf_134 : decode cX12_measureOf 134 = .ok (.lstore_n 2, 1) := by decide +kernel
theorem dX12_measureOf_135 : decode cX12_measureOf 135 = .ok (.goto 10, 3) := by decide +kernel
theorem dX12_measureOf_138 : decode cX12_measureOf 138 = .ok (.lload_n 2, 1) := by decide +kernel
theorem dX12_measureOf_139 : decode cX12_measureOf 139 = .ok (.lload 7, 2) := by decide +kernel
theorem dX12_measureOf_141 : decode cX12_measureOf 141 = .ok (.invokestatic 256, 3) := by decide +kernel
theorem dX12_measureOf_144 : decode cX12_measureOf 144 = .ok (.lstore_n 2, 1) := by decide +kernel
theorem dX12_measureOf_145 : decode cX12_measureOf 145 = .ok (.iinc 4 1, 3) := by decide +kernel
theorem dX12_measureOf_148 : decode cX12_measureOf 148 = .ok (.goto (-134), 3) := by decide +kernel
theorem dX12_measureOf_151 : decode cX12_measureOf 151 = .ok (.lload_n 2, 1) := by decide +kernel
theorem dX12_measureOf_152 : decode cX12_measureOf 152 = .ok (.lreturn, 1) := by decide +kernel
theorem dX12_product_0 : decode cX12_product 0 = .ok (.lconst 1, 1) := by decide +kernel
theorem dX12_product_1 : decode cX12_product 1 = .ok (.lstore_n 1, 1) := by decide +kernel
theorem dX12_product_2 : decode cX12_product 2 = .ok (.iconst 0, 1) := by decide +kernel
theorem dX12_product_3 : decode cX12_product 3 = .ok (.istore_n 3, 1) := by decide +kernel
theorem dX12_product_4 : decode cX12_product 4 = .ok (.iload_n 3, 1) := by decide +kernel
theorem dX12_product_5 : decode cX12_product 5 = .ok (.aload_n 0, 1) := by decide +kernel
theorem dX12_product_6 : decode cX12_product 6 = .ok (.getfield 9, 3) := by decide +kernel
theorem dX12_product_9 : decode cX12_product 9 = .ok (.iconst 0, 1) := by decide +kernel
theorem dX12_product_10 : decode cX12_product 10 = .ok (.iaload, 1) := by decide +kernel
theorem dX12_product_11 : decode cX12_product 11 = .ok (.if_icmp .ge 22, 3) := by decide +kernel
theorem dX12_product_14 : decode cX12_product 14 = .ok (.lload_n 1, 1) := by decide +kernel
theorem dX12_product_15 : decode cX12_product 15 = .ok (.iconst 1, 1) := by decide +kernel
theorem dX12_product_16 : decode cX12_product 16 = .ok (.aload_n 0, 1) := by decide +kernel
theorem dX12_product_17 : decode cX12_product 17 = .ok (.iload_n 3, 1) := by decide +kernel
theorem dX12_product_18 : decode cX12_product 18 = .ok (.invokevirtual 163, 3) := by decide +kernel
theorem dX12_product_21 : decode cX12_product 21 = .ok (.invokestatic 260, 3) := by decide +kernel
theorem dX12_product_24 : decode cX12_product 24 = .ok (.i2l, 1) := by decide +kernel
theorem dX12_product_25 : decode cX12_product 25 = .ok (.lmul, 1) := by decide +kernel
theorem dX12_product_26 : decode cX12_product 26 = .ok (.lstore_n 1, 1) := by decide +kernel
theorem dX12_product_27 : decode cX12_product 27 = .ok (.iinc 3 1, 3) := by decide +kernel
theorem dX12_product_30 : decode cX12_product 30 = .ok (.goto (-26), 3) := by decide +kernel
theorem dX12_product_33 : decode cX12_product 33 = .ok (.iconst 0, 1) := by decide +kernel
theorem dX12_product_34 : decode cX12_product 34 = .ok (.istore_n 3, 1) := by decide +kernel
theorem dX12_product_35 : decode cX12_product 35 = .ok (.iload_n 3, 1) := by decide +kernel
theorem dX12_product_36 : decode cX12_product 36 = .ok (.aload_n 0, 1) := by decide +kernel
theorem dX12_product_37 : decode cX12_product 37 = .ok (.getfield 9, 3) := by decide +kernel
theorem dX12_product_40 : decode cX12_product 40 = .ok (.iconst 1, 1) := by decide +kernel
theorem dX12_product_41 : decode cX12_product 41 = .ok (.iaload, 1) := by decide +kernel
theorem dX12_product_42 : decode cX12_product 42 = .ok (.if_icmp .ge 22, 3) := by decide +kernel
theorem dX12_product_45 : decode cX12_product 45 = .ok (.lload_n 1, 1) := by decide +kernel
theorem dX12_product_46 : decode cX12_product 46 = .ok (.iconst 1, 1) := by decide +kernel
theorem dX12_product_47 : decode cX12_product 47 = .ok (.aload_n 0, 1) := by decide +kernel
theorem dX12_product_48 : decode cX12_product 48 = .ok (.iload_n 3, 1) := by decide +kernel
theorem dX12_product_49 : decode cX12_product 49 = .ok (.invokevirtual 166, 3) := by decide +kernel
theorem dX12_product_52 : decode cX12_product 52 = .ok (.invokestatic 260, 3) := by decide +kernel
theorem dX12_product_55 : decode cX12_product 55 = .ok (.i2l, 1) := by decide +kernel
theorem dX12_product_56 : decode cX12_product 56 = .ok (.lmul, 1) := by decide +kernel
theorem dX12_product_57 : decode cX12_product 57 = .ok (.lstore_n 1, 1) := by decide +kernel
theorem dX12_product_58 : decode cX12_product 58 = .ok (.iinc 3 1, 3) := by decide +kernel
theorem dX12_product_61 : decode cX12_product 61 = .ok (.goto (-26), 3) := by decide +kernel
theorem dX12_product_64 : decode cX12_product 64 = .ok (.lload_n 1, 1) := by decide +kernel
theorem dX12_product_65 : decode cX12_product 65 = .ok (.lreturn, 1) := by decide +kernel
theorem dX12_laysNow_0 : decode cX12_laysNow 0 = .ok (.iconst 0, 1) := by decide +kernel
theorem dX12_laysNow_1 : decode cX12_laysNow 1 = .ok (.istore_n 1, 1) := by decide +kernel
theorem dX12_laysNow_2 : decode cX12_laysNow 2 = .ok (.iload_n 1, 1) := by decide +kernel
theorem dX12_laysNow_3 : decode cX12_laysNow 3 = .ok (.aload_n 0, 1) := by decide +kernel
theorem dX12_laysNow_4 : decode cX12_laysNow 4 = .ok (.invokevirtual 150, 3) := by decide +kernel
theorem dX12_laysNow_7 : decode cX12_laysNow 7 = .ok (.if_icmp .ge 23, 3) := by decide +kernel
theorem dX12_laysNow_10 : decode cX12_laysNow 10 = .ok (.aload_n 0, 1) := by decide +kernel
theorem dX12_laysNow_11 : decode cX12_laysNow 11 = .ok (.getfield 26, 3) := by decide +kernel
theorem dX12_laysNow_14 : decode cX12_laysNow 14 = .ok (.iload_n 1, 1) := by decide +kernel
theorem dX12_laysNow_15 : decode cX12_laysNow 15 = .ok (.aload_n 0, 1) := by decide +kernel
theorem dX12_laysNow_16 : decode cX12_laysNow 16 = .ok (.getfield 9, 3) := by decide +kernel
theorem dX12_laysNow_19 : decode cX12_laysNow 19 = .ok (.iconst 5, 1) := by decide +kernel
theorem dX12_laysNow_20 : decode cX12_laysNow 20 = .ok (.iload_n 1, 1) := by decide +kernel
theorem dX12_laysNow_21 : decode cX12_laysNow 21 = .ok (.iadd, 1) := by decide +kernel
theorem dX12_laysNow_22 : decode cX12_laysNow 22 = .ok (.iaload, 1) := by decide +kernel
theorem dX12_laysNow_23 : decode cX12_laysNow 23 = .ok (.iastore, 1) := by decide +kernel
theorem dX12_laysNow_24 : decode cX12_laysNow 24 = .ok (.iinc 1 1, 3) := by decide +kernel
theorem dX12_laysNow_27 : decode cX12_laysNow 27 = .ok (.goto (-25), 3) := by decide +kernel
theorem dX12_laysNow_30 : decode cX12_laysNow 30 = .ok (.return_, 1) := by decide +kernel
theorem dX12_is_0 : decode cX12_is 0 = .ok (.aload_n 0, 1) := by decide +kernel
theorem dX12_is_1 : decode cX12_is 1 = .ok (.getfield 9, 3) := by decide +kernel
theorem dX12_is_4 : decode cX12_is 4 = .ok (.iconst 3, 1) := by decide +kernel
theorem dX12_is_5 : decode cX12_is 5 = .ok (.iaload, 1) := by decide +kernel
theorem dX12_is_6 : decode cX12_is 6 = .ok (.ifCond .le 7, 3) := by decide +kernel
theorem dX12_is_9 : decode cX12_is 9 = .ok (.iconst 1, 1) := by decide +kernel
theorem dX12_is_10 : decode cX12_is 10 = .ok (.goto 4, 3) := by decide +kernel
theorem dX12_is_13 : decode cX12_is 13 = .ok (.iconst 0, 1) := by decide +kernel
theorem dX12_is_14 : decode cX12_is 14 = .ok (.ireturn, 1) := by decide +kernel
theorem dX12_tablesOf_0 : decode cX12_tablesOf 0 = .ok (.aload_n 0, 1) := by decide +kernel
theorem dX12_tablesOf_1 : decode cX12_tablesOf 1 = .ok (.iconst 0, 1) := by decide +kernel
theorem dX12_tablesOf_2 : decode cX12_tablesOf 2 = .ok (.invokevirtual 262, 3) := by decide +kernel
theorem dX12_tablesOf_5 : decode cX12_tablesOf 5 = .ok (.aload_n 0, 1) := by decide +kernel
theorem dX12_tablesOf_6 : decode cX12_tablesOf 6 = .ok (.getfield 175, 3) := by decide +kernel
theorem dX12_tablesOf_9 : decode cX12_tablesOf 9 = .ok (.lreturn, 1) := by decide +kernel
theorem dX12_tables_0 : decode cX12_tables 0 = .ok (.aload_n 0, 1) := by decide +kernel
theorem dX12_tables_1 : decode cX12_tables 1 = .ok (.invokevirtual 265, 3) := by decide +kernel
theorem dX12_tables_4 : decode cX12_tables 4 = .ok (.ifCond .eq 10, 3) := by decide +kernel
theorem dX12_tables_7 : decode cX12_tables 7 = .ok (.aload_n 0, 1) := by decide +kernel
theorem dX12_tables_8 : decode cX12_tables 8 = .ok (.invokevirtual 269, 3) := by decide +kernel
theorem dX12_tables_11 : decode cX12_tables 11 = .ok (.goto 6, 3) := by decide +kernel
theorem dX12_tables_14 : decode cX12_tables 14 = .ok (.ldc2_w 272, 3) := by decide +kernel
theorem dX12_tables_17 : decode cX12_tables 17 = .ok (.lreturn, 1) := by decide +kernel
theorem dX12_rankOf_0 : decode cX12_rankOf 0 = .ok (.aload_n 0, 1) := by decide +kernel
theorem dX12_rankOf_1 : decode cX12_rankOf 1 = .ok (.iconst 1, 1) := by decide +kernel
theorem dX12_rankOf_2 : decode cX12_rankOf 2 = .ok (.invokevirtual 262, 3) := by decide +kernel
theorem dX12_rankOf_5 : decode cX12_rankOf 5 = .ok (.aload_n 0, 1) := by decide +kernel
theorem dX12_rankOf_6 : decode cX12_rankOf 6 = .ok (.getfield 181, 3) := by decide +kernel
theorem dX12_rankOf_9 : decode cX12_rankOf 9 = .ok (.lreturn, 1) := by decide +kernel
theorem dX12_rank_0 : decode cX12_rank 0 = .ok (.aload_n 0, 1) := by decide +kernel
theorem dX12_rank_1 : decode cX12_rank 1 = .ok (.invokevirtual 265, 3) := by decide +kernel
theorem dX12_rank_4 : decode cX12_rank 4 = .ok (.ifCond .eq 10, 3) := by decide +kernel
theorem dX12_rank_7 : decode cX12_rank 7 = .ok (.aload_n 0, 1) := by decide +kernel
theorem dX12_rank_8 : decode cX12_rank 8 = .ok (.invokevirtual 274, 3) := by decide +kernel
theorem dX12_rank_11 : decode cX12_rank 11 = .ok (.goto 6, 3) := by decide +kernel
theorem dX12_rank_14 : decode cX12_rank 14 = .ok (.ldc2_w 272, 3) := by decide +kernel
theorem dX12_rank_17 : decode cX12_rank 17 = .ok (.lreturn, 1) := by decide +kernel
theorem dX12_of_0 : decode cX12_of 0 = .ok (.aload_n 0, 1) := by decide +kernel
theorem dX12_of_1 : decode cX12_of 1 = .ok (.iload_n 3, 1) := by decide +kernel
theorem dX12_of_2 : decode cX12_of 2 = .ok (.iload 4, 2) := by decide +kernel
theorem dX12_of_4 : decode cX12_of 4 = .ok (.invokevirtual 160, 3) := by decide +kernel
theorem dX12_of_7 : decode cX12_of 7 = .ok (.ifCond .eq 9, 3) := by decide +kernel
theorem dX12_of_10 : decode cX12_of 10 = .ok (.lload_n 1, 1) := by decide +kernel
theorem dX12_of_11 : decode cX12_of 11 = .ok (.lconst 0, 1) := by decide +kernel
theorem dX12_of_12 : decode cX12_of 12 = .ok (.lcmp, 1) := by decide +kernel
theorem dX12_of_13 : decode cX12_of 13 = .ok (.ifCond .ge 6, 3) := by decide +kernel
theorem dX12_of_16 : decode cX12_of 16 = .ok (.bipush (-2), 2) := by decide +kernel
theorem dX12_of_18 : decode cX12_of 18 = .ok (.ireturn, 1) := by decide +kernel
theorem dX12_of_19 : decode cX12_of 19 = .ok (.aload_n 0, 1) := by decide +kernel
theorem dX12_of_20 : decode cX12_of 20 = .ok (.lload_n 1, 1) := by decide +kernel
theorem dX12_of_21 : decode cX12_of 21 = .ok (.putfield 197, 3) := by decide +kernel
theorem dX12_of_24 : decode cX12_of 24 = .ok (.aload_n 0, 1) := by decide +kernel
theorem dX12_of_25 : decode cX12_of 25 = .ok (.iconst 2, 1) := by decide +kernel
theorem dX12_of_26 : decode cX12_of 26 = .ok (.invokevirtual 262, 3) := by decide +kernel
theorem dX12_of_29 : decode cX12_of 29 = .ok (.aload_n 0, 1) := by decide +kernel
theorem dX12_of_30 : decode cX12_of 30 = .ok (.getfield 172, 3) := by decide +kernel
theorem dX12_of_33 : decode cX12_of 33 = .ok (.ifCond .eq 18, 3) := by decide +kernel
theorem dX12_of_36 : decode cX12_of 36 = .ok (.aload_n 0, 1) := by decide +kernel
theorem dX12_of_37 : decode cX12_of 37 = .ok (.getfield 26, 3) := by decide +kernel
theorem dX12_of_40 : decode cX12_of 40 = .ok (.aload_n 0, 1) := by decide +kernel
theorem dX12_of_41 : decode cX12_of 41 = .ok (.iload_n 3, 1) := by decide +kernel
theorem dX12_of_42 : decode cX12_of 42 = .ok (.iload 4, 2) := by decide +kernel
theorem dX12_of_44 : decode cX12_of 44 = .ok (.invokevirtual 133, 3) := by decide +kernel
theorem dX12_of_47 : decode cX12_of 47 = .ok (.iaload, 1) := by decide +kernel
theorem dX12_of_48 : decode cX12_of 48 = .ok (.goto 5, 3) := by decide +kernel
theorem dX12_of_51 : decode cX12_of 51 = .ok (.bipush (-2), 2) := by decide +kernel
theorem dX12_of_53 : decode cX12_of 53 = .ok (.ireturn, 1) := by decide +kernel
theorem dX12_talliesAll_0 : decode cX12_talliesAll 0 = .ok (.iconst 0, 1) := by decide +kernel
theorem dX12_talliesAll_1 : decode cX12_talliesAll 1 = .ok (.istore_n 1, 1) := by decide +kernel
theorem dX12_talliesAll_2 : decode cX12_talliesAll 2 = .ok (.iload_n 1, 1) := by decide +kernel
theorem dX12_talliesAll_3 : decode cX12_talliesAll 3 = .ok (.aload_n 0, 1) := by decide +kernel
theorem dX12_talliesAll_4 : decode cX12_talliesAll 4 = .ok (.getfield 35, 3) := by decide +kernel
theorem dX12_talliesAll_7 : decode cX12_talliesAll 7 = .ok (.arraylength, 1) := by decide +kernel
theorem dX12_talliesAll_8 : decode cX12_talliesAll 8 = .ok (.if_icmp .ge 16, 3) := by decide +kernel
theorem dX12_talliesAll_11 : decode cX12_talliesAll 11 = .ok (.aload_n 0, 1) := by decide +kernel
theorem dX12_talliesAll_12 : decode cX12_talliesAll 12 = .ok (.getfield 35, 3) := by decide +kernel
theorem dX12_talliesAll_15 : decode cX12_talliesAll 15 = .ok (.iload_n 1, 1) := by decide +kernel
theorem dX12_talliesAll_16 : decode cX12_talliesAll 16 = .ok (.lconst 0, 1) := by decide +kernel
theorem dX12_talliesAll_17 : decode cX12_talliesAll 17 = .ok (.lastore, 1) := by decide +kernel
theorem dX12_talliesAll_18 : decode cX12_talliesAll 18 = .ok (.iinc 1 1, 3) := by decide +kernel
theorem dX12_talliesAll_21 : decode cX12_talliesAll 21 = .ok (.goto (-19), 3) := by decide +kernel
theorem dX12_talliesAll_24 : decode cX12_talliesAll 24 = .ok (.aload_n 0, 1) := by decide +kernel
theorem dX12_talliesAll_25 : decode cX12_talliesAll 25 = .ok (.iconst 3, 1) := by decide +kernel
theorem dX12_talliesAll_26 : decode cX12_talliesAll 26 = .ok (.invokevirtual 262, 3) := by decide +kernel
theorem dX12_talliesAll_29 : decode cX12_talliesAll 29 = .ok (.return_, 1) := by decide +kernel
theorem dX12_bounds_0 : decode cX12_bounds 0 = .ok (.iconst (-1), 1) := by decide +kernel
theorem dX12_bounds_1 : decode cX12_bounds 1 = .ok (.istore_n 3, 1) := by decide +kernel
theorem dX12_bounds_2 : decode cX12_bounds 2 = .ok (.iconst 0, 1) := by decide +kernel
theorem dX12_bounds_3 : decode cX12_bounds 3 = .ok (.istore 4, 2) := by decide +kernel
theorem dX12_bounds_5 : decode cX12_bounds 5 = .ok (.iload 4, 2) := by decide +kernel
theorem dX12_bounds_7 : decode cX12_bounds 7 = .ok (.bipush 20, 2) := by decide +kernel
theorem dX12_bounds_9 : decode cX12_bounds 9 = .ok (.if_icmp .gt 41, 3) := by decide +kernel
theorem dX12_bounds_12 : decode cX12_bounds 12 = .ok (.aload_n 0, 1) := by decide +kernel
theorem dX12_bounds_13 : decode cX12_bounds 13 = .ok (.getfield 35, 3) := by decide +kernel
theorem dX12_bounds_16 : decode cX12_bounds 16 = .ok (.bipush 21, 2) := by decide +kernel
theorem dX12_bounds_18 : decode cX12_bounds 18 = .ok (.iload_n 1, 1) := by decide +kernel
theorem dX12_bounds_19 : decode cX12_bounds 19 = .ok (.imul, 1) := by decide +kernel
theorem dX12_bounds_20 : decode cX12_bounds 20 = .ok (.iload 4, 2) := by decide +kernel
theorem dX12_bounds_22 : decode cX12_bounds 22 = .ok (.iadd, 1) := by decide +kernel
theorem dX12_bounds_23 : decode cX12_bounds 23 = .ok (.laload, 1) := by decide +kernel
theorem dX12_bounds_24 : decode cX12_bounds 24 = .ok (.lconst 0, 1) := by decide +kernel
theorem dX12_bounds_25 : decode cX12_bounds 25 = .ok (.lcmp, 1) := by decide +kernel
theorem dX12_bounds_26 : decode cX12_bounds 26 = .ok (.ifCond .le 16, 3) := by decide +kernel
theorem dX12_bounds_29 : decode cX12_bounds 29 = .ok (.iload_n 3, 1) := by decide +kernel
theorem dX12_bounds_30 : decode cX12_bounds 30 = .ok (.ifCond .lt 7, 3) := by decide +kernel
theorem dX12_bounds_33 : decode cX12_bounds 33 = .ok (.iload_n 2, 1) := by decide +kernel
theorem dX12_bounds_34 : decode cX12_bounds 34 = .ok (.ifCond .eq 8, 3) := by decide +kernel
theorem dX12_bounds_37 : decode cX12_bounds 37 = .ok (.iload 4, 2) := by decide +kernel
theorem dX12_bounds_39 : decode cX12_bounds 39 = .ok (.goto 4, 3) := by decide +kernel
theorem dX12_bounds_42 : decode cX12_bounds 42 = .ok (.iload_n 3, 1) := by decide +kernel
theorem dX12_bounds_43 : decode cX12_bounds 43 = .ok (.istore_n 3, 1) := by decide +kernel
theorem dX12_bounds_44 : decode cX12_bounds 44 = .ok (.iinc 4 1, 3) := by decide +kernel
theorem dX12_bounds_47 : decode cX12_bounds 47 = .ok (.goto (-42), 3) := by decide +kernel
theorem dX12_bounds_50 : decode cX12_bounds 50 = .ok (.iload_n 3, 1) := by decide +kernel
theorem dX12_bounds_51 : decode cX12_bounds 51 = .ok (.ireturn, 1) := by decide +kernel
theorem dX12_least_0 : decode cX12_least 0 = .ok (.aload_n 0, 1) := by decide +kernel
theorem dX12_least_1 : decode cX12_least 1 = .ok (.iload_n 1, 1) := by decide +kernel
theorem dX12_least_2 : decode cX12_least 2 = .ok (.iload_n 2, 1) := by decide +kernel
theorem dX12_least_3 : decode cX12_least 3 = .ok (.invokevirtual 160, 3) := by decide +kernel
theorem dX12_least_6 : decode cX12_least 6 = .ok (.ifCond .ne 6, 3) := by decide +kernel
theorem dX12_least_9 : decode cX12_least 9 = .ok (.bipush (-2), 2) := by decide +kernel
theorem dX12_least_11 : decode cX12_least 11 = .ok (.ireturn, 1) := by decide +kernel
theorem dX12_least_12 : decode cX12_least 12 = .ok (.aload_n 0, 1) := by decide +kernel
theorem dX12_least_13 : decode cX12_least 13 = .ok (.invokevirtual 277, 3) := by decide +kernel
theorem dX12_least_16 : decode cX12_least 16 = .ok (.aload_n 0, 1) := by decide +kernel
theorem dX12_least_17 : decode cX12_least 17 = .ok (.aload_n 0, 1) := by decide +kernel
theorem dX12_least_18 : decode cX12_least 18 = .ok (.iload_n 1, 1) := by decide +kernel
theorem dX12_least_19 : decode cX12_least 19 = .ok (.iload_n 2, 1) := by decide +kernel
theorem dX12_least_20 : decode cX12_least 20 = .ok (.invokevirtual 133, 3) := by decide +kernel
theorem dX12_least_23 : decode cX12_least 23 = .ok (.iconst 0, 1) := by decide +kernel
theorem dX12_least_24 : decode cX12_least 24 = .ok (.invokevirtual 280, 3) := by decide +kernel
theorem dX12_least_27 : decode cX12_least 27 = .ok (.ireturn, 1) := by decide +kernel
theorem dX12_most_0 : decode cX12_most 0 = .ok (.aload_n 0, 1) := by decide +kernel
theorem dX12_most_1 : decode cX12_most 1 = .ok (.iload_n 1, 1) := by decide +kernel
theorem dX12_most_2 : decode cX12_most 2 = .ok (.iload_n 2, 1) := by decide +kernel
theorem dX12_most_3 : decode cX12_most 3 = .ok (.invokevirtual 160, 3) := by decide +kernel
theorem dX12_most_6 : decode cX12_most 6 = .ok (.ifCond .ne 6, 3) := by decide +kernel
theorem dX12_most_9 : decode cX12_most 9 = .ok (.bipush (-2), 2) := by decide +kernel
theorem dX12_most_11 : decode cX12_most 11 = .ok (.ireturn, 1) := by decide +kernel
theorem dX12_most_12 : decode cX12_most 12 = .ok (.aload_n 0, 1) := by decide +kernel
theorem dX12_most_13 : decode cX12_most 13 = .ok (.invokevirtual 277, 3) := by decide +kernel
theorem dX12_most_16 : decode cX12_most 16 = .ok (.aload_n 0, 1) := by decide +kernel
theorem dX12_most_17 : decode cX12_most 17 = .ok (.aload_n 0, 1) := by decide +kernel
theorem dX12_most_18 : decode cX12_most 18 = .ok (.iload_n 1, 1) := by decide +kernel
theorem dX12_most_19 : decode cX12_most 19 = .ok (.iload_n 2, 1) := by decide +kernel
theorem dX12_most_20 : decode cX12_most 20 = .ok (.invokevirtual 133, 3) := by decide +kernel
theorem dX12_most_23 : decode cX12_most 23 = .ok (.iconst 1, 1) := by decide +kernel
theorem dX12_most_24 : decode cX12_most 24 = .ok (.invokevirtual 280, 3) := by decide +kernel
theorem dX12_most_27 : decode cX12_most 27 = .ok (.ireturn, 1) := by decide +kernel
theorem dX12_fixed_0 : decode cX12_fixed 0 = .ok (.aload_n 0, 1) := by decide +kernel
theorem dX12_fixed_1 : decode cX12_fixed 1 = .ok (.invokevirtual 265, 3) := by decide +kernel
theorem dX12_fixed_4 : decode cX12_fixed 4 = .ok (.ifCond .ne 6, 3) := by decide +kernel
theorem dX12_fixed_7 : decode cX12_fixed 7 = .ok (.bipush (-2), 2) := by decide +kernel
theorem dX12_fixed_9 : decode cX12_fixed 9 = .ok (.ireturn, 1) := by decide +kernel
theorem dX12_fixed_10 : decode cX12_fixed 10 = .ok (.aload_n 0, 1) := by decide +kernel
theorem dX12_fixed_11 : decode cX12_fixed 11 = .ok (.invokevirtual 277, 3) := by decide +kernel
theorem dX12_fixed_14 : decode cX12_fixed 14 = .ok (.iconst 0, 1) := by decide +kernel
theorem dX12_fixed_15 : decode cX12_fixed 15 = .ok (.istore_n 1, 1) := by decide +kernel
theorem dX12_fixed_16 : decode cX12_fixed 16 = .ok (.iconst 0, 1) := by decide +kernel
theorem dX12_fixed_17 : decode cX12_fixed 17 = .ok (.istore_n 2, 1) := by decide +kernel
theorem dX12_fixed_18 : decode cX12_fixed 18 = .ok (.iload_n 2, 1) := by decide +kernel
theorem dX12_fixed_19 : decode cX12_fixed 19 = .ok (.aload_n 0, 1) := by decide +kernel
theorem dX12_fixed_20 : decode cX12_fixed 20 = .ok (.invokevirtual 150, 3) := by decide +kernel
theorem dX12_fixed_23 : decode cX12_fixed 23 = .ok (.if_icmp .ge 47, 3) := by decide +kernel
theorem dX12_fixed_26 : decode cX12_fixed 26 = .ok (.iload_n 1, 1) := by decide +kernel
theorem dX12_fixed_27 : decode cX12_fixed 27 = .ok (.aload_n 0, 1) := by decide +kernel
theorem dX12_fixed_28 : decode cX12_fixed 28 = .ok (.getfield 9, 3) := by decide +kernel
theorem dX12_fixed_31 : decode cX12_fixed 31 = .ok (.iconst 2, 1) := by decide +kernel
theorem dX12_fixed_32 : decode cX12_fixed 32 = .ok (.iaload, 1) := by decide +kernel
theorem dX12_fixed_33 : decode cX12_fixed 33 = .ok (.iload_n 2, 1) := by decide +kernel
theorem dX12_fixed_34 : decode cX12_fixed 34 = .ok (.invokestatic 138, 3) := by decide +kernel
theorem dX12_fixed_37 : decode cX12_fixed 37 = .ok (.ifCond .ne 24, 3) := by decide +kernel
theorem dX12_fixed_40 : decode cX12_fixed 40 = .ok (.aload_n 0, 1) := by decide +kernel
theorem dX12_fixed_41 : decode cX12_fixed 41 = .ok (.iload_n 2, 1) := by decide +kernel
theorem dX12_fixed_42 : decode cX12_fixed 42 = .ok (.iconst 0, 1) := by decide +kernel
theorem dX12_fixed_43 : decode cX12_fixed 43 = .ok (.invokevirtual 280, 3) := by decide +kernel
theorem dX12_fixed_46 : decode cX12_fixed 46 = .ok (.aload_n 0, 1) := by decide +kernel
theorem dX12_fixed_47 : decode cX12_fixed 47 = .ok (.iload_n 2, 1) := by decide +kernel
theorem dX12_fixed_48 : decode cX12_fixed 48 = .ok (.iconst 1, 1) := by decide +kernel
theorem dX12_fixed_49 : decode cX12_fixed 49 = .ok (.invokevirtual 280, 3) := by decide +kernel
theorem dX12_fixed_52 : decode cX12_fixed 52 = .ok (.if_icmp .ne 9, 3) := by decide +kernel
theorem dX12_fixed_55 : decode cX12_fixed 55 = .ok (.iconst 1, 1) := by decide +kernel
theorem dX12_fixed_56 : decode cX12_fixed 56 = .ok (.iload_n 2, 1) := by decide +kernel
theorem dX12_fixed_57 : decode cX12_fixed 57 = .ok (.ishl, 1) := by decide +kernel
theorem dX12_fixed_58 : decode cX12_fixed 58 = .ok (.goto 4, 3) := by decide +kernel
theorem dX12_fixed_61 : decode cX12_fixed 61 = .ok (.iconst 0, 1) := by decide +kernel
theorem dX12_fixed_62 : decode cX12_fixed 62 = .ok (.ior, 1) := by decide +kernel
theorem dX12_fixed_63 : decode cX12_fixed 63 = .ok (.istore_n 1, 1) := by decide +kernel
theorem dX12_fixed_64 : decode cX12_fixed 64 = .ok (.iinc 2 1, 3) := by decide +kernel
theorem dX12_fixed_67 : decode cX12_fixed 67 = .ok (.goto (-49), 3) := by decide +kernel
theorem dX12_fixed_70 : decode cX12_fixed 70 = .ok (.iload_n 1, 1) := by decide +kernel
theorem dX12_fixed_71 : decode cX12_fixed 71 = .ok (.ireturn, 1) := by decide +kernel
theorem dX12_having_0 : decode cX12_having 0 = .ok (.aload_n 0, 1) := by decide +kernel
theorem dX12_having_1 : decode cX12_having 1 = .ok (.iload_n 1, 1) := by decide +kernel
theorem dX12_having_2 : decode cX12_having 2 = .ok (.iload_n 2, 1) := by decide +kernel
theorem dX12_having_3 : decode cX12_having 3 = .ok (.invokevirtual 160, 3) := by decide +kernel
theorem dX12_having_6 : decode cX12_having 6 = .ok (.ifCond .eq 15, 3) := by decide +kernel
theorem dX12_having_9 : decode cX12_having 9 = .ok (.iload_n 3, 1) := by decide +kernel
theorem dX12_having_10 : decode cX12_having 10 = .ok (.i2l, 1) := by decide +kernel
theorem dX12_having_11 : decode cX12_having 11 = .ok (.lconst 0, 1) := by decide +kernel
theorem dX12_having_12 : decode cX12_having 12 = .ok (.ldc2_w 284, 3) := by decide +kernel
theorem dX12_having_15 : decode cX12_having 15 = .ok (.invokestatic 60, 3) := by decide +kernel
theorem dX12_having_18 : decode cX12_having 18 = .ok (.ifCond .ne 7, 3) := by decide +kernel
theorem dX12_having_21 : decode cX12_having 21 = .ok (.ldc2_w 272, 3) := by decide +kernel
theorem dX12_having_24 : decode cX12_having 24 = .ok (.lreturn, 1) := by decide +kernel
theorem dX12_having_25 : decode cX12_having 25 = .ok (.aload_n 0, 1) := by decide +kernel
theorem dX12_having_26 : decode cX12_having 26 = .ok (.invokevirtual 277, 3) := by decide +kernel
theorem dX12_having_29 : decode cX12_having 29 = .ok (.aload_n 0, 1) := by decide +kernel
theorem dX12_having_30 : decode cX12_having 30 = .ok (.getfield 35, 3) := by decide +kernel
theorem dX12_having_33 : decode cX12_having 33 = .ok (.bipush 21, 2) := by decide +kernel
theorem dX12_having_35 : decode cX12_having 35 = .ok (.aload_n 0, 1) := by decide +kernel
theorem dX12_having_36 : decode cX12_having 36 = .ok (.iload_n 1, 1) := by decide +kernel
theorem dX12_having_37 : decode cX12_having 37 = .ok (.iload_n 2, 1) := by decide +kernel
theorem dX12_having_38 : decode cX12_having 38 = .ok (.invokevirtual 133, 3) := by decide +kernel
theorem dX12_having_41 : decode cX12_having 41 = .ok (.imul, 1) := by decide +kernel
theorem dX12_having_42 : decode cX12_having 42 = .ok (.iload_n 3, 1) := by decide +kernel
theorem dX12_having_43 : decode cX12_having 43 = .ok (.iadd, 1) := by decide +kernel
theorem dX12_having_44 : decode cX12_having 44 = .ok (.laload, 1) := by decide +kernel
theorem dX12_having_45 : decode cX12_having 45 = .ok (.lreturn, 1) := by decide +kernel
theorem dX12_part_0 : decode cX12_part 0 = .ok (.iload 4, 2) := by decide +kernel
theorem dX12_part_2 : decode cX12_part 2 = .ok (.ifCond .ne 7, 3) := by decide +kernel
theorem dX12_part_5 : decode cX12_part 5 = .ok (.lload_n 0, 1) := by decide +kernel
theorem dX12_part_6 : decode cX12_part 6 = .ok (.goto 4, 3) := by decide +kernel
theorem dX12_part_9 : decode cX12_part 9 = .ok (.lload_n 2, 1) := by decide +kernel
theorem dX12_part_10 : decode cX12_part 10 = .ok (.lload_n 0, 1) := by decide +kernel
theorem dX12_part_11 : decode cX12_part 11 = .ok (.lload_n 2, 1) := by decide +kernel
theorem dX12_part_12 : decode cX12_part 12 = .ok (.invokestatic 286, 3) := by decide +kernel
theorem dX12_part_15 : decode cX12_part 15 = .ok (.ldiv, 1) := by decide +kernel
theorem dX12_part_16 : decode cX12_part 16 = .ok (.lreturn, 1) := by decide +kernel
theorem dX12_mean_0 : decode cX12_mean 0 = .ok (.aload_n 0, 1) := by decide +kernel
theorem dX12_mean_1 : decode cX12_mean 1 = .ok (.iload_n 1, 1) := by decide +kernel
theorem dX12_mean_2 : decode cX12_mean 2 = .ok (.iload_n 2, 1) := by decide +kernel
theorem dX12_mean_3 : decode cX12_mean 3 = .ok (.invokevirtual 160, 3) := by decide +kernel
theorem dX12_mean_6 : decode cX12_mean 6 = .ok (.ifCond .eq 13, 3) := by decide +kernel
theorem dX12_mean_9 : decode cX12_mean 9 = .ok (.iload_n 3, 1) := by decide +kernel
theorem dX12_mean_10 : decode cX12_mean 10 = .ok (.i2l, 1) := by decide +kernel
theorem dX12_mean_11 : decode cX12_mean 11 = .ok (.lconst 0, 1) := by decide +kernel
theorem dX12_mean_12 : decode cX12_mean 12 = .ok (.lconst 1, 1) := by decide +kernel
theorem dX12_mean_13 : decode cX12_mean 13 = .ok (.invokestatic 60, 3) := by decide +kernel
theorem dX12_mean_16 : decode cX12_mean 16 = .ok (.ifCond .ne 7, 3) := by decide +kernel
theorem dX12_mean_19 : decode cX12_mean 19 = .ok (.ldc2_w 272, 3) := by decide +kernel
theorem dX12_mean_22 : decode cX12_mean 22 = .ok (.lreturn, 1) := by decide +kernel
theorem dX12_mean_23 : decode cX12_mean 23 = .ok (.aload_n 0, 1) := by decide +kernel
theorem dX12_mean_24 : decode cX12_mean 24 = .ok (.invokevirtual 277, 3) := by decide +kernel
theorem dX12_mean_27 : decode cX12_mean 27 = .ok (.lconst 0, 1) := by decide +kernel
theorem dX12_mean_28 : decode cX12_mean 28 = .ok (.lstore 4, 2) := by decide +kernel
theorem dX12_mean_30 : decode cX12_mean 30 = .ok (.iconst 0, 1) := by decide +kernel
theorem dX12_mean_31 : decode cX12_mean 31 = .ok (.istore 6, 2) := by decide +kernel
theorem dX12_mean_33 : decode cX12_mean 33 = .ok (.iload 6, 2) := by decide +kernel
theorem dX12_mean_35 : decode cX12_mean 35 = .ok (.bipush 20, 2) := by decide +kernel
theorem dX12_mean_37 : decode cX12_mean 37 = .ok (.if_icmp .gt 35, 3) := by decide +kernel
theorem dX12_mean_40 : decode cX12_mean 40 = .ok (.lload 4, 2) := by decide +kernel
theorem dX12_mean_42 : decode cX12_mean 42 = .ok (.iload 6, 2) := by decide +kernel
theorem dX12_mean_44 : decode cX12_mean 44 = .ok (.i2l, 1) := by decide +kernel
theorem dX12_mean_45 : decode cX12_mean 45 = .ok (.aload_n 0, 1) := by decide +kernel
theorem dX12_mean_46 : decode cX12_mean 46 = .ok (.getfield 35, 3) := by decide +kernel
theorem dX12_mean_49 : decode cX12_mean 49 = .ok (.bipush 21, 2) := by decide +kernel
theorem dX12_mean_51 : decode cX12_mean 51 = .ok (.aload_n 0, 1) := by decide +kernel
theorem dX12_mean_52 : decode cX12_mean 52 = .ok (.iload_n 1, 1) := by decide +kernel
theorem dX12_mean_53 : decode cX12_mean 53 = .ok (.iload_n 2, 1) := by decide +kernel
theorem dX12_mean_54 : decode cX12_mean 54 = .ok (.invokevirtual 133, 3) := by decide +kernel
theorem dX12_mean_57 : decode cX12_mean 57 = .ok (.imul, 1) := by decide +kernel
theorem dX12_mean_58 : decode cX12_mean 58 = .ok (.iload 6, 2) := by decide +kernel
theorem dX12_mean_60 : decode cX12_mean 60 = .ok (.iadd, 1) := by decide +kernel
theorem dX12_mean_61 : decode cX12_mean 61 = .ok (.laload, 1) := by decide +kernel
theorem dX12_mean_62 : decode cX12_mean 62 = .ok (.lmul, 1) := by decide +kernel
theorem dX12_mean_63 : decode cX12_mean 63 = .ok (.ladd, 1) := by decide +kernel
theorem dX12_mean_64 : decode cX12_mean 64 = .ok (.lstore 4, 2) := by decide +kernel
theorem dX12_mean_66 : decode cX12_mean 66 = .ok (.iinc 6 1, 3) := by decide +kernel
theorem dX12_mean_69 : decode cX12_mean 69 = .ok (.goto (-36), 3) := by decide +kernel
theorem dX12_mean_72 : decode cX12_mean 72 = .ok (.lload 4, 2) := by decide +kernel
theorem dX12_mean_74 : decode cX12_mean 74 = .ok (.aload_n 0, 1) := by decide +kernel
theorem dX12_mean_75 : decode cX12_mean 75 = .ok (.getfield 175, 3) := by decide +kernel
theorem dX12_mean_78 : decode cX12_mean 78 = .ok (.iload_n 3, 1) := by decide +kernel
theorem dX12_mean_79 : decode cX12_mean 79 = .ok (.invokestatic 289, 3) := by decide +kernel
theorem dX12_mean_82 : decode cX12_mean 82 = .ok (.lreturn, 1) := by decide +kernel
theorem dX12_weight_0 : decode cX12_weight 0 = .ok (.aload_n 0, 1) := by decide +kernel
theorem dX12_weight_1 : decode cX12_weight 1 = .ok (.invokevirtual 265, 3) := by decide +kernel
theorem dX12_weight_4 : decode cX12_weight 4 = .ok (.ifCond .ne 7, 3) := by decide +kernel
theorem dX12_weight_7 : decode cX12_weight 7 = .ok (.ldc2_w 272, 3) := by decide +kernel
theorem dX12_weight_10 : decode cX12_weight 10 = .ok (.lreturn, 1) := by decide +kernel
theorem dX12_weight_11 : decode cX12_weight 11 = .ok (.aload_n 0, 1) := by decide +kernel
theorem dX12_weight_12 : decode cX12_weight 12 = .ok (.invokevirtual 293, 3) := by decide +kernel
theorem dX12_weight_15 : decode cX12_weight 15 = .ok (.aload_n 0, 1) := by decide +kernel
theorem dX12_weight_16 : decode cX12_weight 16 = .ok (.invokevirtual 212, 3) := by decide +kernel
theorem dX12_weight_19 : decode cX12_weight 19 = .ok (.lreturn, 1) := by decide +kernel
theorem dX12_weighsAll_0 : decode cX12_weighsAll 0 = .ok (.aload_n 0, 1) := by decide +kernel
theorem dX12_weighsAll_1 : decode cX12_weighsAll 1 = .ok (.lconst 0, 1) := by decide +kernel
theorem dX12_weighsAll_2 : decode cX12_weighsAll 2 = .ok (.putfield 216, 3) := by decide +kernel
theorem dX12_weighsAll_5 : decode cX12_weighsAll 5 = .ok (.aload_n 0, 1) := by decide +kernel
theorem dX12_weighsAll_6 : decode cX12_weighsAll 6 = .ok (.iconst 4, 1) := by decide +kernel
theorem dX12_weighsAll_7 : decode cX12_weighsAll 7 = .ok (.invokevirtual 262, 3) := by decide +kernel
theorem dX12_weighsAll_10 : decode cX12_weighsAll 10 = .ok (.return_, 1) := by decide +kernel
theorem dX12_weights_0 : decode cX12_weights 0 = .ok (.aload_n 0, 1) := by decide +kernel
theorem dX12_weights_1 : decode cX12_weights 1 = .ok (.invokevirtual 265, 3) := by decide +kernel
theorem dX12_weights_4 : decode cX12_weights 4 = .ok (.ifCond .ne 7, 3) := by decide +kernel
theorem dX12_weights_7 : decode cX12_weights 7 = .ok (.ldc2_w 272, 3) := by decide +kernel
theorem dX12_weights_10 : decode cX12_weights 10 = .ok (.lreturn, 1) := by decide +kernel
theorem dX12_weights_11 : decode cX12_weights 11 = .ok (.aload_n 0, 1) := by decide +kernel
theorem dX12_weights_12 : decode cX12_weights 12 = .ok (.invokevirtual 296, 3) := by decide +kernel
theorem dX12_weights_15 : decode cX12_weights 15 = .ok (.aload_n 0, 1) := by decide +kernel
theorem dX12_weights_16 : decode cX12_weights 16 = .ok (.getfield 216, 3) := by decide +kernel
theorem dX12_weights_19 : decode cX12_weights 19 = .ok (.lreturn, 1) := by decide +kernel
theorem dX12_heaviest_0 : decode cX12_heaviest 0 = .ok (.aload_n 0, 1) := by decide +kernel
theorem dX12_heaviest_1 : decode cX12_heaviest 1 = .ok (.invokevirtual 265, 3) := by decide +kernel
theorem dX12_heaviest_4 : decode cX12_heaviest 4 = .ok (.ifCond .ne 7, 3) := by decide +kernel
theorem dX12_heaviest_7 : decode cX12_heaviest 7 = .ok (.ldc2_w 272, 3) := by decide +kernel
theorem dX12_heaviest_10 : decode cX12_heaviest 10 = .ok (.lreturn, 1) := by decide +kernel
theorem dX12_heaviest_11 : decode cX12_heaviest 11 = .ok (.aload_n 0, 1) := by decide +kernel
theorem dX12_heaviest_12 : decode cX12_heaviest 12 = .ok (.invokevirtual 296, 3) := by decide +kernel
theorem dX12_heaviest_15 : decode cX12_heaviest 15 = .ok (.aload_n 0, 1) := by decide +kernel
theorem dX12_heaviest_16 : decode cX12_heaviest 16 = .ok (.getfield 222, 3) := by decide +kernel
theorem dX12_heaviest_19 : decode cX12_heaviest 19 = .ok (.lreturn, 1) := by decide +kernel
theorem dX12_lightest_0 : decode cX12_lightest 0 = .ok (.aload_n 0, 1) := by decide +kernel
theorem dX12_lightest_1 : decode cX12_lightest 1 = .ok (.invokevirtual 265, 3) := by decide +kernel
theorem dX12_lightest_4 : decode cX12_lightest 4 = .ok (.ifCond .ne 7, 3) := by decide +kernel
theorem dX12_lightest_7 : decode cX12_lightest 7 = .ok (.ldc2_w 272, 3) := by decide +kernel
theorem dX12_lightest_10 : decode cX12_lightest 10 = .ok (.lreturn, 1) := by decide +kernel
theorem dX12_lightest_11 : decode cX12_lightest 11 = .ok (.aload_n 0, 1) := by decide +kernel
theorem dX12_lightest_12 : decode cX12_lightest 12 = .ok (.invokevirtual 296, 3) := by decide +kernel
theorem dX12_lightest_15 : decode cX12_lightest 15 = .ok (.aload_n 0, 1) := by decide +kernel
theorem dX12_lightest_16 : decode cX12_lightest 16 = .ok (.getfield 228, 3) := by decide +kernel
theorem dX12_lightest_19 : decode cX12_lightest 19 = .ok (.lreturn, 1) := by decide +kernel
theorem dX12_isStatistic_0 : decode cX12_isStatistic 0 = .ok (.aload_n 0, 1) := by decide +kernel
theorem dX12_isStatistic_1 : decode cX12_isStatistic 1 = .ok (.invokevirtual 265, 3) := by decide +kernel
theorem dX12_isStatistic_4 : decode cX12_isStatistic 4 = .ok (.ifCond .eq 19, 3) := by decide +kernel
theorem dX12_isStatistic_7 : decode cX12_isStatistic 7 = .ok (.iload_n 1, 1) := by decide +kernel
theorem dX12_isStatistic_8 : decode cX12_isStatistic 8 = .ok (.i2l, 1) := by decide +kernel
theorem dX12_isStatistic_9 : decode cX12_isStatistic 9 = .ok (.lconst 0, 1) := by decide +kernel
theorem dX12_isStatistic_10 : decode cX12_isStatistic 10 = .ok (.ldc2_w 299, 3) := by decide +kernel
theorem dX12_isStatistic_13 : decode cX12_isStatistic 13 = .ok (.invokestatic 60, 3) := by decide +kernel
theorem dX12_isStatistic_16 : decode cX12_isStatistic 16 = .ok (.ifCond .eq 7, 3) := by decide +kernel
theorem dX12_isStatistic_19 : decode cX12_isStatistic 19 = .ok (.iconst 1, 1) := by decide +kernel
theorem dX12_isStatistic_20 : decode cX12_isStatistic 20 = .ok (.goto 4, 3) := by decide +kernel
theorem dX12_isStatistic_23 : decode cX12_isStatistic 23 = .ok (.iconst 0, 1) := by decide +kernel
theorem dX12_isStatistic_24 : decode cX12_isStatistic 24 = .ok (.ireturn, 1) := by decide +kernel
theorem dX12_statistic_0 : decode cX12_statistic 0 = .ok (.aload_n 0, 1) := by decide +kernel
theorem dX12_statistic_1 : decode cX12_statistic 1 = .ok (.iload_n 1, 1) := by decide +kernel
theorem dX12_statistic_2 : decode cX12_statistic 2 = .ok (.invokevirtual 301, 3) := by decide +kernel
theorem dX12_statistic_5 : decode cX12_statistic 5 = .ok (.ifCond .ne 7, 3) := by decide +kernel
theorem dX12_statistic_8 : decode cX12_statistic 8 = .ok (.ldc2_w 272, 3) := by decide +kernel
theorem dX12_statistic_11 : decode cX12_statistic 11 = .ok (.lreturn, 1) := by decide +kernel
theorem dX12_statistic_12 : decode cX12_statistic 12 = .ok (.aload_n 0, 1) := by decide +kernel
theorem dX12_statistic_13 : decode cX12_statistic 13 = .ok (.invokevirtual 293, 3) := by decide +kernel
theorem dX12_statistic_16 : decode cX12_statistic 16 = .ok (.aload_n 0, 1) := by decide +kernel
theorem dX12_statistic_17 : decode cX12_statistic 17 = .ok (.iload_n 1, 1) := by decide +kernel
theorem dX12_statistic_18 : decode cX12_statistic 18 = .ok (.invokevirtual 234, 3) := by decide +kernel
theorem dX12_statistic_21 : decode cX12_statistic 21 = .ok (.lreturn, 1) := by decide +kernel
theorem dX12_measuresAll_0 : decode cX12_measuresAll 0 = .ok (.aload_n 0, 1) := by decide +kernel
theorem dX12_measuresAll_1 : decode cX12_measuresAll 1 = .ok (.invokevirtual 293, 3) := by decide +kernel
theorem dX12_measuresAll_4 : decode cX12_measuresAll 4 = .ok (.aload_n 0, 1) := by decide +kernel
theorem dX12_measuresAll_5 : decode cX12_measuresAll 5 = .ok (.iload_n 1, 1) := by decide +kernel
theorem dX12_measuresAll_6 : decode cX12_measuresAll 6 = .ok (.putfield 231, 3) := by decide +kernel
theorem dX12_measuresAll_9 : decode cX12_measuresAll 9 = .ok (.aload_n 0, 1) := by decide +kernel
theorem dX12_measuresAll_10 : decode cX12_measuresAll 10 = .ok (.aload_n 0, 1) := by decide +kernel
theorem dX12_measuresAll_11 : decode cX12_measuresAll 11 = .ok (.iload_n 1, 1) := by decide +kernel
theorem dX12_measuresAll_12 : decode cX12_measuresAll 12 = .ok (.invokevirtual 234, 3) := by decide +kernel
theorem dX12_measuresAll_15 : decode cX12_measuresAll 15 = .ok (.putfield 238, 3) := by decide +kernel
theorem dX12_measuresAll_18 : decode cX12_measuresAll 18 = .ok (.aload_n 0, 1) := by decide +kernel
theorem dX12_measuresAll_19 : decode cX12_measuresAll 19 = .ok (.lconst 0, 1) := by decide +kernel
theorem dX12_measuresAll_20 : decode cX12_measuresAll 20 = .ok (.putfield 216, 3) := by decide +kernel
theorem dX12_measuresAll_23 : decode cX12_measuresAll 23 = .ok (.aload_n 0, 1) := by decide +kernel
theorem dX12_measuresAll_24 : decode cX12_measuresAll 24 = .ok (.lconst 0, 1) := by decide +kernel
theorem dX12_measuresAll_25 : decode cX12_measuresAll 25 = .ok (.putfield 241, 3) := by decide +kernel
theorem dX12_measuresAll_28 : decode cX12_measuresAll 28 = .ok (.aload_n 0, 1) := by decide +kernel
theorem dX12_measuresAll_29 : decode cX12_measuresAll 29 = .ok (.lconst 0, 1) := by decide +kernel
theorem dX12_measuresAll_30 : decode cX12_measuresAll 30 = .ok (.putfield 244, 3) := by decide +kernel
theorem dX12_measuresAll_33 : decode cX12_measuresAll 33 = .ok (.aload_n 0, 1) := by decide +kernel
theorem dX12_measuresAll_34 : decode cX12_measuresAll 34 = .ok (.iconst 5, 1) := by decide +kernel
theorem dX12_measuresAll_35 : decode cX12_measuresAll 35 = .ok (.invokevirtual 262, 3) := by decide +kernel
theorem dX12_measuresAll_38 : decode cX12_measuresAll 38 = .ok (.return_, 1) := by decide +kernel
theorem dX12_extreme_0 : decode cX12_extreme 0 = .ok (.aload_n 0, 1) := by decide +kernel
theorem dX12_extreme_1 : decode cX12_extreme 1 = .ok (.iload_n 1, 1) := by decide +kernel
theorem dX12_extreme_2 : decode cX12_extreme 2 = .ok (.invokevirtual 301, 3) := by decide +kernel
theorem dX12_extreme_5 : decode cX12_extreme 5 = .ok (.ifCond .ne 7, 3) := by decide +kernel
theorem dX12_extreme_8 : decode cX12_extreme 8 = .ok (.ldc2_w 272, 3) := by decide +kernel
theorem dX12_extreme_11 : decode cX12_extreme 11 = .ok (.lreturn, 1) := by decide +kernel
theorem dX12_extreme_12 : decode cX12_extreme 12 = .ok (.aload_n 0, 1) := by decide +kernel
theorem dX12_extreme_13 : decode cX12_extreme 13 = .ok (.iload_n 1, 1) := by decide +kernel
theorem dX12_extreme_14 : decode cX12_extreme 14 = .ok (.invokevirtual 305, 3) := by decide +kernel
theorem dX12_extreme_17 : decode cX12_extreme 17 = .ok (.aload_n 0, 1) := by decide +kernel
theorem dX12_extreme_18 : decode cX12_extreme 18 = .ok (.getfield 241, 3) := by decide +kernel
theorem dX12_extreme_21 : decode cX12_extreme 21 = .ok (.lreturn, 1) := by decide +kernel
theorem dX12_share_0 : decode cX12_share 0 = .ok (.aload_n 0, 1) := by decide +kernel
theorem dX12_share_1 : decode cX12_share 1 = .ok (.iload_n 1, 1) := by decide +kernel
theorem dX12_share_2 : decode cX12_share 2 = .ok (.invokevirtual 301, 3) := by decide +kernel
theorem dX12_share_5 : decode cX12_share 5 = .ok (.ifCond .eq 13, 3) := by decide +kernel
theorem dX12_share_8 : decode cX12_share 8 = .ok (.iload_n 2, 1) := by decide +kernel
theorem dX12_share_9 : decode cX12_share 9 = .ok (.i2l, 1) := by decide +kernel
theorem dX12_share_10 : decode cX12_share 10 = .ok (.lconst 0, 1) := by decide +kernel
theorem dX12_share_11 : decode cX12_share 11 = .ok (.lconst 1, 1) := by decide +kernel
theorem dX12_share_12 : decode cX12_share 12 = .ok (.invokestatic 60, 3) := by decide +kernel
theorem dX12_share_15 : decode cX12_share 15 = .ok (.ifCond .ne 7, 3) := by decide +kernel
theorem dX12_share_18 : decode cX12_share 18 = .ok (.ldc2_w 272, 3) := by decide +kernel
theorem dX12_share_21 : decode cX12_share 21 = .ok (.lreturn, 1) := by decide +kernel
theorem dX12_share_22 : decode cX12_share 22 = .ok (.aload_n 0, 1) := by decide +kernel
theorem dX12_share_23 : decode cX12_share 23 = .ok (.iload_n 1, 1) := by decide +kernel
theorem dX12_share_24 : decode cX12_share 24 = .ok (.invokevirtual 305, 3) := by decide +kernel
theorem dX12_share_27 : decode cX12_share 27 = .ok (.aload_n 0, 1) := by decide +kernel
theorem dX12_share_28 : decode cX12_share 28 = .ok (.getfield 244, 3) := by decide +kernel
theorem dX12_share_31 : decode cX12_share 31 = .ok (.aload_n 0, 1) := by decide +kernel
theorem dX12_share_32 : decode cX12_share 32 = .ok (.getfield 216, 3) := by decide +kernel
theorem dX12_share_35 : decode cX12_share 35 = .ok (.iload_n 2, 1) := by decide +kernel
theorem dX12_share_36 : decode cX12_share 36 = .ok (.invokestatic 289, 3) := by decide +kernel
theorem dX12_share_39 : decode cX12_share 39 = .ok (.lreturn, 1) := by decide +kernel
theorem dX12_chi_0 : decode cX12_chi 0 = .ok (.aload_n 0, 1) := by decide +kernel
theorem dX12_chi_1 : decode cX12_chi 1 = .ok (.invokevirtual 265, 3) := by decide +kernel
theorem dX12_chi_4 : decode cX12_chi 4 = .ok (.ifCond .ne 7, 3) := by decide +kernel
theorem dX12_chi_7 : decode cX12_chi 7 = .ok (.ldc2_w 272, 3) := by decide +kernel
theorem dX12_chi_10 : decode cX12_chi 10 = .ok (.lreturn, 1) := by decide +kernel
theorem dX12_chi_11 : decode cX12_chi 11 = .ok (.dconst 0, 1) := by decide +kernel
theorem dX12_chi_12 : decode cX12_chi 12 = .ok (.dstore_n 1, 1) := by decide +kernel
theorem dX12_chi_13 : decode cX12_chi 13 = .ok (.iconst 0, 1) := by decide +kernel
theorem dX12_chi_14 : decode cX12_chi 14 = .ok (.istore_n 3, 1) := by decide +kernel
theorem dX12_chi_15 : decode cX12_chi 15 = .ok (.iload_n 3, 1) := by decide +kernel
theorem dX12_chi_16 : decode cX12_chi 16 = .ok (.aload_n 0, 1) := by decide +kernel
theorem dX12_chi_17 : decode cX12_chi 17 = .ok (.invokevirtual 150, 3) := by decide +kernel
theorem dX12_chi_20 : decode cX12_chi 20 = .ok (.if_icmp .ge 94, 3) := by decide +kernel
theorem dX12_chi_23 : decode cX12_chi 23 = .ok (.iload_n 3, 1) := by decide +kernel
theorem dX12_chi_24 : decode cX12_chi 24 = .ok (.aload_n 0, 1) := by decide +kernel
theorem dX12_chi_25 : decode cX12_chi 25 = .ok (.getfield 9, 3) := by decide +kernel
theorem dX12_chi_28 : decode cX12_chi 28 = .ok (.iconst 1, 1) := by decide +kernel
theorem dX12_chi_29 : decode cX12_chi 29 = .ok (.iaload, 1) := by decide +kernel
theorem dX12_chi_30 : decode cX12_chi 30 = .ok (.idiv, 1) := by decide +kernel
theorem dX12_chi_31 : decode cX12_chi 31 = .ok (.istore 4, 2) := by decide +kernel
theorem dX12_chi_33 : decode cX12_chi 33 = .ok (.iload_n 3, 1) := by decide +kernel
theorem dX12_chi_34 : decode cX12_chi 34 = .ok (.aload_n 0, 1) := by decide +kernel
theorem dX12_chi_35 : decode cX12_chi 35 = .ok (.getfield 9, 3) := by decide +kernel
theorem dX12_chi_38 : decode cX12_chi 38 = .ok (.iconst 1, 1) := by decide +kernel
theorem dX12_chi_39 : decode cX12_chi 39 = .ok (.iaload, 1) := by decide +kernel
theorem dX12_chi_40 : decode cX12_chi 40 = .ok (.irem, 1) := by decide +kernel
theorem dX12_chi_41 : decode cX12_chi 41 = .ok (.istore 5, 2) := by decide +kernel
theorem dX12_chi_43 : decode cX12_chi 43 = .ok (.aload_n 0, 1) := by decide +kernel
theorem dX12_chi_44 : decode cX12_chi 44 = .ok (.invokevirtual 153, 3) := by decide +kernel
theorem dX12_chi_47 : decode cX12_chi 47 = .ok (.ifCond .ne 7, 3) := by decide +kernel
theorem dX12_chi_50 : decode cX12_chi 50 = .ok (.dconst 0, 1) := by decide +kernel
theorem dX12_chi_51 : decode cX12_chi 51 = .ok (.goto 23, 3) := by decide +kernel
theorem dX12_chi_54 : decode cX12_chi 54 = .ok (.aload_n 0, 1) := by decide +kernel
theorem dX12_chi_55 : decode cX12_chi 55 = .ok (.iload 4, 2) := by decide +kernel
theorem dX12_chi_57 : decode cX12_chi 57 = .ok (.invokevirtual 163, 3) := by decide +kernel
theorem dX12_chi_60 : decode cX12_chi 60 = .ok (.aload_n 0, 1) := by decide +kernel
theorem dX12_chi_61 : decode cX12_chi 61 = .ok (.iload 5, 2) := by decide +kernel
theorem dX12_chi_63 : decode cX12_chi 63 = .ok (.invokevirtual 166, 3) := by decide +kernel
theorem dX12_chi_66 : decode cX12_chi 66 = .ok (.imul, 1) := by decide +kernel
theorem dX12_chi_67 : decode cX12_chi 67 = .ok (.i2d, 1) := by decide +kernel
theorem dX12_chi_68 : decode cX12_chi 68 = .ok (.aload_n 0, 1) := by decide +kernel
theorem dX12_chi_69 : decode cX12_chi 69 = .ok (.invokevirtual 153, 3) := by decide +kernel
theorem dX12_chi_72 : decode cX12_chi 72 = .ok (.i2d, 1) := by decide +kernel
theorem dX12_chi_73 : decode cX12_chi 73 = .ok (.ddiv, 1) := by decide +kernel
theorem dX12_chi_74 : decode cX12_chi 74 = .ok (.dstore 6, 2) := by decide +kernel
theorem dX12_chi_76 : decode cX12_chi 76 = .ok (.dload 6, 2) := by decide +kernel
theorem dX12_chi_78 : decode cX12_chi 78 = .ok (.dconst 0, 1) := by decide +kernel
theorem dX12_chi_79 : decode cX12_chi 79 = .ok (.dcmp .l, 1) := by decide +kernel
theorem dX12_chi_80 : decode cX12_chi 80 = .ok (.ifCond .le 28, 3) := by decide +kernel
theorem dX12_chi_83 : decode cX12_chi 83 = .ok (.aload_n 0, 1) := by decide +kernel
theorem dX12_chi_84 : decode cX12_chi 84 = .ok (.getfield 9, 3) := by decide +kernel
theorem dX12_chi_87 : decode cX12_chi 87 = .ok (.iconst 5, 1) := by decide +kernel
theorem dX12_chi_88 : decode cX12_chi 88 = .ok (.iload_n 3, 1) := by decide +kernel
theorem dX12_chi_89 : decode cX12_chi 89 = .ok (.iadd, 1) := by decide +kernel
theorem dX12_chi_90 : decode cX12_chi 90 = .ok (.iaload, 1) := by decide +kernel
theorem dX12_chi_91 : decode cX12_chi 91 = .ok (.i2d, 1) := by decide +kernel
theorem dX12_chi_92 : decode cX12_chi 92 = .ok (.dload 6, 2) := by decide +kernel
theorem dX12_chi_94 : decode cX12_chi 94 = .ok (.dsub, 1) := by decide +kernel
theorem dX12_chi_95 : decode cX12_chi 95 = .ok (.dstore 8, 2) := by decide +kernel
theorem dX12_chi_97 : decode cX12_chi 97 = .ok (.dload_n 1, 1) := by decide +kernel
theorem dX12_chi_98 : decode cX12_chi 98 = .ok (.dload 8, 2) := by decide +kernel
theorem dX12_chi_100 : decode cX12_chi 100 = .ok (.dload 8, 2) := by decide +kernel
theorem dX12_chi_102 : decode cX12_chi 102 = .ok (.dmul, 1) := by decide +kernel
theorem dX12_chi_103 : decode cX12_chi 103 = .ok (.dload 6, 2) := by decide +kernel
theorem dX12_chi_105 : decode cX12_chi 105 = .ok (.ddiv, 1) := by decide +kernel
theorem dX12_chi_106 : decode cX12_chi 106 = .ok (.dadd, 1) := by decide +kernel
theorem dX12_chi_107 : decode cX12_chi 107 = .ok (.dstore_n 1, 1) := by decide +kernel
theorem dX12_chi_108 : decode cX12_chi 108 = .ok (.iinc 3 1, 3) := by decide +kernel
theorem dX12_chi_111 : decode cX12_chi 111 = .ok (.goto (-96), 3) := by decide +kernel
theorem dX12_chi_114 : decode cX12_chi 114 = .ok (.dload_n 1, 1) := by decide +kernel
theorem dX12_chi_115 : decode cX12_chi 115 = .ok (.invokestatic 308, 3) := by decide +kernel
theorem dX12_chi_118 : decode cX12_chi 118 = .ok (.lreturn, 1) := by decide +kernel
theorem dX12_excess_0 : decode cX12_excess 0 = .ok (.aload_n 0, 1) := by decide +kernel
theorem dX12_excess_1 : decode cX12_excess 1 = .ok (.iload_n 1, 1) := by decide +kernel
theorem dX12_excess_2 : decode cX12_excess 2 = .ok (.iload_n 2, 1) := by decide +kernel
theorem dX12_excess_3 : decode cX12_excess 3 = .ok (.invokevirtual 160, 3) := by decide +kernel
theorem dX12_excess_6 : decode cX12_excess 6 = .ok (.ifCond .ne 6, 3) := by decide +kernel
theorem dX12_excess_9 : decode cX12_excess 9 = .ok (.bipush (-2), 2) := by decide +kernel
theorem dX12_excess_11 : decode cX12_excess 11 = .ok (.ireturn, 1) := by decide +kernel
theorem dX12_excess_12 : decode cX12_excess 12 = .ok (.aload_n 0, 1) := by decide +kernel
theorem dX12_excess_13 : decode cX12_excess 13 = .ok (.invokevirtual 153, 3) := by decide +kernel
theorem dX12_excess_16 : decode cX12_excess 16 = .ok (.ifCond .ne 7, 3) := by decide +kernel
theorem dX12_excess_19 : decode cX12_excess 19 = .ok (.fconst 0, 1) := by decide +kernel
theorem dX12_excess_20 : decode cX12_excess 20 = .ok (.goto 21, 3) := by decide +kernel
theorem dX12_excess_23 : decode cX12_excess 23 = .ok (.aload_n 0, 1) := by decide +kernel
theorem dX12_excess_24 : decode cX12_excess 24 = .ok (.iload_n 1, 1) := by decide +kernel
theorem dX12_excess_25 : decode cX12_excess 25 = .ok (.invokevirtual 163, 3) := by decide +kernel
theorem dX12_excess_28 : decode cX12_excess 28 = .ok (.aload_n 0, 1) := by decide +kernel
theorem dX12_excess_29 : decode cX12_excess 29 = .ok (.iload_n 2, 1) := by decide +kernel
theorem dX12_excess_30 : decode cX12_excess 30 = .ok (.invokevirtual 166, 3) := by decide +kernel
theorem dX12_excess_33 : decode cX12_excess 33 = .ok (.imul, 1) := by decide +kernel
theorem dX12_excess_34 : decode cX12_excess 34 = .ok (.i2f, 1) := by decide +kernel
theorem dX12_excess_35 : decode cX12_excess 35 = .ok (.aload_n 0, 1) := by decide +kernel
theorem dX12_excess_36 : decode cX12_excess 36 = .ok (.invokevirtual 153, 3) := by decide +kernel
theorem dX12_excess_39 : decode cX12_excess 39 = .ok (.i2f, 1) := by decide +kernel
theorem dX12_excess_40 : decode cX12_excess 40 = .ok (.fdiv, 1) := by decide +kernel
theorem dX12_excess_41 : decode cX12_excess 41 = .ok (.fstore_n 3, 1) := by decide +kernel
theorem dX12_excess_42 : decode cX12_excess 42 = .ok (.aload_n 0, 1) := by decide +kernel
theorem dX12_excess_43 : decode cX12_excess 43 = .ok (.getfield 9, 3) := by decide +kernel
theorem dX12_excess_46 : decode cX12_excess 46 = .ok (.iconst 5, 1) := by decide +kernel
theorem dX12_excess_47 : decode cX12_excess 47 = .ok (.aload_n 0, 1) := by decide +kernel
theorem dX12_excess_48 : decode cX12_excess 48 = .ok (.iload_n 1, 1) := by decide +kernel
theorem dX12_excess_49 : decode cX12_excess 49 = .ok (.iload_n 2, 1) := by decide +kernel
theorem dX12_excess_50 : decode cX12_excess 50 = .ok (.invokevirtual 133, 3) := by decide +kernel
theorem dX12_excess_53 : decode cX12_excess 53 = .ok (.iadd, 1) := by decide +kernel
theorem dX12_excess_54 : decode cX12_excess 54 = .ok (.iaload, 1) := by decide +kernel
theorem dX12_excess_55 : decode cX12_excess 55 = .ok (.i2f, 1) := by decide +kernel
theorem dX12_excess_56 : decode cX12_excess 56 = .ok (.fload_n 3, 1) := by decide +kernel
