theorem dX12_excess_57 : decode cX12_excess 57 = .ok (.fsub, 1) := by decide +kernel
theorem dX12_excess_58 : decode cX12_excess 58 = .ok (.invokestatic 314, 3) := by decide +kernel
theorem dX12_excess_61 : decode cX12_excess 61 = .ok (.ireturn, 1) := by decide +kernel
theorem dX12_canGo_0 : decode cX12_canGo 0 = .ok (.iconst 0, 1) := by decide +kernel
theorem dX12_canGo_1 : decode cX12_canGo 1 = .ok (.istore 5, 2) := by decide +kernel
theorem dX12_canGo_3 : decode cX12_canGo 3 = .ok (.iload 5, 2) := by decide +kernel
theorem dX12_canGo_5 : decode cX12_canGo 5 = .ok (.aload_n 0, 1) := by decide +kernel
theorem dX12_canGo_6 : decode cX12_canGo 6 = .ok (.invokevirtual 150, 3) := by decide +kernel
theorem dX12_canGo_9 : decode cX12_canGo 9 = .ok (.if_icmp .ge 63, 3) := by decide +kernel
theorem dX12_canGo_12 : decode cX12_canGo 12 = .ok (.iload_n 3, 1) := by decide +kernel
theorem dX12_canGo_13 : decode cX12_canGo 13 = .ok (.iload 5, 2) := by decide +kernel
theorem dX12_canGo_15 : decode cX12_canGo 15 = .ok (.invokestatic 138, 3) := by decide +kernel
theorem dX12_canGo_18 : decode cX12_canGo 18 = .ok (.ifCond .ne 13, 3) := by decide +kernel
theorem dX12_canGo_21 : decode cX12_canGo 21 = .ok (.iload 4, 2) := by decide +kernel
theorem dX12_canGo_23 : decode cX12_canGo 23 = .ok (.iload 5, 2) := by decide +kernel
theorem dX12_canGo_25 : decode cX12_canGo 25 = .ok (.invokestatic 138, 3) := by decide +kernel
theorem dX12_canGo_28 : decode cX12_canGo 28 = .ok (.ifCond .eq 17, 3) := by decide +kernel
theorem dX12_canGo_31 : decode cX12_canGo 31 = .ok (.aload_n 0, 1) := by decide +kernel
theorem dX12_canGo_32 : decode cX12_canGo 32 = .ok (.getfield 9, 3) := by decide +kernel
theorem dX12_canGo_35 : decode cX12_canGo 35 = .ok (.iconst 2, 1) := by decide +kernel
theorem dX12_canGo_36 : decode cX12_canGo 36 = .ok (.iaload, 1) := by decide +kernel
theorem dX12_canGo_37 : decode cX12_canGo 37 = .ok (.iload 5, 2) := by decide +kernel
theorem dX12_canGo_39 : decode cX12_canGo 39 = .ok (.invokestatic 138, 3) := by decide +kernel
theorem dX12_canGo_42 : decode cX12_canGo 42 = .ok (.ifCond .ne 22, 3) := by decide +kernel
theorem dX12_canGo_45 : decode cX12_canGo 45 = .ok (.iload 4, 2) := by decide +kernel
theorem dX12_canGo_47 : decode cX12_canGo 47 = .ok (.iload 5, 2) := by decide +kernel
theorem dX12_canGo_49 : decode cX12_canGo 49 = .ok (.invokestatic 138, 3) := by decide +kernel
theorem dX12_canGo_52 : decode cX12_canGo 52 = .ok (.ifCond .eq 14, 3) := by decide +kernel
theorem dX12_canGo_55 : decode cX12_canGo 55 = .ok (.aload_n 1, 1) := by decide +kernel
theorem dX12_canGo_56 : decode cX12_canGo 56 = .ok (.iload_n 2, 1) := by decide +kernel
theorem dX12_canGo_57 : decode cX12_canGo 57 = .ok (.iload 5, 2) := by decide +kernel
theorem dX12_canGo_59 : decode cX12_canGo 59 = .ok (.iadd, 1) := by decide +kernel
theorem dX12_canGo_60 : decode cX12_canGo 60 = .ok (.iaload, 1) := by decide +kernel
theorem dX12_canGo_61 : decode cX12_canGo 61 = .ok (.ifCond .ne 5, 3) := by decide +kernel
theorem dX12_canGo_64 : decode cX12_canGo 64 = .ok (.iconst 0, 1) := by decide +kernel
theorem dX12_canGo_65 : decode cX12_canGo 65 = .ok (.ireturn, 1) := by decide +kernel
theorem dX12_canGo_66 : decode cX12_canGo 66 = .ok (.iinc 5 1, 3) := by decide +kernel
theorem dX12_canGo_69 : decode cX12_canGo 69 = .ok (.goto (-66), 3) := by decide +kernel
theorem dX12_canGo_72 : decode cX12_canGo 72 = .ok (.iconst 1, 1) := by decide +kernel
theorem dX12_canGo_73 : decode cX12_canGo 73 = .ok (.ireturn, 1) := by decide +kernel
theorem dX12_two_0 : decode cX12_two 0 = .ok (.iconst 1, 1) := by decide +kernel
theorem dX12_two_1 : decode cX12_two 1 = .ok (.aload_n 0, 1) := by decide +kernel
theorem dX12_two_2 : decode cX12_two 2 = .ok (.iload_n 1, 1) := by decide +kernel
theorem dX12_two_3 : decode cX12_two 3 = .ok (.iload_n 2, 1) := by decide +kernel
theorem dX12_two_4 : decode cX12_two 4 = .ok (.invokevirtual 133, 3) := by decide +kernel
theorem dX12_two_7 : decode cX12_two 7 = .ok (.ishl, 1) := by decide +kernel
theorem dX12_two_8 : decode cX12_two 8 = .ok (.iconst 1, 1) := by decide +kernel
theorem dX12_two_9 : decode cX12_two 9 = .ok (.aload_n 0, 1) := by decide +kernel
theorem dX12_two_10 : decode cX12_two 10 = .ok (.iload_n 3, 1) := by decide +kernel
theorem dX12_two_11 : decode cX12_two 11 = .ok (.iload 4, 2) := by decide +kernel
theorem dX12_two_13 : decode cX12_two 13 = .ok (.invokevirtual 133, 3) := by decide +kernel
theorem dX12_two_16 : decode cX12_two 16 = .ok (.ishl, 1) := by decide +kernel
theorem dX12_two_17 : decode cX12_two 17 = .ok (.ior, 1) := by decide +kernel
theorem dX12_two_18 : decode cX12_two 18 = .ok (.ireturn, 1) := by decide +kernel
theorem dX12_changes_0 : decode cX12_changes 0 = .ok (.iconst 0, 1) := by decide +kernel
theorem dX12_changes_1 : decode cX12_changes 1 = .ok (.istore 5, 2) := by decide +kernel
theorem dX12_changes_3 : decode cX12_changes 3 = .ok (.iload 5, 2) := by decide +kernel
theorem dX12_changes_5 : decode cX12_changes 5 = .ok (.aload_n 0, 1) := by decide +kernel
theorem dX12_changes_6 : decode cX12_changes 6 = .ok (.invokevirtual 150, 3) := by decide +kernel
theorem dX12_changes_9 : decode cX12_changes 9 = .ok (.if_icmp .ge 48, 3) := by decide +kernel
theorem dX12_changes_12 : decode cX12_changes 12 = .ok (.aload_n 1, 1) := by decide +kernel
theorem dX12_changes_13 : decode cX12_changes 13 = .ok (.iload_n 2, 1) := by decide +kernel
theorem dX12_changes_14 : decode cX12_changes 14 = .ok (.iload 5, 2) := by decide +kernel
theorem dX12_changes_16 : decode cX12_changes 16 = .ok (.iadd, 1) := by decide +kernel
theorem dX12_changes_17 : decode cX12_changes 17 = .ok (.dup2, 1) := by decide +kernel
theorem dX12_changes_18 : decode cX12_changes 18 = .ok (.iaload, 1) := by decide +kernel
theorem dX12_changes_19 : decode cX12_changes 19 = .ok (.iload_n 3, 1) := by decide +kernel
theorem dX12_changes_20 : decode cX12_changes 20 = .ok (.iload 5, 2) := by decide +kernel
theorem dX12_changes_22 : decode cX12_changes 22 = .ok (.invokestatic 138, 3) := by decide +kernel
theorem dX12_changes_25 : decode cX12_changes 25 = .ok (.ifCond .eq 7, 3) := by decide +kernel
theorem dX12_changes_28 : decode cX12_changes 28 = .ok (.iconst 1, 1) := by decide +kernel
theorem dX12_changes_29 : decode cX12_changes 29 = .ok (.goto 4, 3) := by decide +kernel
theorem dX12_changes_32 : decode cX12_changes 32 = .ok (.iconst 0, 1) := by decide +kernel
theorem dX12_changes_33 : decode cX12_changes 33 = .ok (.iload 4, 2) := by decide +kernel
theorem dX12_changes_35 : decode cX12_changes 35 = .ok (.iload 5, 2) := by decide +kernel
theorem dX12_changes_37 : decode cX12_changes 37 = .ok (.invokestatic 138, 3) := by decide +kernel
theorem dX12_changes_40 : decode cX12_changes 40 = .ok (.ifCond .eq 7, 3) := by decide +kernel
theorem dX12_changes_43 : decode cX12_changes 43 = .ok (.iconst 1, 1) := by decide +kernel
theorem dX12_changes_44 : decode cX12_changes 44 = .ok (.goto 4, 3) := by decide +kernel
theorem dX12_changes_47 : decode cX12_changes 47 = .ok (.iconst 0, 1) := by decide +kernel
theorem dX12_changes_48 : decode cX12_changes 48 = .ok (.isub, 1) := by decide +kernel
theorem dX12_changes_49 : decode cX12_changes 49 = .ok (.iadd, 1) := by decide +kernel
theorem dX12_changes_50 : decode cX12_changes 50 = .ok (.iastore, 1) := by decide +kernel
theorem dX12_changes_51 : decode cX12_changes 51 = .ok (.iinc 5 1, 3) := by decide +kernel
theorem dX12_changes_54 : decode cX12_changes 54 = .ok (.goto (-51), 3) := by decide +kernel
theorem dX12_changes_57 : decode cX12_changes 57 = .ok (.return_, 1) := by decide +kernel
theorem dX12_swaps_0 : decode cX12_swaps 0 = .ok (.aload_n 0, 1) := by decide +kernel
theorem dX12_swaps_1 : decode cX12_swaps 1 = .ok (.invokevirtual 265, 3) := by decide +kernel
theorem dX12_swaps_4 : decode cX12_swaps 4 = .ok (.ifCond .ne 6, 3) := by decide +kernel
theorem dX12_swaps_7 : decode cX12_swaps 7 = .ok (.bipush (-2), 2) := by decide +kernel
theorem dX12_swaps_9 : decode cX12_swaps 9 = .ok (.ireturn, 1) := by decide +kernel
theorem dX12_swaps_10 : decode cX12_swaps 10 = .ok (.aload_n 0, 1) := by decide +kernel
theorem dX12_swaps_11 : decode cX12_swaps 11 = .ok (.invokevirtual 293, 3) := by decide +kernel
theorem dX12_swaps_14 : decode cX12_swaps 14 = .ok (.iconst 0, 1) := by decide +kernel
theorem dX12_swaps_15 : decode cX12_swaps 15 = .ok (.istore_n 1, 1) := by decide +kernel
theorem dX12_swaps_16 : decode cX12_swaps 16 = .ok (.iconst 0, 1) := by decide +kernel
theorem dX12_swaps_17 : decode cX12_swaps 17 = .ok (.istore_n 2, 1) := by decide +kernel
theorem dX12_swaps_18 : decode cX12_swaps 18 = .ok (.iload_n 2, 1) := by decide +kernel
theorem dX12_swaps_19 : decode cX12_swaps 19 = .ok (.aload_n 0, 1) := by decide +kernel
theorem dX12_swaps_20 : decode cX12_swaps 20 = .ok (.getfield 9, 3) := by decide +kernel
theorem dX12_swaps_23 : decode cX12_swaps 23 = .ok (.iconst 0, 1) := by decide +kernel
theorem dX12_swaps_24 : decode cX12_swaps 24 = .ok (.iaload, 1) := by decide +kernel
theorem dX12_swaps_25 : decode cX12_swaps 25 = .ok (.if_icmp .ge 125, 3) := by decide +kernel
theorem dX12_swaps_28 : decode cX12_swaps 28 = .ok (.iload_n 2, 1) := by decide +kernel
theorem dX12_swaps_29 : decode cX12_swaps 29 = .ok (.iconst 1, 1) := by decide +kernel
theorem dX12_swaps_30 : decode cX12_swaps 30 = .ok (.iadd, 1) := by decide +kernel
theorem dX12_swaps_31 : decode cX12_swaps 31 = .ok (.istore_n 3, 1) := by decide +kernel
theorem dX12_swaps_32 : decode cX12_swaps 32 = .ok (.iload_n 3, 1) := by decide +kernel
theorem dX12_swaps_33 : decode cX12_swaps 33 = .ok (.aload_n 0, 1) := by decide +kernel
theorem dX12_swaps_34 : decode cX12_swaps 34 = .ok (.getfield 9, 3) := by decide +kernel
theorem dX12_swaps_37 : decode cX12_swaps 37 = .ok (.iconst 0, 1) := by decide +kernel
theorem dX12_swaps_38 : decode cX12_swaps 38 = .ok (.iaload, 1) := by decide +kernel
theorem dX12_swaps_39 : decode cX12_swaps 39 = .ok (.if_icmp .ge 105, 3) := by decide +kernel
theorem dX12_swaps_42 : decode cX12_swaps 42 = .ok (.iconst 0, 1) := by decide +kernel
theorem dX12_swaps_43 : decode cX12_swaps 43 = .ok (.istore 4, 2) := by decide +kernel
theorem dX12_swaps_45 : decode cX12_swaps 45 = .ok (.iload 4, 2) := by decide +kernel
theorem dX12_swaps_47 : decode cX12_swaps 47 = .ok (.aload_n 0, 1) := by decide +kernel
theorem dX12_swaps_48 : decode cX12_swaps 48 = .ok (.getfield 9, 3) := by decide +kernel
theorem dX12_swaps_51 : decode cX12_swaps 51 = .ok (.iconst 1, 1) := by decide +kernel
theorem dX12_swaps_52 : decode cX12_swaps 52 = .ok (.iaload, 1) := by decide +kernel
theorem dX12_swaps_53 : decode cX12_swaps 53 = .ok (.aload_n 0, 1) := by decide +kernel
theorem dX12_swaps_54 : decode cX12_swaps 54 = .ok (.getfield 9, 3) := by decide +kernel
theorem dX12_swaps_57 : decode cX12_swaps 57 = .ok (.iconst 1, 1) := by decide +kernel
theorem dX12_swaps_58 : decode cX12_swaps 58 = .ok (.iaload, 1) := by decide +kernel
theorem dX12_swaps_59 : decode cX12_swaps 59 = .ok (.imul, 1) := by decide +kernel
theorem dX12_swaps_60 : decode cX12_swaps 60 = .ok (.if_icmp .ge 78, 3) := by decide +kernel
theorem dX12_swaps_63 : decode cX12_swaps 63 = .ok (.iload 4, 2) := by decide +kernel
theorem dX12_swaps_65 : decode cX12_swaps 65 = .ok (.aload_n 0, 1) := by decide +kernel
theorem dX12_swaps_66 : decode cX12_swaps 66 = .ok (.getfield 9, 3) := by decide +kernel
theorem dX12_swaps_69 : decode cX12_swaps 69 = .ok (.iconst 1, 1) := by decide +kernel
theorem dX12_swaps_70 : decode cX12_swaps 70 = .ok (.iaload, 1) := by decide +kernel
theorem dX12_swaps_71 : decode cX12_swaps 71 = .ok (.idiv, 1) := by decide +kernel
theorem dX12_swaps_72 : decode cX12_swaps 72 = .ok (.istore 5, 2) := by decide +kernel
theorem dX12_swaps_74 : decode cX12_swaps 74 = .ok (.iload 4, 2) := by decide +kernel
theorem dX12_swaps_76 : decode cX12_swaps 76 = .ok (.aload_n 0, 1) := by decide +kernel
theorem dX12_swaps_77 : decode cX12_swaps 77 = .ok (.getfield 9, 3) := by decide +kernel
theorem dX12_swaps_80 : decode cX12_swaps 80 = .ok (.iconst 1, 1) := by decide +kernel
theorem dX12_swaps_81 : decode cX12_swaps 81 = .ok (.iaload, 1) := by decide +kernel
theorem dX12_swaps_82 : decode cX12_swaps 82 = .ok (.irem, 1) := by decide +kernel
theorem dX12_swaps_83 : decode cX12_swaps 83 = .ok (.istore 6, 2) := by decide +kernel
theorem dX12_swaps_85 : decode cX12_swaps 85 = .ok (.iload_n 1, 1) := by decide +kernel
theorem dX12_swaps_86 : decode cX12_swaps 86 = .ok (.iload 5, 2) := by decide +kernel
theorem dX12_swaps_88 : decode cX12_swaps 88 = .ok (.iload 6, 2) := by decide +kernel
theorem dX12_swaps_90 : decode cX12_swaps 90 = .ok (.if_icmp .eq 39, 3) := by decide +kernel
theorem dX12_swaps_93 : decode cX12_swaps 93 = .ok (.aload_n 0, 1) := by decide +kernel
theorem dX12_swaps_94 : decode cX12_swaps 94 = .ok (.aload_n 0, 1) := by decide +kernel
theorem dX12_swaps_95 : decode cX12_swaps 95 = .ok (.getfield 26, 3) := by decide +kernel
theorem dX12_swaps_98 : decode cX12_swaps 98 = .ok (.iconst 0, 1) := by decide +kernel
theorem dX12_swaps_99 : decode cX12_swaps 99 = .ok (.aload_n 0, 1) := by decide +kernel
theorem dX12_swaps_100 : decode cX12_swaps 100 = .ok (.iload_n 2, 1) := by decide +kernel
theorem dX12_swaps_101 : decode cX12_swaps 101 = .ok (.iload 5, 2) := by decide +kernel
theorem dX12_swaps_103 : decode cX12_swaps 103 = .ok (.iload_n 3, 1) := by decide +kernel
theorem dX12_swaps_104 : decode cX12_swaps 104 = .ok (.iload 6, 2) := by decide +kernel
theorem dX12_swaps_106 : decode cX12_swaps 106 = .ok (.invokevirtual 320, 3) := by decide +kernel
theorem dX12_swaps_109 : decode cX12_swaps 109 = .ok (.aload_n 0, 1) := by decide +kernel
theorem dX12_swaps_110 : decode cX12_swaps 110 = .ok (.iload_n 2, 1) := by decide +kernel
theorem dX12_swaps_111 : decode cX12_swaps 111 = .ok (.iload 6, 2) := by decide +kernel
theorem dX12_swaps_113 : decode cX12_swaps 113 = .ok (.iload_n 3, 1) := by decide +kernel
theorem dX12_swaps_114 : decode cX12_swaps 114 = .ok (.iload 5, 2) := by decide +kernel
theorem dX12_swaps_116 : decode cX12_swaps 116 = .ok (.invokevirtual 320, 3) := by decide +kernel
theorem dX12_swaps_119 : decode cX12_swaps 119 = .ok (.invokevirtual 324, 3) := by decide +kernel
theorem dX12_swaps_122 : decode cX12_swaps 122 = .ok (.ifCond .eq 7, 3) := by decide +kernel
theorem dX12_swaps_125 : decode cX12_swaps 125 = .ok (.iconst 1, 1) := by decide +kernel
theorem dX12_swaps_126 : decode cX12_swaps 126 = .ok (.goto 4, 3) := by decide +kernel
theorem dX12_swaps_129 : decode cX12_swaps 129 = .ok (.iconst 0, 1) := by decide +kernel
theorem dX12_swaps_130 : decode cX12_swaps 130 = .ok (.iadd, 1) := by decide +kernel
theorem dX12_swaps_131 : decode cX12_swaps 131 = .ok (.istore_n 1, 1) := by decide +kernel
theorem dX12_swaps_132 : decode cX12_swaps 132 = .ok (.iinc 4 1, 3) := by decide +kernel
theorem dX12_swaps_135 : decode cX12_swaps 135 = .ok (.goto (-90), 3) := by decide +kernel
theorem dX12_swaps_138 : decode cX12_swaps 138 = .ok (.iinc 3 1, 3) := by decide +kernel
theorem dX12_swaps_141 : decode cX12_swaps 141 = .ok (.goto (-109), 3) := by decide +kernel
theorem dX12_swaps_144 : decode cX12_swaps 144 = .ok (.iinc 2 1, 3) := by decide +kernel
theorem dX12_swaps_147 : decode cX12_swaps 147 = .ok (.goto (-129), 3) := by decide +kernel
theorem dX12_swaps_150 : decode cX12_swaps 150 = .ok (.iload_n 1, 1) := by decide +kernel
theorem dX12_swaps_151 : decode cX12_swaps 151 = .ok (.ireturn, 1) := by decide +kernel
theorem dX12_listsAll_0 : decode cX12_listsAll 0 = .ok (.aload_n 0, 1) := by decide +kernel
theorem dX12_listsAll_1 : decode cX12_listsAll 1 = .ok (.bipush 6, 2) := by decide +kernel
theorem dX12_listsAll_3 : decode cX12_listsAll 3 = .ok (.invokevirtual 262, 3) := by decide +kernel
theorem dX12_listsAll_6 : decode cX12_listsAll 6 = .ok (.aload_n 0, 1) := by decide +kernel
theorem dX12_listsAll_7 : decode cX12_listsAll 7 = .ok (.aload_n 0, 1) := by decide +kernel
theorem dX12_listsAll_8 : decode cX12_listsAll 8 = .ok (.getfield 175, 3) := by decide +kernel
theorem dX12_listsAll_11 : decode cX12_listsAll 11 = .ok (.l2i, 1) := by decide +kernel
theorem dX12_listsAll_12 : decode cX12_listsAll 12 = .ok (.putfield 328, 3) := by decide +kernel
theorem dX12_listsAll_15 : decode cX12_listsAll 15 = .ok (.aload_n 0, 1) := by decide +kernel
theorem dX12_listsAll_16 : decode cX12_listsAll 16 = .ok (.getfield 172, 3) := by decide +kernel
theorem dX12_listsAll_19 : decode cX12_listsAll 19 = .ok (.ifCond .ne 7, 3) := by decide +kernel
theorem dX12_listsAll_22 : decode cX12_listsAll 22 = .ok (.iconst 1, 1) := by decide +kernel
theorem dX12_listsAll_23 : decode cX12_listsAll 23 = .ok (.goto 4, 3) := by decide +kernel
theorem dX12_listsAll_26 : decode cX12_listsAll 26 = .ok (.iconst 0, 1) := by decide +kernel
theorem dX12_listsAll_27 : decode cX12_listsAll 27 = .ok (.ireturn, 1) := by decide +kernel
theorem dX12_listedAt_0 : decode cX12_listedAt 0 = .ok (.iconst 0, 1) := by decide +kernel
theorem dX12_listedAt_1 : decode cX12_listedAt 1 = .ok (.istore_n 3, 1) := by decide +kernel
theorem dX12_listedAt_2 : decode cX12_listedAt 2 = .ok (.aload_n 0, 1) := by decide +kernel
theorem dX12_listedAt_3 : decode cX12_listedAt 3 = .ok (.getfield 328, 3) := by decide +kernel
theorem dX12_listedAt_6 : decode cX12_listedAt 6 = .ok (.iconst 1, 1) := by decide +kernel
theorem dX12_listedAt_7 : decode cX12_listedAt 7 = .ok (.isub, 1) := by decide +kernel
theorem dX12_listedAt_8 : decode cX12_listedAt 8 = .ok (.istore 4, 2) := by decide +kernel
theorem dX12_listedAt_10 : decode cX12_listedAt 10 = .ok (.iload_n 3, 1) := by decide +kernel
theorem dX12_listedAt_11 : decode cX12_listedAt 11 = .ok (.iload 4, 2) := by decide +kernel
theorem dX12_listedAt_13 : decode cX12_listedAt 13 = .ok (.if_icmp .ge 37, 3) := by decide +kernel
theorem dX12_listedAt_16 : decode cX12_listedAt 16 = .ok (.iload_n 3, 1) := by decide +kernel
theorem dX12_listedAt_17 : decode cX12_listedAt 17 = .ok (.iload 4, 2) := by decide +kernel
theorem dX12_listedAt_19 : decode cX12_listedAt 19 = .ok (.iadd, 1) := by decide +kernel
theorem dX12_listedAt_20 : decode cX12_listedAt 20 = .ok (.iconst 2, 1) := by decide +kernel
theorem dX12_listedAt_21 : decode cX12_listedAt 21 = .ok (.idiv, 1) := by decide +kernel
theorem dX12_listedAt_22 : decode cX12_listedAt 22 = .ok (.istore 5, 2) := by decide +kernel
theorem dX12_listedAt_24 : decode cX12_listedAt 24 = .ok (.aload_n 0, 1) := by decide +kernel
theorem dX12_listedAt_25 : decode cX12_listedAt 25 = .ok (.iload 5, 2) := by decide +kernel
theorem dX12_listedAt_27 : decode cX12_listedAt 27 = .ok (.aload_n 1, 1) := by decide +kernel
theorem dX12_listedAt_28 : decode cX12_listedAt 28 = .ok (.iload_n 2, 1) := by decide +kernel
theorem dX12_listedAt_29 : decode cX12_listedAt 29 = .ok (.invokevirtual 331, 3) := by decide +kernel
theorem dX12_listedAt_32 : decode cX12_listedAt 32 = .ok (.ifCond .eq 11, 3) := by decide +kernel
theorem dX12_listedAt_35 : decode cX12_listedAt 35 = .ok (.iload 5, 2) := by decide +kernel
theorem dX12_listedAt_37 : decode cX12_listedAt 37 = .ok (.iconst 1, 1) := by decide +kernel
theorem dX12_listedAt_38 : decode cX12_listedAt 38 = .ok (.iadd, 1) := by decide +kernel
theorem dX12_listedAt_39 : decode cX12_listedAt 39 = .ok (.istore_n 3, 1) := by decide +kernel
theorem dX12_listedAt_40 : decode cX12_listedAt 40 = .ok (.goto 7, 3) := by decide +kernel
theorem dX12_listedAt_43 : decode cX12_listedAt 43 = .ok (.iload 5, 2) := by decide +kernel
theorem dX12_listedAt_45 : decode cX12_listedAt 45 = .ok (.istore 4, 2) := by decide +kernel
theorem dX12_listedAt_47 : decode cX12_listedAt 47 = .ok (.goto (-37), 3) := by decide +kernel
theorem dX12_listedAt_50 : decode cX12_listedAt 50 = .ok (.iload_n 3, 1) := by decide +kernel
theorem dX12_listedAt_51 : decode cX12_listedAt 51 = .ok (.ireturn, 1) := by decide +kernel
theorem dX12_isAhead_0 : decode cX12_isAhead 0 = .ok (.iconst 0, 1) := by decide +kernel
theorem dX12_isAhead_1 : decode cX12_isAhead 1 = .ok (.istore 4, 2) := by decide +kernel
theorem dX12_isAhead_3 : decode cX12_isAhead 3 = .ok (.iload 4, 2) := by decide +kernel
theorem dX12_isAhead_5 : decode cX12_isAhead 5 = .ok (.aload_n 0, 1) := by decide +kernel
theorem dX12_isAhead_6 : decode cX12_isAhead 6 = .ok (.invokevirtual 150, 3) := by decide +kernel
theorem dX12_isAhead_9 : decode cX12_isAhead 9 = .ok (.if_icmp .ge 57, 3) := by decide +kernel
theorem dX12_isAhead_12 : decode cX12_isAhead 12 = .ok (.aload_n 0, 1) := by decide +kernel
theorem dX12_isAhead_13 : decode cX12_isAhead 13 = .ok (.getfield 39, 3) := by decide +kernel
theorem dX12_isAhead_16 : decode cX12_isAhead 16 = .ok (.bipush 16, 2) := by decide +kernel
theorem dX12_isAhead_18 : decode cX12_isAhead 18 = .ok (.iload_n 1, 1) := by decide +kernel
theorem dX12_isAhead_19 : decode cX12_isAhead 19 = .ok (.imul, 1) := by decide +kernel
theorem dX12_isAhead_20 : decode cX12_isAhead 20 = .ok (.iload 4, 2) := by decide +kernel
theorem dX12_isAhead_22 : decode cX12_isAhead 22 = .ok (.iadd, 1) := by decide +kernel
theorem dX12_isAhead_23 : decode cX12_isAhead 23 = .ok (.iaload, 1) := by decide +kernel
theorem dX12_isAhead_24 : decode cX12_isAhead 24 = .ok (.aload_n 2, 1) := by decide +kernel
theorem dX12_isAhead_25 : decode cX12_isAhead 25 = .ok (.iload_n 3, 1) := by decide +kernel
theorem dX12_isAhead_26 : decode cX12_isAhead 26 = .ok (.iload 4, 2) := by decide +kernel
theorem dX12_isAhead_28 : decode cX12_isAhead 28 = .ok (.iadd, 1) := by decide +kernel
theorem dX12_isAhead_29 : decode cX12_isAhead 29 = .ok (.iaload, 1) := by decide +kernel
theorem dX12_isAhead_30 : decode cX12_isAhead 30 = .ok (.if_icmp .eq 30, 3) := by decide +kernel
theorem dX12_isAhead_33 : decode cX12_isAhead 33 = .ok (.aload_n 0, 1) := by decide +kernel
theorem dX12_isAhead_34 : decode cX12_isAhead 34 = .ok (.getfield 39, 3) := by decide +kernel
theorem dX12_isAhead_37 : decode cX12_isAhead 37 = .ok (.bipush 16, 2) := by decide +kernel
theorem dX12_isAhead_39 : decode cX12_isAhead 39 = .ok (.iload_n 1, 1) := by decide +kernel
theorem dX12_isAhead_40 : decode cX12_isAhead 40 = .ok (.imul, 1) := by decide +kernel
theorem dX12_isAhead_41 : decode cX12_isAhead 41 = .ok (.iload 4, 2) := by decide +kernel
theorem dX12_isAhead_43 : decode cX12_isAhead 43 = .ok (.iadd, 1) := by decide +kernel
theorem dX12_isAhead_44 : decode cX12_isAhead 44 = .ok (.iaload, 1) := by decide +kernel
theorem dX12_isAhead_45 : decode cX12_isAhead 45 = .ok (.aload_n 2, 1) := by decide +kernel
theorem dX12_isAhead_46 : decode cX12_isAhead 46 = .ok (.iload_n 3, 1) := by decide +kernel
theorem dX12_isAhead_47 : decode cX12_isAhead 47 = .ok (.iload 4, 2) := by decide +kernel
theorem dX12_isAhead_49 : decode cX12_isAhead 49 = .ok (.iadd, 1) := by decide +kernel
theorem dX12_isAhead_50 : decode cX12_isAhead 50 = .ok (.iaload, 1) := by decide +kernel
theorem dX12_isAhead_51 : decode cX12_isAhead 51 = .ok (.if_icmp .ge 7, 3) := by decide +kernel
theorem dX12_isAhead_54 : decode cX12_isAhead 54 = .ok (.iconst 1, 1) := by decide +kernel
theorem dX12_isAhead_55 : decode cX12_isAhead 55 = .ok (.goto 4, 3) := by decide +kernel
theorem dX12_isAhead_58 : decode cX12_isAhead 58 = .ok (.iconst 0, 1) := by decide +kernel
theorem dX12_isAhead_59 : decode cX12_isAhead 59 = .ok (.ireturn, 1) := by decide +kernel
theorem dX12_isAhead_60 : decode cX12_isAhead 60 = .ok (.iinc 4 1, 3) := by decide +kernel
theorem dX12_isAhead_63 : decode cX12_isAhead 63 = .ok (.goto (-60), 3) := by decide +kernel
theorem dX12_isAhead_66 : decode cX12_isAhead 66 = .ok (.iconst 0, 1) := by decide +kernel
theorem dX12_isAhead_67 : decode cX12_isAhead 67 = .ok (.ireturn, 1) := by decide +kernel
theorem dX12_comesOf_0 : decode cX12_comesOf 0 = .ok (.aload_n 0, 1) := by decide +kernel
theorem dX12_comesOf_1 : decode cX12_comesOf 1 = .ok (.aload_n 0, 1) := by decide +kernel
theorem dX12_comesOf_2 : decode cX12_comesOf 2 = .ok (.getfield 39, 3) := by decide +kernel
theorem dX12_comesOf_5 : decode cX12_comesOf 5 = .ok (.bipush 16, 2) := by decide +kernel
theorem dX12_comesOf_7 : decode cX12_comesOf 7 = .ok (.iload_n 1, 1) := by decide +kernel
theorem dX12_comesOf_8 : decode cX12_comesOf 8 = .ok (.imul, 1) := by decide +kernel
theorem dX12_comesOf_9 : decode cX12_comesOf 9 = .ok (.iload_n 2, 1) := by decide +kernel
theorem dX12_comesOf_10 : decode cX12_comesOf 10 = .ok (.iload_n 3, 1) := by decide +kernel
theorem dX12_comesOf_11 : decode cX12_comesOf 11 = .ok (.invokevirtual 324, 3) := by decide +kernel
theorem dX12_comesOf_14 : decode cX12_comesOf 14 = .ok (.ifCond .ne 5, 3) := by decide +kernel
theorem dX12_comesOf_17 : decode cX12_comesOf 17 = .ok (.iconst (-1), 1) := by decide +kernel
theorem dX12_comesOf_18 : decode cX12_comesOf 18 = .ok (.ireturn, 1) := by decide +kernel
theorem dX12_comesOf_19 : decode cX12_comesOf 19 = .ok (.iconst 0, 1) := by decide +kernel
theorem dX12_comesOf_20 : decode cX12_comesOf 20 = .ok (.istore 4, 2) := by decide +kernel
theorem dX12_comesOf_22 : decode cX12_comesOf 22 = .ok (.iload 4, 2) := by decide +kernel
theorem dX12_comesOf_24 : decode cX12_comesOf 24 = .ok (.aload_n 0, 1) := by decide +kernel
theorem dX12_comesOf_25 : decode cX12_comesOf 25 = .ok (.invokevirtual 150, 3) := by decide +kernel
theorem dX12_comesOf_28 : decode cX12_comesOf 28 = .ok (.if_icmp .ge 28, 3) := by decide +kernel
theorem dX12_comesOf_31 : decode cX12_comesOf 31 = .ok (.aload_n 0, 1) := by decide +kernel
theorem dX12_comesOf_32 : decode cX12_comesOf 32 = .ok (.getfield 42, 3) := by decide +kernel
theorem dX12_comesOf_35 : decode cX12_comesOf 35 = .ok (.iload 4, 2) := by decide +kernel
theorem dX12_comesOf_37 : decode cX12_comesOf 37 = .ok (.aload_n 0, 1) := by decide +kernel
theorem dX12_comesOf_38 : decode cX12_comesOf 38 = .ok (.getfield 39, 3) := by decide +kernel
theorem dX12_comesOf_41 : decode cX12_comesOf 41 = .ok (.bipush 16, 2) := by decide +kernel
theorem dX12_comesOf_43 : decode cX12_comesOf 43 = .ok (.iload_n 1, 1) := by decide +kernel
theorem dX12_comesOf_44 : decode cX12_comesOf 44 = .ok (.imul, 1) := by decide +kernel
theorem dX12_comesOf_45 : decode cX12_comesOf 45 = .ok (.iload 4, 2) := by decide +kernel
theorem dX12_comesOf_47 : decode cX12_comesOf 47 = .ok (.iadd, 1) := by decide +kernel
theorem dX12_comesOf_48 : decode cX12_comesOf 48 = .ok (.iaload, 1) := by decide +kernel
theorem dX12_comesOf_49 : decode cX12_comesOf 49 = .ok (.iastore, 1) := by decide +kernel
theorem dX12_comesOf_50 : decode cX12_comesOf 50 = .ok (.iinc 4 1, 3) := by decide +kernel
theorem dX12_comesOf_53 : decode cX12_comesOf 53 = .ok (.goto (-31), 3) := by decide +kernel
theorem dX12_comesOf_56 : decode cX12_comesOf 56 = .ok (.aload_n 0, 1) := by decide +kernel
theorem dX12_comesOf_57 : decode cX12_comesOf 57 = .ok (.aload_n 0, 1) := by decide +kernel
theorem dX12_comesOf_58 : decode cX12_comesOf 58 = .ok (.getfield 42, 3) := by decide +kernel
theorem dX12_comesOf_61 : decode cX12_comesOf 61 = .ok (.iconst 0, 1) := by decide +kernel
theorem dX12_comesOf_62 : decode cX12_comesOf 62 = .ok (.iload_n 2, 1) := by decide +kernel
theorem dX12_comesOf_63 : decode cX12_comesOf 63 = .ok (.iload_n 3, 1) := by decide +kernel
theorem dX12_comesOf_64 : decode cX12_comesOf 64 = .ok (.invokevirtual 335, 3) := by decide +kernel
theorem dX12_comesOf_67 : decode cX12_comesOf 67 = .ok (.aload_n 0, 1) := by decide +kernel
theorem dX12_comesOf_68 : decode cX12_comesOf 68 = .ok (.aload_n 0, 1) := by decide +kernel
theorem dX12_comesOf_69 : decode cX12_comesOf 69 = .ok (.getfield 42, 3) := by decide +kernel
theorem dX12_comesOf_72 : decode cX12_comesOf 72 = .ok (.iconst 0, 1) := by decide +kernel
theorem dX12_comesOf_73 : decode cX12_comesOf 73 = .ok (.invokevirtual 339, 3) := by decide +kernel
theorem dX12_comesOf_76 : decode cX12_comesOf 76 = .ok (.ireturn, 1) := by decide +kernel
theorem dX12_reaches_0 : decode cX12_reaches 0 = .ok (.iload_n 1, 1) := by decide +kernel
theorem dX12_reaches_1 : decode cX12_reaches 1 = .ok (.ifCond .lt 39, 3) := by decide +kernel
theorem dX12_reaches_4 : decode cX12_reaches 4 = .ok (.aload_n 0, 1) := by decide +kernel
theorem dX12_reaches_5 : decode cX12_reaches 5 = .ok (.getfield 45, 3) := by decide +kernel
theorem dX12_reaches_8 : decode cX12_reaches 8 = .ok (.iload_n 1, 1) := by decide +kernel
theorem dX12_reaches_9 : decode cX12_reaches 9 = .ok (.iaload, 1) := by decide +kernel
theorem dX12_reaches_10 : decode cX12_reaches 10 = .ok (.ifCond .ge 30, 3) := by decide +kernel
theorem dX12_reaches_13 : decode cX12_reaches 13 = .ok (.aload_n 0, 1) := by decide +kernel
theorem dX12_reaches_14 : decode cX12_reaches 14 = .ok (.getfield 45, 3) := by decide +kernel
theorem dX12_reaches_17 : decode cX12_reaches 17 = .ok (.iload_n 1, 1) := by decide +kernel
theorem dX12_reaches_18 : decode cX12_reaches 18 = .ok (.iload_n 2, 1) := by decide +kernel
theorem dX12_reaches_19 : decode cX12_reaches 19 = .ok (.iastore, 1) := by decide +kernel
theorem dX12_reaches_20 : decode cX12_reaches 20 = .ok (.aload_n 0, 1) := by decide +kernel
theorem dX12_reaches_21 : decode cX12_reaches 21 = .ok (.getfield 48, 3) := by decide +kernel
theorem dX12_reaches_24 : decode cX12_reaches 24 = .ok (.aload_n 0, 1) := by decide +kernel
theorem dX12_reaches_25 : decode cX12_reaches 25 = .ok (.getfield 343, 3) := by decide +kernel
theorem dX12_reaches_28 : decode cX12_reaches 28 = .ok (.iload_n 1, 1) := by decide +kernel
theorem dX12_reaches_29 : decode cX12_reaches 29 = .ok (.iastore, 1) := by decide +kernel
theorem dX12_reaches_30 : decode cX12_reaches 30 = .ok (.aload_n 0, 1) := by decide +kernel
theorem dX12_reaches_31 : decode cX12_reaches 31 = .ok (.dup, 1) := by decide +kernel
theorem dX12_reaches_32 : decode cX12_reaches 32 = .ok (.getfield 343, 3) := by decide +kernel
theorem dX12_reaches_35 : decode cX12_reaches 35 = .ok (.iconst 1, 1) := by decide +kernel
theorem dX12_reaches_36 : decode cX12_reaches 36 = .ok (.iadd, 1) := by decide +kernel
theorem dX12_reaches_37 : decode cX12_reaches 37 = .ok (.putfield 343, 3) := by decide +kernel
theorem dX12_reaches_40 : decode cX12_reaches 40 = .ok (.return_, 1) := by decide +kernel
theorem dX12_swapsFrom_0 : decode cX12_swapsFrom 0 = .ok (.iconst 0, 1) := by decide +kernel
theorem dX12_swapsFrom_1 : decode cX12_swapsFrom 1 = .ok (.istore_n 2, 1) := by decide +kernel
theorem dX12_swapsFrom_2 : decode cX12_swapsFrom 2 = .ok (.iload_n 2, 1) := by decide +kernel
theorem dX12_swapsFrom_3 : decode cX12_swapsFrom 3 = .ok (.invokestatic 346, 3) := by decide +kernel
theorem dX12_swapsFrom_6 : decode cX12_swapsFrom 6 = .ok (.if_icmp .ge 42, 3) := by decide +kernel
theorem dX12_swapsFrom_9 : decode cX12_swapsFrom 9 = .ok (.aload_n 0, 1) := by decide +kernel
theorem dX12_swapsFrom_10 : decode cX12_swapsFrom 10 = .ok (.iload_n 2, 1) := by decide +kernel
theorem dX12_swapsFrom_11 : decode cX12_swapsFrom 11 = .ok (.invokevirtual 349, 3) := by decide +kernel
theorem dX12_swapsFrom_14 : decode cX12_swapsFrom 14 = .ok (.istore_n 3, 1) := by decide +kernel
theorem dX12_swapsFrom_15 : decode cX12_swapsFrom 15 = .ok (.iload_n 3, 1) := by decide +kernel
theorem dX12_swapsFrom_16 : decode cX12_swapsFrom 16 = .ok (.ifCond .le 26, 3) := by decide +kernel
theorem dX12_swapsFrom_19 : decode cX12_swapsFrom 19 = .ok (.aload_n 0, 1) := by decide +kernel
theorem dX12_swapsFrom_20 : decode cX12_swapsFrom 20 = .ok (.aload_n 0, 1) := by decide +kernel
theorem dX12_swapsFrom_21 : decode cX12_swapsFrom 21 = .ok (.iload_n 1, 1) := by decide +kernel
theorem dX12_swapsFrom_22 : decode cX12_swapsFrom 22 = .ok (.iload_n 3, 1) := by decide +kernel
theorem dX12_swapsFrom_23 : decode cX12_swapsFrom 23 = .ok (.aload_n 0, 1) := by decide +kernel
theorem dX12_swapsFrom_24 : decode cX12_swapsFrom 24 = .ok (.iload_n 2, 1) := by decide +kernel
theorem dX12_swapsFrom_25 : decode cX12_swapsFrom 25 = .ok (.invokevirtual 352, 3) := by decide +kernel
theorem dX12_swapsFrom_28 : decode cX12_swapsFrom 28 = .ok (.invokevirtual 355, 3) := by decide +kernel
theorem dX12_swapsFrom_31 : decode cX12_swapsFrom 31 = .ok (.aload_n 0, 1) := by decide +kernel
theorem dX12_swapsFrom_32 : decode cX12_swapsFrom 32 = .ok (.getfield 45, 3) := by decide +kernel
theorem dX12_swapsFrom_35 : decode cX12_swapsFrom 35 = .ok (.iload_n 1, 1) := by decide +kernel
theorem dX12_swapsFrom_36 : decode cX12_swapsFrom 36 = .ok (.iaload, 1) := by decide +kernel
theorem dX12_swapsFrom_37 : decode cX12_swapsFrom 37 = .ok (.iconst 1, 1) := by decide +kernel
theorem dX12_swapsFrom_38 : decode cX12_swapsFrom 38 = .ok (.iadd, 1) := by decide +kernel
theorem dX12_swapsFrom_39 : decode cX12_swapsFrom 39 = .ok (.invokevirtual 359, 3) := by decide +kernel
theorem dX12_swapsFrom_42 : decode cX12_swapsFrom 42 = .ok (.iinc 2 1, 3) := by decide +kernel
theorem dX12_swapsFrom_45 : decode cX12_swapsFrom 45 = .ok (.goto (-43), 3) := by decide +kernel
theorem dX12_swapsFrom_48 : decode cX12_swapsFrom 48 = .ok (.return_, 1) := by decide +kernel
theorem dX12_choices_0 : decode cX12_choices 0 = .ok (.sipush 256, 3) := by decide +kernel
theorem dX12_choices_3 : decode cX12_choices 3 = .ok (.ireturn, 1) := by decide +kernel
theorem dX12_isChoice_0 : decode cX12_isChoice 0 = .ok (.iload_n 1, 1) := by decide +kernel
theorem dX12_isChoice_1 : decode cX12_isChoice 1 = .ok (.bipush 64, 2) := by decide +kernel
theorem dX12_isChoice_3 : decode cX12_isChoice 3 = .ok (.idiv, 1) := by decide +kernel
theorem dX12_isChoice_4 : decode cX12_isChoice 4 = .ok (.istore_n 2, 1) := by decide +kernel
theorem dX12_isChoice_5 : decode cX12_isChoice 5 = .ok (.iload_n 1, 1) := by decide +kernel
theorem dX12_isChoice_6 : decode cX12_isChoice 6 = .ok (.bipush 16, 2) := by decide +kernel
theorem dX12_isChoice_8 : decode cX12_isChoice 8 = .ok (.idiv, 1) := by decide +kernel
theorem dX12_isChoice_9 : decode cX12_isChoice 9 = .ok (.iconst 4, 1) := by decide +kernel
theorem dX12_isChoice_10 : decode cX12_isChoice 10 = .ok (.irem, 1) := by decide +kernel
theorem dX12_isChoice_11 : decode cX12_isChoice 11 = .ok (.istore_n 3, 1) := by decide +kernel
theorem dX12_isChoice_12 : decode cX12_isChoice 12 = .ok (.iload_n 1, 1) := by decide +kernel
theorem dX12_isChoice_13 : decode cX12_isChoice 13 = .ok (.iconst 4, 1) := by decide +kernel
theorem dX12_isChoice_14 : decode cX12_isChoice 14 = .ok (.idiv, 1) := by decide +kernel
theorem dX12_isChoice_15 : decode cX12_isChoice 15 = .ok (.iconst 4, 1) := by decide +kernel
theorem dX12_isChoice_16 : decode cX12_isChoice 16 = .ok (.irem, 1) := by decide +kernel
theorem dX12_isChoice_17 : decode cX12_isChoice 17 = .ok (.istore 4, 2) := by decide +kernel
theorem dX12_isChoice_19 : decode cX12_isChoice 19 = .ok (.iload_n 1, 1) := by decide +kernel
theorem dX12_isChoice_20 : decode cX12_isChoice 20 = .ok (.iconst 4, 1) := by decide +kernel
theorem dX12_isChoice_21 : decode cX12_isChoice 21 = .ok (.irem, 1) := by decide +kernel
theorem dX12_isChoice_22 : decode cX12_isChoice 22 = .ok (.istore 5, 2) := by decide +kernel
theorem dX12_isChoice_24 : decode cX12_isChoice 24 = .ok (.iload_n 2, 1) := by decide +kernel
theorem dX12_isChoice_25 : decode cX12_isChoice 25 = .ok (.iload_n 3, 1) := by decide +kernel
theorem dX12_isChoice_26 : decode cX12_isChoice 26 = .ok (.if_icmp .eq 56, 3) := by decide +kernel
theorem dX12_isChoice_29 : decode cX12_isChoice 29 = .ok (.iload 4, 2) := by decide +kernel
theorem dX12_isChoice_31 : decode cX12_isChoice 31 = .ok (.iload 5, 2) := by decide +kernel
theorem dX12_isChoice_33 : decode cX12_isChoice 33 = .ok (.if_icmp .eq 49, 3) := by decide +kernel
theorem dX12_isChoice_36 : decode cX12_isChoice 36 = .ok (.iload_n 2, 1) := by decide +kernel
theorem dX12_isChoice_37 : decode cX12_isChoice 37 = .ok (.aload_n 0, 1) := by decide +kernel
theorem dX12_isChoice_38 : decode cX12_isChoice 38 = .ok (.getfield 9, 3) := by decide +kernel
theorem dX12_isChoice_41 : decode cX12_isChoice 41 = .ok (.iconst 0, 1) := by decide +kernel
theorem dX12_isChoice_42 : decode cX12_isChoice 42 = .ok (.iaload, 1) := by decide +kernel
theorem dX12_isChoice_43 : decode cX12_isChoice 43 = .ok (.if_icmp .ge 39, 3) := by decide +kernel
theorem dX12_isChoice_46 : decode cX12_isChoice 46 = .ok (.iload_n 3, 1) := by decide +kernel
theorem dX12_isChoice_47 : decode cX12_isChoice 47 = .ok (.aload_n 0, 1) := by decide +kernel
theorem dX12_isChoice_48 : decode cX12_isChoice 48 = .ok (.getfield 9, 3) := by decide +kernel
theorem dX12_isChoice_51 : decode cX12_isChoice 51 = .ok (.iconst 0, 1) := by decide +kernel
theorem dX12_isChoice_52 : decode cX12_isChoice 52 = .ok (.iaload, 1) := by decide +kernel
theorem dX12_isChoice_53 : decode cX12_isChoice 53 = .ok (.if_icmp .ge 29, 3) := by decide +kernel
theorem dX12_isChoice_56 : decode cX12_isChoice 56 = .ok (.iload 4, 2) := by decide +kernel
theorem dX12_isChoice_58 : decode cX12_isChoice 58 = .ok (.aload_n 0, 1) := by decide +kernel
theorem dX12_isChoice_59 : decode cX12_isChoice 59 = .ok (.getfield 9, 3) := by decide +kernel
theorem dX12_isChoice_62 : decode cX12_isChoice 62 = .ok (.iconst 1, 1) := by decide +kernel
theorem dX12_isChoice_63 : decode cX12_isChoice 63 = .ok (.iaload, 1) := by decide +kernel
theorem dX12_isChoice_64 : decode cX12_isChoice 64 = .ok (.if_icmp .ge 18, 3) := by decide +kernel
theorem dX12_isChoice_67 : decode cX12_isChoice 67 = .ok (.iload 5, 2) := by decide +kernel
theorem dX12_isChoice_69 : decode cX12_isChoice 69 = .ok (.aload_n 0, 1) := by decide +kernel
theorem dX12_isChoice_70 : decode cX12_isChoice 70 = .ok (.getfield 9, 3) := by decide +kernel
theorem dX12_isChoice_73 : decode cX12_isChoice 73 = .ok (.iconst 1, 1) := by decide +kernel
theorem dX12_isChoice_74 : decode cX12_isChoice 74 = .ok (.iaload, 1) := by decide +kernel
theorem dX12_isChoice_75 : decode cX12_isChoice 75 = .ok (.if_icmp .ge 7, 3) := by decide +kernel
theorem dX12_isChoice_78 : decode cX12_isChoice 78 = .ok (.iconst 1, 1) := by decide +kernel
theorem dX12_isChoice_79 : decode cX12_isChoice 79 = .ok (.goto 4, 3) := by decide +kernel
theorem dX12_isChoice_82 : decode cX12_isChoice 82 = .ok (.iconst 0, 1) := by decide +kernel
theorem dX12_isChoice_83 : decode cX12_isChoice 83 = .ok (.ireturn, 1) := by decide +kernel
theorem dX12_moreOf_0 : decode cX12_moreOf 0 = .ok (.aload_n 0, 1) := by decide +kernel
theorem dX12_moreOf_1 : decode cX12_moreOf 1 = .ok (.iload_n 1, 1) := by decide +kernel
theorem dX12_moreOf_2 : decode cX12_moreOf 2 = .ok (.invokevirtual 363, 3) := by decide +kernel
theorem dX12_moreOf_5 : decode cX12_moreOf 5 = .ok (.ifCond .eq 28, 3) := by decide +kernel
theorem dX12_moreOf_8 : decode cX12_moreOf 8 = .ok (.aload_n 0, 1) := by decide +kernel
theorem dX12_moreOf_9 : decode cX12_moreOf 9 = .ok (.iload_n 1, 1) := by decide +kernel
theorem dX12_moreOf_10 : decode cX12_moreOf 10 = .ok (.bipush 64, 2) := by decide +kernel
theorem dX12_moreOf_12 : decode cX12_moreOf 12 = .ok (.idiv, 1) := by decide +kernel
theorem dX12_moreOf_13 : decode cX12_moreOf 13 = .ok (.iload_n 1, 1) := by decide +kernel
theorem dX12_moreOf_14 : decode cX12_moreOf 14 = .ok (.iconst 4, 1) := by decide +kernel
theorem dX12_moreOf_15 : decode cX12_moreOf 15 = .ok (.idiv, 1) := by decide +kernel
theorem dX12_moreOf_16 : decode cX12_moreOf 16 = .ok (.iconst 4, 1) := by decide +kernel
theorem dX12_moreOf_17 : decode cX12_moreOf 17 = .ok (.irem, 1) := by decide +kernel
theorem dX12_moreOf_18 : decode cX12_moreOf 18 = .ok (.iload_n 1, 1) := by decide +kernel
theorem dX12_moreOf_19 : decode cX12_moreOf 19 = .ok (.bipush 16, 2) := by decide +kernel
theorem dX12_moreOf_21 : decode cX12_moreOf 21 = .ok (.idiv, 1) := by decide +kernel
theorem dX12_moreOf_22 : decode cX12_moreOf 22 = .ok (.iconst 4, 1) := by decide +kernel
theorem dX12_moreOf_23 : decode cX12_moreOf 23 = .ok (.irem, 1) := by decide +kernel
theorem dX12_moreOf_24 : decode cX12_moreOf 24 = .ok (.iload_n 1, 1) := by decide +kernel
theorem dX12_moreOf_25 : decode cX12_moreOf 25 = .ok (.iconst 4, 1) := by decide +kernel
theorem dX12_moreOf_26 : decode cX12_moreOf 26 = .ok (.irem, 1) := by decide +kernel
theorem dX12_moreOf_27 : decode cX12_moreOf 27 = .ok (.invokevirtual 320, 3) := by decide +kernel
theorem dX12_moreOf_30 : decode cX12_moreOf 30 = .ok (.goto 4, 3) := by decide +kernel
theorem dX12_moreOf_33 : decode cX12_moreOf 33 = .ok (.iconst 0, 1) := by decide +kernel
theorem dX12_moreOf_34 : decode cX12_moreOf 34 = .ok (.ireturn, 1) := by decide +kernel
theorem dX12_lessOf_0 : decode cX12_lessOf 0 = .ok (.aload_n 0, 1) := by decide +kernel
theorem dX12_lessOf_1 : decode cX12_lessOf 1 = .ok (.iload_n 1, 1) := by decide +kernel
theorem dX12_lessOf_2 : decode cX12_lessOf 2 = .ok (.bipush 64, 2) := by decide +kernel
theorem dX12_lessOf_4 : decode cX12_lessOf 4 = .ok (.idiv, 1) := by decide +kernel
theorem dX12_lessOf_5 : decode cX12_lessOf 5 = .ok (.iload_n 1, 1) := by decide +kernel
theorem dX12_lessOf_6 : decode cX12_lessOf 6 = .ok (.iconst 4, 1) := by decide +kernel
theorem dX12_lessOf_7 : decode cX12_lessOf 7 = .ok (.irem, 1) := by decide +kernel
theorem dX12_lessOf_8 : decode cX12_lessOf 8 = .ok (.iload_n 1, 1) := by decide +kernel
theorem dX12_lessOf_9 : decode cX12_lessOf 9 = .ok (.bipush 16, 2) := by decide +kernel
theorem dX12_lessOf_11 : decode cX12_lessOf 11 = .ok (.idiv, 1) := by decide +kernel
theorem dX12_lessOf_12 : decode cX12_lessOf 12 = .ok (.iconst 4, 1) := by decide +kernel
theorem dX12_lessOf_13 : decode cX12_lessOf 13 = .ok (.irem, 1) := by decide +kernel
theorem dX12_lessOf_14 : decode cX12_lessOf 14 = .ok (.iload_n 1, 1) := by decide +kernel
theorem dX12_lessOf_15 : decode cX12_lessOf 15 = .ok (.iconst 4, 1) := by decide +kernel
theorem dX12_lessOf_16 : decode cX12_lessOf 16 = .ok (.idiv, 1) := by decide +kernel
theorem dX12_lessOf_17 : decode cX12_lessOf 17 = .ok (.iconst 4, 1) := by decide +kernel
theorem dX12_lessOf_18 : decode cX12_lessOf 18 = .ok (.irem, 1) := by decide +kernel
theorem dX12_lessOf_19 : decode cX12_lessOf 19 = .ok (.invokevirtual 320, 3) := by decide +kernel
theorem dX12_lessOf_22 : decode cX12_lessOf 22 = .ok (.ireturn, 1) := by decide +kernel
theorem dX12_turnsFrom_0 : decode cX12_turnsFrom 0 = .ok (.iconst 0, 1) := by decide +kernel
theorem dX12_turnsFrom_1 : decode cX12_turnsFrom 1 = .ok (.istore_n 2, 1) := by decide +kernel
theorem dX12_turnsFrom_2 : decode cX12_turnsFrom 2 = .ok (.iload_n 2, 1) := by decide +kernel
theorem dX12_turnsFrom_3 : decode cX12_turnsFrom 3 = .ok (.sipush 4096, 3) := by decide +kernel
theorem dX12_turnsFrom_6 : decode cX12_turnsFrom 6 = .ok (.if_icmp .ge 218, 3) := by decide +kernel
theorem dX12_turnsFrom_9 : decode cX12_turnsFrom 9 = .ok (.iload_n 2, 1) := by decide +kernel
theorem dX12_turnsFrom_10 : decode cX12_turnsFrom 10 = .ok (.sipush 1024, 3) := by decide +kernel
theorem dX12_turnsFrom_13 : decode cX12_turnsFrom 13 = .ok (.idiv, 1) := by decide +kernel
theorem dX12_turnsFrom_14 : decode cX12_turnsFrom 14 = .ok (.istore_n 3, 1) := by decide +kernel
theorem dX12_turnsFrom_15 : decode cX12_turnsFrom 15 = .ok (.iload_n 2, 1) := by decide +kernel
theorem dX12_turnsFrom_16 : decode cX12_turnsFrom 16 = .ok (.sipush 256, 3) := by decide +kernel
theorem dX12_turnsFrom_19 : decode cX12_turnsFrom 19 = .ok (.idiv, 1) := by decide +kernel
theorem dX12_turnsFrom_20 : decode cX12_turnsFrom 20 = .ok (.iconst 4, 1) := by decide +kernel
theorem dX12_turnsFrom_21 : decode cX12_turnsFrom 21 = .ok (.irem, 1) := by decide +kernel
theorem dX12_turnsFrom_22 : decode cX12_turnsFrom 22 = .ok (.istore 4, 2) := by decide +kernel
theorem dX12_turnsFrom_24 : decode cX12_turnsFrom 24 = .ok (.iload_n 2, 1) := by decide +kernel
theorem dX12_turnsFrom_25 : decode cX12_turnsFrom 25 = .ok (.bipush 64, 2) := by decide +kernel
theorem dX12_turnsFrom_27 : decode cX12_turnsFrom 27 = .ok (.idiv, 1) := by decide +kernel
theorem dX12_turnsFrom_28 : decode cX12_turnsFrom 28 = .ok (.iconst 4, 1) := by decide +kernel
theorem dX12_turnsFrom_29 : decode cX12_turnsFrom 29 = .ok (.irem, 1) := by decide +kernel
theorem dX12_turnsFrom_30 : decode cX12_turnsFrom 30 = .ok (.istore 5, 2) := by decide +kernel
theorem dX12_turnsFrom_32 : decode cX12_turnsFrom 32 = .ok (.iload_n 2, 1) := by decide +kernel
theorem dX12_turnsFrom_33 : decode cX12_turnsFrom 33 = .ok (.bipush 16, 2) := by decide +kernel
theorem dX12_turnsFrom_35 : decode cX12_turnsFrom 35 = .ok (.idiv, 1) := by decide +kernel
theorem dX12_turnsFrom_36 : decode cX12_turnsFrom 36 = .ok (.iconst 4, 1) := by decide +kernel
theorem dX12_turnsFrom_37 : decode cX12_turnsFrom 37 = .ok (.irem, 1) := by decide +kernel
theorem dX12_turnsFrom_38 : decode cX12_turnsFrom 38 = .ok (.istore 6, 2) := by decide +kernel
theorem dX12_turnsFrom_40 : decode cX12_turnsFrom 40 = .ok (.iload_n 2, 1) := by decide +kernel
theorem dX12_turnsFrom_41 : decode cX12_turnsFrom 41 = .ok (.iconst 4, 1) := by decide +kernel
theorem dX12_turnsFrom_42 : decode cX12_turnsFrom 42 = .ok (.idiv, 1) := by decide +kernel
theorem dX12_turnsFrom_43 : decode cX12_turnsFrom 43 = .ok (.iconst 4, 1) := by decide +kernel
theorem dX12_turnsFrom_44 : decode cX12_turnsFrom 44 = .ok (.irem, 1) := by decide +kernel
theorem dX12_turnsFrom_45 : decode cX12_turnsFrom 45 = .ok (.istore 7, 2) := by decide +kernel
theorem dX12_turnsFrom_47 : decode cX12_turnsFrom 47 = .ok (.iload_n 2, 1) := by decide +kernel
theorem dX12_turnsFrom_48 : decode cX12_turnsFrom 48 = .ok (.iconst 4, 1) := by decide +kernel
theorem dX12_turnsFrom_49 : decode cX12_turnsFrom 49 = .ok (.irem, 1) := by decide +kernel
theorem dX12_turnsFrom_50 : decode cX12_turnsFrom 50 = .ok (.istore 8, 2) := by decide +kernel
theorem dX12_turnsFrom_52 : decode cX12_turnsFrom 52 = .ok (.iload_n 3, 1) := by decide +kernel
theorem dX12_turnsFrom_53 : decode cX12_turnsFrom 53 = .ok (.iload 4, 2) := by decide +kernel
theorem dX12_turnsFrom_55 : decode cX12_turnsFrom 55 = .ok (.if_icmp .eq 41, 3) := by decide +kernel
theorem dX12_turnsFrom_58 : decode cX12_turnsFrom 58 = .ok (.iload_n 3, 1) := by decide +kernel
theorem dX12_turnsFrom_59 : decode cX12_turnsFrom 59 = .ok (.iload 5, 2) := by decide +kernel
theorem dX12_turnsFrom_61 : decode cX12_turnsFrom 61 = .ok (.if_icmp .eq 35, 3) := by decide +kernel
theorem dX12_turnsFrom_64 : decode cX12_turnsFrom 64 = .ok (.iload 4, 2) := by decide +kernel
theorem dX12_turnsFrom_66 : decode cX12_turnsFrom 66 = .ok (.iload 5, 2) := by decide +kernel
theorem dX12_turnsFrom_68 : decode cX12_turnsFrom 68 = .ok (.if_icmp .eq 28, 3) := by decide +kernel
theorem dX12_turnsFrom_71 : decode cX12_turnsFrom 71 = .ok (.iload 6, 2) := by decide +kernel
theorem dX12_turnsFrom_73 : decode cX12_turnsFrom 73 = .ok (.iload 7, 2) := by decide +kernel
theorem dX12_turnsFrom_75 : decode cX12_turnsFrom 75 = .ok (.if_icmp .eq 21, 3) := by decide +kernel
theorem dX12_turnsFrom_78 : decode cX12_turnsFrom 78 = .ok (.iload 6, 2) := by decide +kernel
theorem dX12_turnsFrom_80 : decode cX12_turnsFrom 80 = .ok (.iload 8, 2) := by decide +kernel
theorem dX12_turnsFrom_82 : decode cX12_turnsFrom 82 = .ok (.if_icmp .eq 14, 3) := by decide +kernel
theorem dX12_turnsFrom_85 : decode cX12_turnsFrom 85 = .ok (.iload 7, 2) := by decide +kernel
theorem dX12_turnsFrom_87 : decode cX12_turnsFrom 87 = .ok (.iload 8, 2) := by decide +kernel
theorem dX12_turnsFrom_89 : decode cX12_turnsFrom 89 = .ok (.if_icmp .eq 7, 3) := by decide +kernel
theorem dX12_turnsFrom_92 : decode cX12_turnsFrom 92 = .ok (.iconst 1, 1) := by decide +kernel
theorem dX12_turnsFrom_93 : decode cX12_turnsFrom 93 = .ok (.goto 4, 3) := by decide +kernel
theorem dX12_turnsFrom_96 : decode cX12_turnsFrom 96 = .ok (.iconst 0, 1) := by decide +kernel
theorem dX12_turnsFrom_97 : decode cX12_turnsFrom 97 = .ok (.istore 9, 2) := by decide +kernel
theorem dX12_turnsFrom_99 : decode cX12_turnsFrom 99 = .ok (.iload 9, 2) := by decide +kernel
theorem dX12_turnsFrom_101 : decode cX12_turnsFrom 101 = .ok (.ifCond .eq 48, 3) := by decide +kernel
theorem dX12_turnsFrom_104 : decode cX12_turnsFrom 104 = .ok (.iload_n 3, 1) := by decide +kernel
theorem dX12_turnsFrom_105 : decode cX12_turnsFrom 105 = .ok (.iload 4, 2) := by decide +kernel
theorem dX12_turnsFrom_107 : decode cX12_turnsFrom 107 = .ok (.iload 5, 2) := by decide +kernel
theorem dX12_turnsFrom_109 : decode cX12_turnsFrom 109 = .ok (.invokestatic 260, 3) := by decide +kernel
theorem dX12_turnsFrom_112 : decode cX12_turnsFrom 112 = .ok (.invokestatic 260, 3) := by decide +kernel
theorem dX12_turnsFrom_115 : decode cX12_turnsFrom 115 = .ok (.aload_n 0, 1) := by decide +kernel
theorem dX12_turnsFrom_116 : decode cX12_turnsFrom 116 = .ok (.getfield 9, 3) := by decide +kernel
theorem dX12_turnsFrom_119 : decode cX12_turnsFrom 119 = .ok (.iconst 0, 1) := by decide +kernel
theorem dX12_turnsFrom_120 : decode cX12_turnsFrom 120 = .ok (.iaload, 1) := by decide +kernel
theorem dX12_turnsFrom_121 : decode cX12_turnsFrom 121 = .ok (.if_icmp .ge 28, 3) := by decide +kernel
theorem dX12_turnsFrom_124 : decode cX12_turnsFrom 124 = .ok (.iload 6, 2) := by decide +kernel
theorem dX12_turnsFrom_126 : decode cX12_turnsFrom 126 = .ok (.iload 7, 2) := by decide +kernel
theorem dX12_turnsFrom_128 : decode cX12_turnsFrom 128 = .ok (.iload 8, 2) := by decide +kernel
theorem dX12_turnsFrom_130 : decode cX12_turnsFrom 130 = .ok (.invokestatic 260, 3) := by decide +kernel
theorem dX12_turnsFrom_133 : decode cX12_turnsFrom 133 = .ok (.invokestatic 260, 3) := by decide +kernel
theorem dX12_turnsFrom_136 : decode cX12_turnsFrom 136 = .ok (.aload_n 0, 1) := by decide +kernel
theorem dX12_turnsFrom_137 : decode cX12_turnsFrom 137 = .ok (.getfield 9, 3) := by decide +kernel
theorem dX12_turnsFrom_140 : decode cX12_turnsFrom 140 = .ok (.iconst 1, 1) := by decide +kernel
theorem dX12_turnsFrom_141 : decode cX12_turnsFrom 141 = .ok (.iaload, 1) := by decide +kernel
theorem dX12_turnsFrom_142 : decode cX12_turnsFrom 142 = .ok (.if_icmp .ge 7, 3) := by decide +kernel
theorem dX12_turnsFrom_145 : decode cX12_turnsFrom 145 = .ok (.iconst 1, 1) := by decide +kernel
theorem dX12_turnsFrom_146 : decode cX12_turnsFrom 146 = .ok (.goto 4, 3) := by decide +kernel
theorem dX12_turnsFrom_149 : decode cX12_turnsFrom 149 = .ok (.iconst 0, 1) := by decide +kernel
theorem dX12_turnsFrom_150 : decode cX12_turnsFrom 150 = .ok (.istore 9, 2) := by decide +kernel
theorem dX12_turnsFrom_152 : decode cX12_turnsFrom 152 = .ok (.iload 9, 2) := by decide +kernel
theorem dX12_turnsFrom_154 : decode cX12_turnsFrom 154 = .ok (.ifCond .eq 64, 3) := by decide +kernel
theorem dX12_turnsFrom_157 : decode cX12_turnsFrom 157 = .ok (.aload_n 0, 1) := by decide +kernel
theorem dX12_turnsFrom_158 : decode cX12_turnsFrom 158 = .ok (.aload_n 0, 1) := by decide +kernel
theorem dX12_turnsFrom_159 : decode cX12_turnsFrom 159 = .ok (.iload_n 1, 1) := by decide +kernel
theorem dX12_turnsFrom_160 : decode cX12_turnsFrom 160 = .ok (.aload_n 0, 1) := by decide +kernel
theorem dX12_turnsFrom_161 : decode cX12_turnsFrom 161 = .ok (.iload_n 3, 1) := by decide +kernel
theorem dX12_turnsFrom_162 : decode cX12_turnsFrom 162 = .ok (.iload 6, 2) := by decide +kernel
theorem dX12_turnsFrom_164 : decode cX12_turnsFrom 164 = .ok (.iload 4, 2) := by decide +kernel
theorem dX12_turnsFrom_166 : decode cX12_turnsFrom 166 = .ok (.iload 7, 2) := by decide +kernel
theorem dX12_turnsFrom_168 : decode cX12_turnsFrom 168 = .ok (.invokevirtual 320, 3) := by decide +kernel
theorem dX12_turnsFrom_171 : decode cX12_turnsFrom 171 = .ok (.iconst 1, 1) := by decide +kernel
theorem dX12_turnsFrom_172 : decode cX12_turnsFrom 172 = .ok (.aload_n 0, 1) := by decide +kernel
theorem dX12_turnsFrom_173 : decode cX12_turnsFrom 173 = .ok (.iload 5, 2) := by decide +kernel
theorem dX12_turnsFrom_175 : decode cX12_turnsFrom 175 = .ok (.iload 8, 2) := by decide +kernel
theorem dX12_turnsFrom_177 : decode cX12_turnsFrom 177 = .ok (.invokevirtual 133, 3) := by decide +kernel
theorem dX12_turnsFrom_180 : decode cX12_turnsFrom 180 = .ok (.ishl, 1) := by decide +kernel
theorem dX12_turnsFrom_181 : decode cX12_turnsFrom 181 = .ok (.ior, 1) := by decide +kernel
theorem dX12_turnsFrom_182 : decode cX12_turnsFrom 182 = .ok (.aload_n 0, 1) := by decide +kernel
theorem dX12_turnsFrom_183 : decode cX12_turnsFrom 183 = .ok (.iload_n 3, 1) := by decide +kernel
theorem dX12_turnsFrom_184 : decode cX12_turnsFrom 184 = .ok (.iload 7, 2) := by decide +kernel
theorem dX12_turnsFrom_186 : decode cX12_turnsFrom 186 = .ok (.iload 4, 2) := by decide +kernel
theorem dX12_turnsFrom_188 : decode cX12_turnsFrom 188 = .ok (.iload 8, 2) := by decide +kernel
theorem dX12_turnsFrom_190 : decode cX12_turnsFrom 190 = .ok (.invokevirtual 320, 3) := by decide +kernel
theorem dX12_turnsFrom_193 : decode cX12_turnsFrom 193 = .ok (.iconst 1, 1) := by decide +kernel
theorem dX12_turnsFrom_194 : decode cX12_turnsFrom 194 = .ok (.aload_n 0, 1) := by decide +kernel
theorem dX12_turnsFrom_195 : decode cX12_turnsFrom 195 = .ok (.iload 5, 2) := by decide +kernel
theorem dX12_turnsFrom_197 : decode cX12_turnsFrom 197 = .ok (.iload 6, 2) := by decide +kernel
theorem dX12_turnsFrom_199 : decode cX12_turnsFrom 199 = .ok (.invokevirtual 133, 3) := by decide +kernel
theorem dX12_turnsFrom_202 : decode cX12_turnsFrom 202 = .ok (.ishl, 1) := by decide +kernel
theorem dX12_turnsFrom_203 : decode cX12_turnsFrom 203 = .ok (.ior, 1) := by decide +kernel
theorem dX12_turnsFrom_204 : decode cX12_turnsFrom 204 = .ok (.invokevirtual 355, 3) := by decide +kernel
theorem dX12_turnsFrom_207 : decode cX12_turnsFrom 207 = .ok (.aload_n 0, 1) := by decide +kernel
theorem dX12_turnsFrom_208 : decode cX12_turnsFrom 208 = .ok (.getfield 45, 3) := by decide +kernel
theorem dX12_turnsFrom_211 : decode cX12_turnsFrom 211 = .ok (.iload_n 1, 1) := by decide +kernel
theorem dX12_turnsFrom_212 : decode cX12_turnsFrom 212 = .ok (.iaload, 1) := by decide +kernel
theorem dX12_turnsFrom_213 : decode cX12_turnsFrom 213 = .ok (.iconst 1, 1) := by decide +kernel
theorem dX12_turnsFrom_214 : decode cX12_turnsFrom 214 = .ok (.iadd, 1) := by decide +kernel
theorem dX12_turnsFrom_215 : decode cX12_turnsFrom 215 = .ok (.invokevirtual 359, 3) := by decide +kernel
theorem dX12_turnsFrom_218 : decode cX12_turnsFrom 218 = .ok (.iinc 2 1, 3) := by decide +kernel
theorem dX12_turnsFrom_221 : decode cX12_turnsFrom 221 = .ok (.goto (-219), 3) := by decide +kernel
theorem dX12_turnsFrom_224 : decode cX12_turnsFrom 224 = .ok (.return_, 1) := by decide +kernel
theorem dX12_begins_0 : decode cX12_begins 0 = .ok (.iconst 0, 1) := by decide +kernel
theorem dX12_begins_1 : decode cX12_begins 1 = .ok (.istore_n 1, 1) := by decide +kernel
theorem dX12_begins_2 : decode cX12_begins 2 = .ok (.iload_n 1, 1) := by decide +kernel
theorem dX12_begins_3 : decode cX12_begins 3 = .ok (.sipush 1000, 3) := by decide +kernel
theorem dX12_begins_6 : decode cX12_begins 6 = .ok (.if_icmp .ge 16, 3) := by decide +kernel
theorem dX12_begins_9 : decode cX12_begins 9 = .ok (.aload_n 0, 1) := by decide +kernel
theorem dX12_begins_10 : decode cX12_begins 10 = .ok (.getfield 45, 3) := by decide +kernel
theorem dX12_begins_13 : decode cX12_begins 13 = .ok (.iload_n 1, 1) := by decide +kernel
theorem dX12_begins_14 : decode cX12_begins 14 = .ok (.iconst (-1), 1) := by decide +kernel
theorem dX12_begins_15 : decode cX12_begins 15 = .ok (.iastore, 1) := by decide +kernel
theorem dX12_begins_16 : decode cX12_begins 16 = .ok (.iinc 1 1, 3) := by decide +kernel
theorem dX12_begins_19 : decode cX12_begins 19 = .ok (.goto (-17), 3) := by decide +kernel
theorem dX12_begins_22 : decode cX12_begins 22 = .ok (.aload_n 0, 1) := by decide +kernel
theorem dX12_begins_23 : decode cX12_begins 23 = .ok (.iconst 0, 1) := by decide +kernel
theorem dX12_begins_24 : decode cX12_begins 24 = .ok (.putfield 343, 3) := by decide +kernel
theorem dX12_begins_27 : decode cX12_begins 27 = .ok (.return_, 1) := by decide +kernel
theorem dX12_spreads_0 : decode cX12_spreads 0 = .ok (.aload_n 0, 1) := by decide +kernel
theorem dX12_spreads_1 : decode cX12_spreads 1 = .ok (.getfield 343, 3) := by decide +kernel
theorem dX12_spreads_4 : decode cX12_spreads 4 = .ok (.istore_n 3, 1) := by decide +kernel
theorem dX12_spreads_5 : decode cX12_spreads 5 = .ok (.aload_n 0, 1) := by decide +kernel
theorem dX12_spreads_6 : decode cX12_spreads 6 = .ok (.iload_n 1, 1) := by decide +kernel
theorem dX12_spreads_7 : decode cX12_spreads 7 = .ok (.iconst 0, 1) := by decide +kernel
theorem dX12_spreads_8 : decode cX12_spreads 8 = .ok (.invokevirtual 359, 3) := by decide +kernel
theorem dX12_spreads_11 : decode cX12_spreads 11 = .ok (.iload_n 3, 1) := by decide +kernel
theorem dX12_spreads_12 : decode cX12_spreads 12 = .ok (.istore 4, 2) := by decide +kernel
theorem dX12_spreads_14 : decode cX12_spreads 14 = .ok (.iload 4, 2) := by decide +kernel
theorem dX12_spreads_16 : decode cX12_spreads 16 = .ok (.aload_n 0, 1) := by decide +kernel
theorem dX12_spreads_17 : decode cX12_spreads 17 = .ok (.getfield 343, 3) := by decide +kernel
theorem dX12_spreads_20 : decode cX12_spreads 20 = .ok (.if_icmp .ge 35, 3) := by decide +kernel
theorem dX12_spreads_23 : decode cX12_spreads 23 = .ok (.aload_n 0, 1) := by decide +kernel
theorem dX12_spreads_24 : decode cX12_spreads 24 = .ok (.aload_n 0, 1) := by decide +kernel
theorem dX12_spreads_25 : decode cX12_spreads 25 = .ok (.getfield 48, 3) := by decide +kernel
theorem dX12_spreads_28 : decode cX12_spreads 28 = .ok (.iload 4, 2) := by decide +kernel
theorem dX12_spreads_30 : decode cX12_spreads 30 = .ok (.iaload, 1) := by decide +kernel
theorem dX12_spreads_31 : decode cX12_spreads 31 = .ok (.invokevirtual 366, 3) := by decide +kernel
theorem dX12_spreads_34 : decode cX12_spreads 34 = .ok (.iload_n 2, 1) := by decide +kernel
theorem dX12_spreads_35 : decode cX12_spreads 35 = .ok (.ifCond .eq 14, 3) := by decide +kernel
theorem dX12_spreads_38 : decode cX12_spreads 38 = .ok (.aload_n 0, 1) := by decide +kernel
theorem dX12_spreads_39 : decode cX12_spreads 39 = .ok (.aload_n 0, 1) := by decide +kernel
theorem dX12_spreads_40 : decode cX12_spreads 40 = .ok (.getfield 48, 3) := by decide +kernel
theorem dX12_spreads_43 : decode cX12_spreads 43 = .ok (.iload 4, 2) := by decide +kernel
theorem dX12_spreads_45 : decode cX12_spreads 45 = .ok (.iaload, 1) := by decide +kernel
theorem dX12_spreads_46 : decode cX12_spreads 46 = .ok (.invokevirtual 369, 3) := by decide +kernel
theorem dX12_spreads_49 : decode cX12_spreads 49 = .ok (.iinc 4 1, 3) := by decide +kernel
theorem dX12_spreads_52 : decode cX12_spreads 52 = .ok (.goto (-38), 3) := by decide +kernel
theorem dX12_spreads_55 : decode cX12_spreads 55 = .ok (.aload_n 0, 1) := by decide +kernel
theorem dX12_spreads_56 : decode cX12_spreads 56 = .ok (.getfield 343, 3) := by decide +kernel
theorem dX12_spreads_59 : decode cX12_spreads 59 = .ok (.iload_n 3, 1) := by decide +kernel
theorem dX12_spreads_60 : decode cX12_spreads 60 = .ok (.isub, 1) := by decide +kernel
theorem dX12_spreads_61 : decode cX12_spreads 61 = .ok (.ireturn, 1) := by decide +kernel
theorem dX12_classesOf_0 : decode cX12_classesOf 0 = .ok (.aload_n 0, 1) := by decide +kernel
theorem dX12_classesOf_1 : decode cX12_classesOf 1 = .ok (.invokevirtual 265, 3) := by decide +kernel
theorem dX12_classesOf_4 : decode cX12_classesOf 4 = .ok (.ifCond .ne 6, 3) := by decide +kernel
theorem dX12_classesOf_7 : decode cX12_classesOf 7 = .ok (.bipush (-2), 2) := by decide +kernel
theorem dX12_classesOf_9 : decode cX12_classesOf 9 = .ok (.ireturn, 1) := by decide +kernel
theorem dX12_classesOf_10 : decode cX12_classesOf 10 = .ok (.aload_n 0, 1) := by decide +kernel
theorem dX12_classesOf_11 : decode cX12_classesOf 11 = .ok (.invokevirtual 372, 3) := by decide +kernel
theorem dX12_classesOf_14 : decode cX12_classesOf 14 = .ok (.ifCond .ne 6, 3) := by decide +kernel
theorem dX12_classesOf_17 : decode cX12_classesOf 17 = .ok (.bipush (-3), 2) := by decide +kernel
theorem dX12_classesOf_19 : decode cX12_classesOf 19 = .ok (.ireturn, 1) := by decide +kernel
theorem dX12_classesOf_20 : decode cX12_classesOf 20 = .ok (.aload_n 0, 1) := by decide +kernel
theorem dX12_classesOf_21 : decode cX12_classesOf 21 = .ok (.invokevirtual 375, 3) := by decide +kernel
theorem dX12_classesOf_24 : decode cX12_classesOf 24 = .ok (.iconst 0, 1) := by decide +kernel
theorem dX12_classesOf_25 : decode cX12_classesOf 25 = .ok (.istore_n 2, 1) := by decide +kernel
theorem dX12_classesOf_26 : decode cX12_classesOf 26 = .ok (.iconst 0, 1) := by decide +kernel
theorem dX12_classesOf_27 : decode cX12_classesOf 27 = .ok (.istore_n 3, 1) := by decide +kernel
theorem dX12_classesOf_28 : decode cX12_classesOf 28 = .ok (.iload_n 3, 1) := by decide +kernel
theorem dX12_classesOf_29 : decode cX12_classesOf 29 = .ok (.aload_n 0, 1) := by decide +kernel
theorem dX12_classesOf_30 : decode cX12_classesOf 30 = .ok (.getfield 328, 3) := by decide +kernel
theorem dX12_classesOf_33 : decode cX12_classesOf 33 = .ok (.if_icmp .ge 26, 3) := by decide +kernel
theorem dX12_classesOf_36 : decode cX12_classesOf 36 = .ok (.iload_n 2, 1) := by decide +kernel
theorem dX12_classesOf_37 : decode cX12_classesOf 37 = .ok (.aload_n 0, 1) := by decide +kernel
theorem dX12_classesOf_38 : decode cX12_classesOf 38 = .ok (.iload_n 3, 1) := by decide +kernel
theorem dX12_classesOf_39 : decode cX12_classesOf 39 = .ok (.iload_n 1, 1) := by decide +kernel
theorem dX12_classesOf_40 : decode cX12_classesOf 40 = .ok (.invokevirtual 378, 3) := by decide +kernel
theorem dX12_classesOf_43 : decode cX12_classesOf 43 = .ok (.ifCond .le 7, 3) := by decide +kernel
theorem dX12_classesOf_46 : decode cX12_classesOf 46 = .ok (.iconst 1, 1) := by decide +kernel
theorem dX12_classesOf_47 : decode cX12_classesOf 47 = .ok (.goto 4, 3) := by decide +kernel
theorem dX12_classesOf_50 : decode cX12_classesOf 50 = .ok (.iconst 0, 1) := by decide +kernel
theorem dX12_classesOf_51 : decode cX12_classesOf 51 = .ok (.iadd, 1) := by decide +kernel
theorem dX12_classesOf_52 : decode cX12_classesOf 52 = .ok (.istore_n 2, 1) := by decide +kernel
theorem dX12_classesOf_53 : decode cX12_classesOf 53 = .ok (.iinc 3 1, 3) := by decide +kernel
theorem dX12_classesOf_56 : decode cX12_classesOf 56 = .ok (.goto (-28), 3) := by decide +kernel
theorem dX12_classesOf_59 : decode cX12_classesOf 59 = .ok (.iload_n 2, 1) := by decide +kernel
theorem dX12_classesOf_60 : decode cX12_classesOf 60 = .ok (.ireturn, 1) := by decide +kernel
theorem dX12_classes_0 : decode cX12_classes 0 = .ok (.aload_n 0, 1) := by decide +kernel
theorem dX12_classes_1 : decode cX12_classes 1 = .ok (.iconst 0, 1) := by decide +kernel
theorem dX12_classes_2 : decode cX12_classes 2 = .ok (.invokevirtual 381, 3) := by decide +kernel
theorem dX12_classes_5 : decode cX12_classes 5 = .ok (.ireturn, 1) := by decide +kernel
theorem dX12_joined_0 : decode cX12_joined 0 = .ok (.aload_n 0, 1) := by decide +kernel
theorem dX12_joined_1 : decode cX12_joined 1 = .ok (.iconst 1, 1) := by decide +kernel
theorem dX12_joined_2 : decode cX12_joined 2 = .ok (.invokevirtual 381, 3) := by decide +kernel
theorem dX12_joined_5 : decode cX12_joined 5 = .ok (.ireturn, 1) := by decide +kernel
theorem dX12_whyNot_0 : decode cX12_whyNot 0 = .ok (.aload_n 0, 1) := by decide +kernel
theorem dX12_whyNot_1 : decode cX12_whyNot 1 = .ok (.invokevirtual 265, 3) := by decide +kernel
theorem dX12_whyNot_4 : decode cX12_whyNot 4 = .ok (.ifCond .ne 6, 3) := by decide +kernel
theorem dX12_whyNot_7 : decode cX12_whyNot 7 = .ok (.bipush (-2), 2) := by decide +kernel
theorem dX12_whyNot_9 : decode cX12_whyNot 9 = .ok (.ireturn, 1) := by decide +kernel
theorem dX12_whyNot_10 : decode cX12_whyNot 10 = .ok (.aload_n 0, 1) := by decide +kernel
theorem dX12_whyNot_11 : decode cX12_whyNot 11 = .ok (.invokevirtual 372, 3) := by decide +kernel
theorem dX12_whyNot_14 : decode cX12_whyNot 14 = .ok (.ifCond .ne 6, 3) := by decide +kernel
theorem dX12_whyNot_17 : decode cX12_whyNot 17 = .ok (.bipush (-3), 2) := by decide +kernel
theorem dX12_whyNot_19 : decode cX12_whyNot 19 = .ok (.ireturn, 1) := by decide +kernel
theorem dX12_whyNot_20 : decode cX12_whyNot 20 = .ok (.iload_n 1, 1) := by decide +kernel
theorem dX12_whyNot_21 : decode cX12_whyNot 21 = .ok (.i2l, 1) := by decide +kernel
theorem dX12_whyNot_22 : decode cX12_whyNot 22 = .ok (.lconst 0, 1) := by decide +kernel
theorem dX12_whyNot_23 : decode cX12_whyNot 23 = .ok (.aload_n 0, 1) := by decide +kernel
theorem dX12_whyNot_24 : decode cX12_whyNot 24 = .ok (.getfield 328, 3) := by decide +kernel
theorem dX12_whyNot_27 : decode cX12_whyNot 27 = .ok (.iconst 1, 1) := by decide +kernel
theorem dX12_whyNot_28 : decode cX12_whyNot 28 = .ok (.isub, 1) := by decide +kernel
theorem dX12_whyNot_29 : decode cX12_whyNot 29 = .ok (.i2l, 1) := by decide +kernel
theorem dX12_whyNot_30 : decode cX12_whyNot 30 = .ok (.invokestatic 60, 3) := by decide +kernel
theorem dX12_whyNot_33 : decode cX12_whyNot 33 = .ok (.ifCond .ne 6, 3) := by decide +kernel
theorem dX12_whyNot_36 : decode cX12_whyNot 36 = .ok (.bipush (-2), 2) := by decide +kernel
theorem dX12_whyNot_38 : decode cX12_whyNot 38 = .ok (.ireturn, 1) := by decide +kernel
theorem dX12_whyNot_39 : decode cX12_whyNot 39 = .ok (.aload_n 0, 1) := by decide +kernel
theorem dX12_whyNot_40 : decode cX12_whyNot 40 = .ok (.invokevirtual 375, 3) := by decide +kernel
theorem dX12_whyNot_43 : decode cX12_whyNot 43 = .ok (.aload_n 0, 1) := by decide +kernel
theorem dX12_whyNot_44 : decode cX12_whyNot 44 = .ok (.iload_n 1, 1) := by decide +kernel
theorem dX12_whyNot_45 : decode cX12_whyNot 45 = .ok (.iconst 0, 1) := by decide +kernel
theorem dX12_whyNot_46 : decode cX12_whyNot 46 = .ok (.invokevirtual 378, 3) := by decide +kernel
theorem dX12_whyNot_49 : decode cX12_whyNot 49 = .ok (.pop, 1) := by decide +kernel
theorem dX12_whyNot_50 : decode cX12_whyNot 50 = .ok (.iconst 0, 1) := by decide +kernel
theorem dX12_whyNot_51 : decode cX12_whyNot 51 = .ok (.ireturn, 1) := by decide +kernel
theorem dX12_classOf_0 : decode cX12_classOf 0 = .ok (.aload_n 0, 1) := by decide +kernel
theorem dX12_classOf_1 : decode cX12_classOf 1 = .ok (.iload_n 1, 1) := by decide +kernel
theorem dX12_classOf_2 : decode cX12_classOf 2 = .ok (.invokevirtual 385, 3) := by decide +kernel
theorem dX12_classOf_5 : decode cX12_classOf 5 = .ok (.istore_n 2, 1) := by decide +kernel
theorem dX12_classOf_6 : decode cX12_classOf 6 = .ok (.iload_n 2, 1) := by decide +kernel
theorem dX12_classOf_7 : decode cX12_classOf 7 = .ok (.ifCond .ge 5, 3) := by decide +kernel
theorem dX12_classOf_10 : decode cX12_classOf 10 = .ok (.iload_n 2, 1) := by decide +kernel
theorem dX12_classOf_11 : decode cX12_classOf 11 = .ok (.ireturn, 1) := by decide +kernel
theorem dX12_classOf_12 : decode cX12_classOf 12 = .ok (.iconst 0, 1) := by decide +kernel
theorem dX12_classOf_13 : decode cX12_classOf 13 = .ok (.istore_n 3, 1) := by decide +kernel
theorem dX12_classOf_14 : decode cX12_classOf 14 = .ok (.aload_n 0, 1) := by decide +kernel
theorem dX12_classOf_15 : decode cX12_classOf 15 = .ok (.getfield 45, 3) := by decide +kernel
theorem dX12_classOf_18 : decode cX12_classOf 18 = .ok (.iload_n 3, 1) := by decide +kernel
theorem dX12_classOf_19 : decode cX12_classOf 19 = .ok (.iaload, 1) := by decide +kernel
theorem dX12_classOf_20 : decode cX12_classOf 20 = .ok (.ifCond .ge 9, 3) := by decide +kernel
theorem dX12_classOf_23 : decode cX12_classOf 23 = .ok (.iinc 3 1, 3) := by decide +kernel
theorem dX12_classOf_26 : decode cX12_classOf 26 = .ok (.goto (-12), 3) := by decide +kernel
theorem dX12_classOf_29 : decode cX12_classOf 29 = .ok (.iload_n 3, 1) := by decide +kernel
theorem dX12_classOf_30 : decode cX12_classOf 30 = .ok (.ireturn, 1) := by decide +kernel
theorem dX12_sized_0 : decode cX12_sized 0 = .ok (.aload_n 0, 1) := by decide +kernel
theorem dX12_sized_1 : decode cX12_sized 1 = .ok (.iload_n 1, 1) := by decide +kernel
theorem dX12_sized_2 : decode cX12_sized 2 = .ok (.invokevirtual 385, 3) := by decide +kernel
theorem dX12_sized_5 : decode cX12_sized 5 = .ok (.istore_n 2, 1) := by decide +kernel
theorem dX12_sized_6 : decode cX12_sized 6 = .ok (.iload_n 2, 1) := by decide +kernel
theorem dX12_sized_7 : decode cX12_sized 7 = .ok (.ifCond .ge 7, 3) := by decide +kernel
theorem dX12_sized_10 : decode cX12_sized 10 = .ok (.iload_n 2, 1) := by decide +kernel
theorem dX12_sized_11 : decode cX12_sized 11 = .ok (.goto 7, 3) := by decide +kernel
theorem dX12_sized_14 : decode cX12_sized 14 = .ok (.aload_n 0, 1) := by decide +kernel
theorem dX12_sized_15 : decode cX12_sized 15 = .ok (.getfield 343, 3) := by decide +kernel
theorem dX12_sized_18 : decode cX12_sized 18 = .ok (.ireturn, 1) := by decide +kernel
theorem dX12_apart_0 : decode cX12_apart 0 = .ok (.aload_n 0, 1) := by decide +kernel
theorem dX12_apart_1 : decode cX12_apart 1 = .ok (.iload_n 1, 1) := by decide +kernel
theorem dX12_apart_2 : decode cX12_apart 2 = .ok (.invokevirtual 385, 3) := by decide +kernel
theorem dX12_apart_5 : decode cX12_apart 5 = .ok (.istore_n 3, 1) := by decide +kernel
theorem dX12_apart_6 : decode cX12_apart 6 = .ok (.iload_n 3, 1) := by decide +kernel
theorem dX12_apart_7 : decode cX12_apart 7 = .ok (.ifCond .ge 5, 3) := by decide +kernel
theorem dX12_apart_10 : decode cX12_apart 10 = .ok (.iload_n 3, 1) := by decide +kernel
theorem dX12_apart_11 : decode cX12_apart 11 = .ok (.ireturn, 1) := by decide +kernel
theorem dX12_apart_12 : decode cX12_apart 12 = .ok (.iload_n 2, 1) := by decide +kernel
theorem dX12_apart_13 : decode cX12_apart 13 = .ok (.i2l, 1) := by decide +kernel
theorem dX12_apart_14 : decode cX12_apart 14 = .ok (.lconst 0, 1) := by decide +kernel
theorem dX12_apart_15 : decode cX12_apart 15 = .ok (.aload_n 0, 1) := by decide +kernel
theorem dX12_apart_16 : decode cX12_apart 16 = .ok (.getfield 328, 3) := by decide +kernel
theorem dX12_apart_19 : decode cX12_apart 19 = .ok (.iconst 1, 1) := by decide +kernel
theorem dX12_apart_20 : decode cX12_apart 20 = .ok (.isub, 1) := by decide +kernel
theorem dX12_apart_21 : decode cX12_apart 21 = .ok (.i2l, 1) := by decide +kernel
theorem dX12_apart_22 : decode cX12_apart 22 = .ok (.invokestatic 60, 3) := by decide +kernel
theorem dX12_apart_25 : decode cX12_apart 25 = .ok (.ifCond .eq 12, 3) := by decide +kernel
theorem dX12_apart_28 : decode cX12_apart 28 = .ok (.aload_n 0, 1) := by decide +kernel
theorem dX12_apart_29 : decode cX12_apart 29 = .ok (.getfield 45, 3) := by decide +kernel
theorem dX12_apart_32 : decode cX12_apart 32 = .ok (.iload_n 2, 1) := by decide +kernel
theorem dX12_apart_33 : decode cX12_apart 33 = .ok (.iaload, 1) := by decide +kernel
theorem dX12_apart_34 : decode cX12_apart 34 = .ok (.goto 5, 3) := by decide +kernel
theorem dX12_apart_37 : decode cX12_apart 37 = .ok (.bipush (-2), 2) := by decide +kernel
theorem dX12_apart_39 : decode cX12_apart 39 = .ok (.ireturn, 1) := by decide +kernel
theorem dX12_whyNotNow_0 : decode cX12_whyNotNow 0 = .ok (.aload_n 0, 1) := by decide +kernel
theorem dX12_whyNotNow_1 : decode cX12_whyNotNow 1 = .ok (.invokevirtual 265, 3) := by decide +kernel
theorem dX12_whyNotNow_4 : decode cX12_whyNotNow 4 = .ok (.ifCond .ne 6, 3) := by decide +kernel
theorem dX12_whyNotNow_7 : decode cX12_whyNotNow 7 = .ok (.bipush (-2), 2) := by decide +kernel
theorem dX12_whyNotNow_9 : decode cX12_whyNotNow 9 = .ok (.ireturn, 1) := by decide +kernel
theorem dX12_whyNotNow_10 : decode cX12_whyNotNow 10 = .ok (.aload_n 0, 1) := by decide +kernel
theorem dX12_whyNotNow_11 : decode cX12_whyNotNow 11 = .ok (.invokevirtual 372, 3) := by decide +kernel
theorem dX12_whyNotNow_14 : decode cX12_whyNotNow 14 = .ok (.ifCond .ne 6, 3) := by decide +kernel
theorem dX12_whyNotNow_17 : decode cX12_whyNotNow 17 = .ok (.bipush (-3), 2) := by decide +kernel
theorem dX12_whyNotNow_19 : decode cX12_whyNotNow 19 = .ok (.ireturn, 1) := by decide +kernel
theorem dX12_whyNotNow_20 : decode cX12_whyNotNow 20 = .ok (.aload_n 0, 1) := by decide +kernel
theorem dX12_whyNotNow_21 : decode cX12_whyNotNow 21 = .ok (.invokevirtual 293, 3) := by decide +kernel
theorem dX12_whyNotNow_24 : decode cX12_whyNotNow 24 = .ok (.aload_n 0, 1) := by decide +kernel
theorem dX12_whyNotNow_25 : decode cX12_whyNotNow 25 = .ok (.invokevirtual 375, 3) := by decide +kernel
theorem dX12_whyNotNow_28 : decode cX12_whyNotNow 28 = .ok (.aload_n 0, 1) := by decide +kernel
theorem dX12_whyNotNow_29 : decode cX12_whyNotNow 29 = .ok (.aload_n 0, 1) := by decide +kernel
theorem dX12_whyNotNow_30 : decode cX12_whyNotNow 30 = .ok (.aload_n 0, 1) := by decide +kernel
theorem dX12_whyNotNow_31 : decode cX12_whyNotNow 31 = .ok (.getfield 26, 3) := by decide +kernel
theorem dX12_whyNotNow_34 : decode cX12_whyNotNow 34 = .ok (.iconst 0, 1) := by decide +kernel
theorem dX12_whyNotNow_35 : decode cX12_whyNotNow 35 = .ok (.invokevirtual 339, 3) := by decide +kernel
theorem dX12_whyNotNow_38 : decode cX12_whyNotNow 38 = .ok (.iconst 0, 1) := by decide +kernel
theorem dX12_whyNotNow_39 : decode cX12_whyNotNow 39 = .ok (.invokevirtual 378, 3) := by decide +kernel
theorem dX12_whyNotNow_42 : decode cX12_whyNotNow 42 = .ok (.pop, 1) := by decide +kernel
theorem dX12_whyNotNow_43 : decode cX12_whyNotNow 43 = .ok (.iconst 0, 1) := by decide +kernel
theorem dX12_whyNotNow_44 : decode cX12_whyNotNow 44 = .ok (.ireturn, 1) := by decide +kernel
theorem dX12_farOf_0 : decode cX12_farOf 0 = .ok (.iconst 0, 1) := by decide +kernel
theorem dX12_farOf_1 : decode cX12_farOf 1 = .ok (.istore_n 1, 1) := by decide +kernel
theorem dX12_farOf_2 : decode cX12_farOf 2 = .ok (.iconst 0, 1) := by decide +kernel
theorem dX12_farOf_3 : decode cX12_farOf 3 = .ok (.istore_n 2, 1) := by decide +kernel
theorem dX12_farOf_4 : decode cX12_farOf 4 = .ok (.iload_n 2, 1) := by decide +kernel
theorem dX12_farOf_5 : decode cX12_farOf 5 = .ok (.aload_n 0, 1) := by decide +kernel
theorem dX12_farOf_6 : decode cX12_farOf 6 = .ok (.getfield 328, 3) := by decide +kernel
theorem dX12_farOf_9 : decode cX12_farOf 9 = .ok (.if_icmp .ge 20, 3) := by decide +kernel
theorem dX12_farOf_12 : decode cX12_farOf 12 = .ok (.iload_n 1, 1) := by decide +kernel
theorem dX12_farOf_13 : decode cX12_farOf 13 = .ok (.aload_n 0, 1) := by decide +kernel
theorem dX12_farOf_14 : decode cX12_farOf 14 = .ok (.getfield 45, 3) := by decide +kernel
theorem dX12_farOf_17 : decode cX12_farOf 17 = .ok (.iload_n 2, 1) := by decide +kernel
theorem dX12_farOf_18 : decode cX12_farOf 18 = .ok (.iaload, 1) := by decide +kernel
theorem dX12_farOf_19 : decode cX12_farOf 19 = .ok (.invokestatic 260, 3) := by decide +kernel
theorem dX12_farOf_22 : decode cX12_farOf 22 = .ok (.istore_n 1, 1) := by decide +kernel
theorem dX12_farOf_23 : decode cX12_farOf 23 = .ok (.iinc 2 1, 3) := by decide +kernel
theorem dX12_farOf_26 : decode cX12_farOf 26 = .ok (.goto (-22), 3) := by decide +kernel
theorem dX12_farOf_29 : decode cX12_farOf 29 = .ok (.iload_n 1, 1) := by decide +kernel
theorem dX12_farOf_30 : decode cX12_farOf 30 = .ok (.ireturn, 1) := by decide +kernel
theorem dX12_far_0 : decode cX12_far 0 = .ok (.aload_n 0, 1) := by decide +kernel
theorem dX12_far_1 : decode cX12_far 1 = .ok (.invokevirtual 388, 3) := by decide +kernel
theorem dX12_far_4 : decode cX12_far 4 = .ok (.istore_n 1, 1) := by decide +kernel
theorem dX12_far_5 : decode cX12_far 5 = .ok (.iload_n 1, 1) := by decide +kernel
theorem dX12_far_6 : decode cX12_far 6 = .ok (.ifCond .ge 7, 3) := by decide +kernel
theorem dX12_far_9 : decode cX12_far 9 = .ok (.iload_n 1, 1) := by decide +kernel
theorem dX12_far_10 : decode cX12_far 10 = .ok (.goto 7, 3) := by decide +kernel
theorem dX12_far_13 : decode cX12_far 13 = .ok (.aload_n 0, 1) := by decide +kernel
theorem dX12_far_14 : decode cX12_far 14 = .ok (.invokevirtual 391, 3) := by decide +kernel
theorem dX12_far_17 : decode cX12_far 17 = .ok (.ireturn, 1) := by decide +kernel
theorem dX12_farthest_0 : decode cX12_farthest 0 = .ok (.aload_n 0, 1) := by decide +kernel
theorem dX12_farthest_1 : decode cX12_farthest 1 = .ok (.invokevirtual 388, 3) := by decide +kernel
theorem dX12_farthest_4 : decode cX12_farthest 4 = .ok (.istore_n 1, 1) := by decide +kernel
theorem dX12_farthest_5 : decode cX12_farthest 5 = .ok (.iload_n 1, 1) := by decide +kernel
theorem dX12_farthest_6 : decode cX12_farthest 6 = .ok (.ifCond .ge 5, 3) := by decide +kernel
theorem dX12_farthest_9 : decode cX12_farthest 9 = .ok (.iload_n 1, 1) := by decide +kernel
theorem dX12_farthest_10 : decode cX12_farthest 10 = .ok (.ireturn, 1) := by decide +kernel
theorem dX12_farthest_11 : decode cX12_farthest 11 = .ok (.iconst 0, 1) := by decide +kernel
theorem dX12_farthest_12 : decode cX12_farthest 12 = .ok (.istore_n 2, 1) := by decide +kernel
theorem dX12_farthest_13 : decode cX12_farthest 13 = .ok (.aload_n 0, 1) := by decide +kernel
theorem dX12_farthest_14 : decode cX12_farthest 14 = .ok (.getfield 45, 3) := by decide +kernel
theorem dX12_farthest_17 : decode cX12_farthest 17 = .ok (.iload_n 2, 1) := by decide +kernel
theorem dX12_farthest_18 : decode cX12_farthest 18 = .ok (.iaload, 1) := by decide +kernel
theorem dX12_farthest_19 : decode cX12_farthest 19 = .ok (.aload_n 0, 1) := by decide +kernel
theorem dX12_farthest_20 : decode cX12_farthest 20 = .ok (.invokevirtual 391, 3) := by decide +kernel
theorem dX12_farthest_23 : decode cX12_farthest 23 = .ok (.if_icmp .eq 9, 3) := by decide +kernel
theorem dX12_farthest_26 : decode cX12_farthest 26 = .ok (.iinc 2 1, 3) := by decide +kernel
theorem dX12_farthest_29 : decode cX12_farthest 29 = .ok (.goto (-16), 3) := by decide +kernel
theorem dX12_farthest_32 : decode cX12_farthest 32 = .ok (.iload_n 2, 1) := by decide +kernel
theorem dX12_farthest_33 : decode cX12_farthest 33 = .ok (.ireturn, 1) := by decide +kernel
theorem dX12_within_0 : decode cX12_within 0 = .ok (.iload_n 1, 1) := by decide +kernel
theorem dX12_within_1 : decode cX12_within 1 = .ok (.i2l, 1) := by decide +kernel
theorem dX12_within_2 : decode cX12_within 2 = .ok (.lconst 0, 1) := by decide +kernel
theorem dX12_within_3 : decode cX12_within 3 = .ok (.ldc2_w 394, 3) := by decide +kernel
theorem dX12_within_6 : decode cX12_within 6 = .ok (.invokestatic 60, 3) := by decide +kernel
theorem dX12_within_9 : decode cX12_within 9 = .ok (.ifCond .ne 6, 3) := by decide +kernel
theorem dX12_within_12 : decode cX12_within 12 = .ok (.bipush (-2), 2) := by decide +kernel
theorem dX12_within_14 : decode cX12_within 14 = .ok (.ireturn, 1) := by decide +kernel
theorem dX12_within_15 : decode cX12_within 15 = .ok (.aload_n 0, 1) := by decide +kernel
theorem dX12_within_16 : decode cX12_within 16 = .ok (.invokevirtual 388, 3) := by decide +kernel
theorem dX12_within_19 : decode cX12_within 19 = .ok (.istore_n 2, 1) := by decide +kernel
theorem dX12_within_20 : decode cX12_within 20 = .ok (.iload_n 2, 1) := by decide +kernel
theorem dX12_within_21 : decode cX12_within 21 = .ok (.ifCond .ge 5, 3) := by decide +kernel
theorem dX12_within_24 : decode cX12_within 24 = .ok (.iload_n 2, 1) := by decide +kernel
theorem dX12_within_25 : decode cX12_within 25 = .ok (.ireturn, 1) := by decide +kernel
theorem dX12_within_26 : decode cX12_within 26 = .ok (.iconst 0, 1) := by decide +kernel
theorem dX12_within_27 : decode cX12_within 27 = .ok (.istore_n 3, 1) := by decide +kernel
theorem dX12_within_28 : decode cX12_within 28 = .ok (.iconst 0, 1) := by decide +kernel
theorem dX12_within_29 : decode cX12_within 29 = .ok (.istore 4, 2) := by decide +kernel
theorem dX12_within_31 : decode cX12_within 31 = .ok (.iload 4, 2) := by decide +kernel
theorem dX12_within_33 : decode cX12_within 33 = .ok (.aload_n 0, 1) := by decide +kernel
theorem dX12_within_34 : decode cX12_within 34 = .ok (.getfield 328, 3) := by decide +kernel
theorem dX12_within_37 : decode cX12_within 37 = .ok (.if_icmp .ge 34, 3) := by decide +kernel
theorem dX12_within_40 : decode cX12_within 40 = .ok (.iload_n 3, 1) := by decide +kernel
theorem dX12_within_41 : decode cX12_within 41 = .ok (.aload_n 0, 1) := by decide +kernel
theorem dX12_within_42 : decode cX12_within 42 = .ok (.getfield 45, 3) := by decide +kernel
theorem dX12_within_45 : decode cX12_within 45 = .ok (.iload 4, 2) := by decide +kernel
theorem dX12_within_47 : decode cX12_within 47 = .ok (.iaload, 1) := by decide +kernel
theorem dX12_within_48 : decode cX12_within 48 = .ok (.i2l, 1) := by decide +kernel
theorem dX12_within_49 : decode cX12_within 49 = .ok (.lconst 0, 1) := by decide +kernel
theorem dX12_within_50 : decode cX12_within 50 = .ok (.iload_n 1, 1) := by decide +kernel
theorem dX12_within_51 : decode cX12_within 51 = .ok (.i2l, 1) := by decide +kernel
theorem dX12_within_52 : decode cX12_within 52 = .ok (.invokestatic 60, 3) := by decide +kernel
theorem dX12_within_55 : decode cX12_within 55 = .ok (.ifCond .eq 7, 3) := by decide +kernel
theorem dX12_within_58 : decode cX12_within 58 = .ok (.iconst 1, 1) := by decide +kernel
theorem dX12_within_59 : decode cX12_within 59 = .ok (.goto 4, 3) := by decide +kernel
theorem dX12_within_62 : decode cX12_within 62 = .ok (.iconst 0, 1) := by decide +kernel
theorem dX12_within_63 : decode cX12_within 63 = .ok (.iadd, 1) := by decide +kernel
theorem dX12_within_64 : decode cX12_within 64 = .ok (.istore_n 3, 1) := by decide +kernel
theorem dX12_within_65 : decode cX12_within 65 = .ok (.iinc 4 1, 3) := by decide +kernel
theorem dX12_within_68 : decode cX12_within 68 = .ok (.goto (-37), 3) := by decide +kernel
theorem dX12_within_71 : decode cX12_within 71 = .ok (.iload_n 3, 1) := by decide +kernel
theorem dX12_within_72 : decode cX12_within 72 = .ok (.ireturn, 1) := by decide +kernel
theorem dX12_ways_0 : decode cX12_ways 0 = .ok (.iload_n 1, 1) := by decide +kernel
theorem dX12_ways_1 : decode cX12_ways 1 = .ok (.i2l, 1) := by decide +kernel
theorem dX12_ways_2 : decode cX12_ways 2 = .ok (.lconst 0, 1) := by decide +kernel
theorem dX12_ways_3 : decode cX12_ways 3 = .ok (.ldc2_w 396, 3) := by decide +kernel
theorem dX12_ways_6 : decode cX12_ways 6 = .ok (.invokestatic 60, 3) := by decide +kernel
theorem dX12_ways_9 : decode cX12_ways 9 = .ok (.ifCond .eq 10, 3) := by decide +kernel
theorem dX12_ways_12 : decode cX12_ways 12 = .ok (.aload_n 0, 1) := by decide +kernel
theorem dX12_ways_13 : decode cX12_ways 13 = .ok (.invokevirtual 265, 3) := by decide +kernel
theorem dX12_ways_16 : decode cX12_ways 16 = .ok (.ifCond .ne 7, 3) := by decide +kernel
theorem dX12_ways_19 : decode cX12_ways 19 = .ok (.ldc2_w 272, 3) := by decide +kernel
theorem dX12_ways_22 : decode cX12_ways 22 = .ok (.lreturn, 1) := by decide +kernel
theorem dX12_ways_23 : decode cX12_ways 23 = .ok (.aload_n 0, 1) := by decide +kernel
theorem dX12_ways_24 : decode cX12_ways 24 = .ok (.invokevirtual 372, 3) := by decide +kernel
theorem dX12_ways_27 : decode cX12_ways 27 = .ok (.ifCond .ne 7, 3) := by decide +kernel
theorem dX12_ways_30 : decode cX12_ways 30 = .ok (.ldc2_w 398, 3) := by decide +kernel
theorem dX12_ways_33 : decode cX12_ways 33 = .ok (.lreturn, 1) := by decide +kernel
theorem dX12_ways_34 : decode cX12_ways 34 = .ok (.iload_n 2, 1) := by decide +kernel
theorem dX12_ways_35 : decode cX12_ways 35 = .ok (.i2l, 1) := by decide +kernel
theorem dX12_ways_36 : decode cX12_ways 36 = .ok (.lconst 0, 1) := by decide +kernel
theorem dX12_ways_37 : decode cX12_ways 37 = .ok (.aload_n 0, 1) := by decide +kernel
theorem dX12_ways_38 : decode cX12_ways 38 = .ok (.getfield 328, 3) := by decide +kernel
theorem dX12_ways_41 : decode cX12_ways 41 = .ok (.iconst 1, 1) := by decide +kernel
theorem dX12_ways_42 : decode cX12_ways 42 = .ok (.isub, 1) := by decide +kernel
theorem dX12_ways_43 : decode cX12_ways 43 = .ok (.i2l, 1) := by decide +kernel
theorem dX12_ways_44 : decode cX12_ways 44 = .ok (.invokestatic 60, 3) := by decide +kernel
theorem dX12_ways_47 : decode cX12_ways 47 = .ok (.ifCond .ne 7, 3) := by decide +kernel
theorem dX12_ways_50 : decode cX12_ways 50 = .ok (.ldc2_w 272, 3) := by decide +kernel
theorem dX12_ways_53 : decode cX12_ways 53 = .ok (.lreturn, 1) := by decide +kernel
theorem dX12_ways_54 : decode cX12_ways 54 = .ok (.aload_n 0, 1) := by decide +kernel
theorem dX12_ways_55 : decode cX12_ways 55 = .ok (.invokevirtual 293, 3) := by decide +kernel
theorem dX12_ways_58 : decode cX12_ways 58 = .ok (.aload_n 0, 1) := by decide +kernel
theorem dX12_ways_59 : decode cX12_ways 59 = .ok (.aload_n 0, 1) := by decide +kernel
theorem dX12_ways_60 : decode cX12_ways 60 = .ok (.getfield 26, 3) := by decide +kernel
theorem dX12_ways_63 : decode cX12_ways 63 = .ok (.iconst 0, 1) := by decide +kernel
theorem dX12_ways_64 : decode cX12_ways 64 = .ok (.invokevirtual 339, 3) := by decide +kernel
theorem dX12_ways_67 : decode cX12_ways 67 = .ok (.istore_n 3, 1) := by decide +kernel
theorem dX12_ways_68 : decode cX12_ways 68 = .ok (.iconst 0, 1) := by decide +kernel
theorem dX12_ways_69 : decode cX12_ways 69 = .ok (.istore 4, 2) := by decide +kernel
theorem dX12_ways_71 : decode cX12_ways 71 = .ok (.iload 4, 2) := by decide +kernel
theorem dX12_ways_73 : decode cX12_ways 73 = .ok (.aload_n 0, 1) := by decide +kernel
theorem dX12_ways_74 : decode cX12_ways 74 = .ok (.getfield 328, 3) := by decide +kernel
theorem dX12_ways_77 : decode cX12_ways 77 = .ok (.if_icmp .ge 27, 3) := by decide +kernel
theorem dX12_ways_80 : decode cX12_ways 80 = .ok (.aload_n 0, 1) := by decide +kernel
theorem dX12_ways_81 : decode cX12_ways 81 = .ok (.getfield 51, 3) := by decide +kernel
theorem dX12_ways_84 : decode cX12_ways 84 = .ok (.iload 4, 2) := by decide +kernel
theorem dX12_ways_86 : decode cX12_ways 86 = .ok (.iload 4, 2) := by decide +kernel
theorem dX12_ways_88 : decode cX12_ways 88 = .ok (.iload_n 3, 1) := by decide +kernel
theorem dX12_ways_89 : decode cX12_ways 89 = .ok (.if_icmp .ne 7, 3) := by decide +kernel
theorem dX12_ways_92 : decode cX12_ways 92 = .ok (.lconst 1, 1) := by decide +kernel
theorem dX12_ways_93 : decode cX12_ways 93 = .ok (.goto 4, 3) := by decide +kernel
theorem dX12_ways_96 : decode cX12_ways 96 = .ok (.lconst 0, 1) := by decide +kernel
theorem dX12_ways_97 : decode cX12_ways 97 = .ok (.lastore, 1) := by decide +kernel
theorem dX12_ways_98 : decode cX12_ways 98 = .ok (.iinc 4 1, 3) := by decide +kernel
theorem dX12_ways_101 : decode cX12_ways 101 = .ok (.goto (-30), 3) := by decide +kernel
theorem dX12_ways_104 : decode cX12_ways 104 = .ok (.iconst 0, 1) := by decide +kernel
theorem dX12_ways_105 : decode cX12_ways 105 = .ok (.istore 4, 2) := by decide +kernel
theorem dX12_ways_107 : decode cX12_ways 107 = .ok (.iload 4, 2) := by decide +kernel
theorem dX12_ways_109 : decode cX12_ways 109 = .ok (.iload_n 1, 1) := by decide +kernel
theorem dX12_ways_110 : decode cX12_ways 110 = .ok (.if_icmp .ge 13, 3) := by decide +kernel
theorem dX12_ways_113 : decode cX12_ways 113 = .ok (.aload_n 0, 1) := by decide +kernel
theorem dX12_ways_114 : decode cX12_ways 114 = .ok (.invokevirtual 400, 3) := by decide +kernel
theorem dX12_ways_117 : decode cX12_ways 117 = .ok (.iinc 4 1, 3) := by decide +kernel
theorem dX12_ways_120 : decode cX12_ways 120 = .ok (.goto (-13), 3) := by decide +kernel
theorem dX12_ways_123 : decode cX12_ways 123 = .ok (.aload_n 0, 1) := by decide +kernel
theorem dX12_ways_124 : decode cX12_ways 124 = .ok (.getfield 51, 3) := by decide +kernel
theorem dX12_ways_127 : decode cX12_ways 127 = .ok (.iload_n 2, 1) := by decide +kernel
theorem dX12_ways_128 : decode cX12_ways 128 = .ok (.laload, 1) := by decide +kernel
theorem dX12_ways_129 : decode cX12_ways 129 = .ok (.lreturn, 1) := by decide +kernel
theorem dX12_goesOn_0 : decode cX12_goesOn 0 = .ok (.iconst 0, 1) := by decide +kernel
theorem dX12_goesOn_1 : decode cX12_goesOn 1 = .ok (.istore_n 1, 1) := by decide +kernel
theorem dX12_goesOn_2 : decode cX12_goesOn 2 = .ok (.iload_n 1, 1) := by decide +kernel
theorem dX12_goesOn_3 : decode cX12_goesOn 3 = .ok (.aload_n 0, 1) := by decide +kernel
theorem dX12_goesOn_4 : decode cX12_goesOn 4 = .ok (.getfield 328, 3) := by decide +kernel
theorem dX12_goesOn_7 : decode cX12_goesOn 7 = .ok (.if_icmp .ge 16, 3) := by decide +kernel
theorem dX12_goesOn_10 : decode cX12_goesOn 10 = .ok (.aload_n 0, 1) := by decide +kernel
theorem dX12_goesOn_11 : decode cX12_goesOn 11 = .ok (.getfield 54, 3) := by decide +kernel
theorem dX12_goesOn_14 : decode cX12_goesOn 14 = .ok (.iload_n 1, 1) := by decide +kernel
theorem dX12_goesOn_15 : decode cX12_goesOn 15 = .ok (.lconst 0, 1) := by decide +kernel
theorem dX12_goesOn_16 : decode cX12_goesOn 16 = .ok (.lastore, 1) := by decide +kernel
theorem dX12_goesOn_17 : decode cX12_goesOn 17 = .ok (.iinc 1 1, 3) := by decide +kernel
theorem dX12_goesOn_20 : decode cX12_goesOn 20 = .ok (.goto (-18), 3) := by decide +kernel
theorem dX12_goesOn_23 : decode cX12_goesOn 23 = .ok (.iconst 0, 1) := by decide +kernel
theorem dX12_goesOn_24 : decode cX12_goesOn 24 = .ok (.istore_n 1, 1) := by decide +kernel
theorem dX12_goesOn_25 : decode cX12_goesOn 25 = .ok (.iload_n 1, 1) := by decide +kernel
theorem dX12_goesOn_26 : decode cX12_goesOn 26 = .ok (.aload_n 0, 1) := by decide +kernel
theorem dX12_goesOn_27 : decode cX12_goesOn 27 = .ok (.getfield 328, 3) := by decide +kernel
theorem dX12_goesOn_30 : decode cX12_goesOn 30 = .ok (.if_icmp .ge 83, 3) := by decide +kernel
theorem dX12_goesOn_33 : decode cX12_goesOn 33 = .ok (.iconst 0, 1) := by decide +kernel
theorem dX12_goesOn_34 : decode cX12_goesOn 34 = .ok (.istore_n 2, 1) := by decide +kernel
theorem dX12_goesOn_35 : decode cX12_goesOn 35 = .ok (.iload_n 2, 1) := by decide +kernel
theorem dX12_goesOn_36 : decode cX12_goesOn 36 = .ok (.invokestatic 346, 3) := by decide +kernel
theorem dX12_goesOn_39 : decode cX12_goesOn 39 = .ok (.if_icmp .ge 68, 3) := by decide +kernel
theorem dX12_goesOn_42 : decode cX12_goesOn 42 = .ok (.aload_n 0, 1) := by decide +kernel
theorem dX12_goesOn_43 : decode cX12_goesOn 43 = .ok (.getfield 51, 3) := by decide +kernel
theorem dX12_goesOn_46 : decode cX12_goesOn 46 = .ok (.iload_n 1, 1) := by decide +kernel
theorem dX12_goesOn_47 : decode cX12_goesOn 47 = .ok (.laload, 1) := by decide +kernel
theorem dX12_goesOn_48 : decode cX12_goesOn 48 = .ok (.lconst 0, 1) := by decide +kernel
theorem dX12_goesOn_49 : decode cX12_goesOn 49 = .ok (.lcmp, 1) := by decide +kernel
theorem dX12_goesOn_50 : decode cX12_goesOn 50 = .ok (.ifCond .le 57, 3) := by decide +kernel
theorem dX12_goesOn_53 : decode cX12_goesOn 53 = .ok (.aload_n 0, 1) := by decide +kernel
theorem dX12_goesOn_54 : decode cX12_goesOn 54 = .ok (.iload_n 2, 1) := by decide +kernel
theorem dX12_goesOn_55 : decode cX12_goesOn 55 = .ok (.invokevirtual 349, 3) := by decide +kernel
theorem dX12_goesOn_58 : decode cX12_goesOn 58 = .ok (.istore_n 3, 1) := by decide +kernel
theorem dX12_goesOn_59 : decode cX12_goesOn 59 = .ok (.iload_n 3, 1) := by decide +kernel
theorem dX12_goesOn_60 : decode cX12_goesOn 60 = .ok (.ifCond .le 41, 3) := by decide +kernel
theorem dX12_goesOn_63 : decode cX12_goesOn 63 = .ok (.aload_n 0, 1) := by decide +kernel
theorem dX12_goesOn_64 : decode cX12_goesOn 64 = .ok (.iload_n 1, 1) := by decide +kernel
theorem dX12_goesOn_65 : decode cX12_goesOn 65 = .ok (.iload_n 3, 1) := by decide +kernel
theorem dX12_goesOn_66 : decode cX12_goesOn 66 = .ok (.aload_n 0, 1) := by decide +kernel
theorem dX12_goesOn_67 : decode cX12_goesOn 67 = .ok (.iload_n 2, 1) := by decide +kernel
theorem dX12_goesOn_68 : decode cX12_goesOn 68 = .ok (.invokevirtual 352, 3) := by decide +kernel
theorem dX12_goesOn_71 : decode cX12_goesOn 71 = .ok (.invokevirtual 355, 3) := by decide +kernel
theorem dX12_goesOn_74 : decode cX12_goesOn 74 = .ok (.istore 4, 2) := by decide +kernel
theorem dX12_goesOn_76 : decode cX12_goesOn 76 = .ok (.aload_n 0, 1) := by decide +kernel
theorem dX12_goesOn_77 : decode cX12_goesOn 77 = .ok (.getfield 54, 3) := by decide +kernel
theorem dX12_goesOn_80 : decode cX12_goesOn 80 = .ok (.iload 4, 2) := by decide +kernel
theorem dX12_goesOn_82 : decode cX12_goesOn 82 = .ok (.ifCond .ge 7, 3) := by decide +kernel
theorem dX12_goesOn_85 : decode cX12_goesOn 85 = .ok (.iload_n 1, 1) := by decide +kernel
theorem dX12_goesOn_86 : decode cX12_goesOn 86 = .ok (.goto 5, 3) := by decide +kernel
theorem dX12_goesOn_89 : decode cX12_goesOn 89 = .ok (.iload 4, 2) := by decide +kernel
theorem dX12_goesOn_91 : decode cX12_goesOn 91 = .ok (.dup2, 1) := by decide +kernel
theorem dX12_goesOn_92 : decode cX12_goesOn 92 = .ok (.laload, 1) := by decide +kernel
theorem dX12_goesOn_93 : decode cX12_goesOn 93 = .ok (.aload_n 0, 1) := by decide +kernel
theorem dX12_goesOn_94 : decode cX12_goesOn 94 = .ok (.getfield 51, 3) := by decide +kernel
theorem dX12_goesOn_97 : decode cX12_goesOn 97 = .ok (.iload_n 1, 1) := by decide +kernel
theorem dX12_goesOn_98 : decode cX12_goesOn 98 = .ok (.laload, 1) := by decide +kernel
theorem dX12_goesOn_99 : decode cX12_goesOn 99 = .ok (.ladd, 1) := by decide +kernel
theorem dX12_goesOn_100 : decode cX12_goesOn 100 = .ok (.lastore, 1) := by decide +kernel
theorem dX12_goesOn_101 : decode cX12_goesOn 101 = .ok (.iinc 2 1, 3) := by decide +kernel
theorem dX12_goesOn_104 : decode cX12_goesOn 104 = .ok (.goto (-69), 3) := by decide +kernel
theorem dX12_goesOn_107 : decode cX12_goesOn 107 = .ok (.iinc 1 1, 3) := by decide +kernel
theorem dX12_goesOn_110 : decode cX12_goesOn 110 = .ok (.goto (-85), 3) := by decide +kernel
theorem dX12_goesOn_113 : decode cX12_goesOn 113 = .ok (.iconst 0, 1) := by decide +kernel
theorem dX12_goesOn_114 : decode cX12_goesOn 114 = .ok (.istore_n 1, 1) := by decide +kernel
theorem dX12_goesOn_115 : decode cX12_goesOn 115 = .ok (.iload_n 1, 1) := by decide +kernel
theorem dX12_goesOn_116 : decode cX12_goesOn 116 = .ok (.aload_n 0, 1) := by decide +kernel
theorem dX12_goesOn_117 : decode cX12_goesOn 117 = .ok (.getfield 328, 3) := by decide +kernel
theorem dX12_goesOn_120 : decode cX12_goesOn 120 = .ok (.if_icmp .ge 21, 3) := by decide +kernel
theorem dX12_goesOn_123 : decode cX12_goesOn 123 = .ok (.aload_n 0, 1) := by decide +kernel
theorem dX12_goesOn_124 : decode cX12_goesOn 124 = .ok (.getfield 51, 3) := by decide +kernel
theorem dX12_goesOn_127 : decode cX12_goesOn 127 = .ok (.iload_n 1, 1) := by decide +kernel
theorem dX12_goesOn_128 : decode cX12_goesOn 128 = .ok (.aload_n 0, 1) := by decide +kernel
theorem dX12_goesOn_129 : decode cX12_goesOn 129 = .ok (.getfield 54, 3) := by decide +kernel
theorem dX12_goesOn_132 : decode cX12_goesOn 132 = .ok (.iload_n 1, 1) := by decide +kernel
theorem dX12_goesOn_133 : decode cX12_goesOn 133 = .ok (.laload, 1) := by decide +kernel
theorem dX12_goesOn_134 : decode cX12_goesOn 134 = .ok (.lastore, 1) := by decide +kernel
theorem dX12_goesOn_135 : decode cX12_goesOn 135 = .ok (.iinc 1 1, 3) := by decide +kernel
theorem dX12_goesOn_138 : decode cX12_goesOn 138 = .ok (.goto (-23), 3) := by decide +kernel
theorem dX12_goesOn_141 : decode cX12_goesOn 141 = .ok (.return_, 1) := by decide +kernel
theorem dX12_drawn_0 : decode cX12_drawn 0 = .ok (.aload_n 0, 1) := by decide +kernel
theorem dX12_drawn_1 : decode cX12_drawn 1 = .ok (.invokevirtual 265, 3) := by decide +kernel
theorem dX12_drawn_4 : decode cX12_drawn 4 = .ok (.ifCond .eq 15, 3) := by decide +kernel
theorem dX12_drawn_7 : decode cX12_drawn 7 = .ok (.iload_n 1, 1) := by decide +kernel
theorem dX12_drawn_8 : decode cX12_drawn 8 = .ok (.i2l, 1) := by decide +kernel
theorem dX12_drawn_9 : decode cX12_drawn 9 = .ok (.lconst 0, 1) := by decide +kernel
theorem dX12_drawn_10 : decode cX12_drawn 10 = .ok (.ldc2_w 403, 3) := by decide +kernel
theorem dX12_drawn_13 : decode cX12_drawn 13 = .ok (.invokestatic 60, 3) := by decide +kernel
theorem dX12_drawn_16 : decode cX12_drawn 16 = .ok (.ifCond .ne 7, 3) := by decide +kernel
theorem dX12_drawn_19 : decode cX12_drawn 19 = .ok (.ldc2_w 272, 3) := by decide +kernel
theorem dX12_drawn_22 : decode cX12_drawn 22 = .ok (.lreturn, 1) := by decide +kernel
theorem dX12_drawn_23 : decode cX12_drawn 23 = .ok (.aload_n 0, 1) := by decide +kernel
theorem dX12_drawn_24 : decode cX12_drawn 24 = .ok (.invokevirtual 269, 3) := by decide +kernel
theorem dX12_drawn_27 : decode cX12_drawn 27 = .ok (.lstore_n 2, 1) := by decide +kernel
theorem dX12_drawn_28 : decode cX12_drawn 28 = .ok (.iload_n 1, 1) := by decide +kernel
theorem dX12_drawn_29 : decode cX12_drawn 29 = .ok (.i2l, 1) := by decide +kernel
theorem dX12_drawn_30 : decode cX12_drawn 30 = .ok (.ldc2_w 405, 3) := by decide +kernel
theorem dX12_drawn_33 : decode cX12_drawn 33 = .ok (.lload_n 2, 1) := by decide +kernel
theorem dX12_drawn_34 : decode cX12_drawn 34 = .ok (.ldiv, 1) := by decide +kernel
theorem dX12_drawn_35 : decode cX12_drawn 35 = .ok (.lload_n 2, 1) := by decide +kernel
theorem dX12_drawn_36 : decode cX12_drawn 36 = .ok (.lmul, 1) := by decide +kernel
theorem dX12_drawn_37 : decode cX12_drawn 37 = .ok (.lcmp, 1) := by decide +kernel
theorem dX12_drawn_38 : decode cX12_drawn 38 = .ok (.ifCond .ge 10, 3) := by decide +kernel
theorem dX12_drawn_41 : decode cX12_drawn 41 = .ok (.iload_n 1, 1) := by decide +kernel
theorem dX12_drawn_42 : decode cX12_drawn 42 = .ok (.i2l, 1) := by decide +kernel
theorem dX12_drawn_43 : decode cX12_drawn 43 = .ok (.lload_n 2, 1) := by decide +kernel
theorem dX12_drawn_44 : decode cX12_drawn 44 = .ok (.lrem, 1) := by decide +kernel
theorem dX12_drawn_45 : decode cX12_drawn 45 = .ok (.goto 6, 3) := by decide +kernel
theorem dX12_drawn_48 : decode cX12_drawn 48 = .ok (.ldc2_w 179, 3) := by decide +kernel
theorem dX12_drawn_51 : decode cX12_drawn 51 = .ok (.lreturn, 1) := by decide +kernel
theorem dX12_evenly_0 : decode cX12_evenly 0 = .ok (.aload_n 0, 1) := by decide +kernel
theorem dX12_evenly_1 : decode cX12_evenly 1 = .ok (.invokevirtual 265, 3) := by decide +kernel
theorem dX12_evenly_4 : decode cX12_evenly 4 = .ok (.ifCond .eq 15, 3) := by decide +kernel
theorem dX12_evenly_7 : decode cX12_evenly 7 = .ok (.ldc2_w 405, 3) := by decide +kernel
theorem dX12_evenly_10 : decode cX12_evenly 10 = .ok (.aload_n 0, 1) := by decide +kernel
theorem dX12_evenly_11 : decode cX12_evenly 11 = .ok (.invokevirtual 269, 3) := by decide +kernel
theorem dX12_evenly_14 : decode cX12_evenly 14 = .ok (.ldiv, 1) := by decide +kernel
theorem dX12_evenly_15 : decode cX12_evenly 15 = .ok (.l2i, 1) := by decide +kernel
theorem dX12_evenly_16 : decode cX12_evenly 16 = .ok (.goto 5, 3) := by decide +kernel
theorem dX12_evenly_19 : decode cX12_evenly 19 = .ok (.bipush (-2), 2) := by decide +kernel
theorem dX12_evenly_21 : decode cX12_evenly 21 = .ok (.ireturn, 1) := by decide +kernel
theorem dX12_keeps_0 : decode cX12_keeps 0 = .ok (.iconst 0, 1) := by decide +kernel
theorem dX12_keeps_1 : decode cX12_keeps 1 = .ok (.istore_n 1, 1) := by decide +kernel
theorem dX12_keeps_2 : decode cX12_keeps 2 = .ok (.iload_n 1, 1) := by decide +kernel
theorem dX12_keeps_3 : decode cX12_keeps 3 = .ok (.bipush 16, 2) := by decide +kernel
theorem dX12_keeps_5 : decode cX12_keeps 5 = .ok (.if_icmp .ge 33, 3) := by decide +kernel
theorem dX12_keeps_8 : decode cX12_keeps 8 = .ok (.aload_n 0, 1) := by decide +kernel
theorem dX12_keeps_9 : decode cX12_keeps 9 = .ok (.getfield 16, 3) := by decide +kernel
theorem dX12_keeps_12 : decode cX12_keeps 12 = .ok (.bipush 16, 2) := by decide +kernel
theorem dX12_keeps_14 : decode cX12_keeps 14 = .ok (.aload_n 0, 1) := by decide +kernel
theorem dX12_keeps_15 : decode cX12_keeps 15 = .ok (.getfield 9, 3) := by decide +kernel
theorem dX12_keeps_18 : decode cX12_keeps 18 = .ok (.iconst 4, 1) := by decide +kernel
theorem dX12_keeps_19 : decode cX12_keeps 19 = .ok (.iaload, 1) := by decide +kernel
theorem dX12_keeps_20 : decode cX12_keeps 20 = .ok (.imul, 1) := by decide +kernel
theorem dX12_keeps_21 : decode cX12_keeps 21 = .ok (.iload_n 1, 1) := by decide +kernel
theorem dX12_keeps_22 : decode cX12_keeps 22 = .ok (.iadd, 1) := by decide +kernel
theorem dX12_keeps_23 : decode cX12_keeps 23 = .ok (.aload_n 0, 1) := by decide +kernel
theorem dX12_keeps_24 : decode cX12_keeps 24 = .ok (.getfield 9, 3) := by decide +kernel
theorem dX12_keeps_27 : decode cX12_keeps 27 = .ok (.iconst 5, 1) := by decide +kernel
theorem dX12_keeps_28 : decode cX12_keeps 28 = .ok (.iload_n 1, 1) := by decide +kernel
theorem dX12_keeps_29 : decode cX12_keeps 29 = .ok (.iadd, 1) := by decide +kernel
theorem dX12_keeps_30 : decode cX12_keeps 30 = .ok (.iaload, 1) := by decide +kernel
theorem dX12_keeps_31 : decode cX12_keeps 31 = .ok (.iastore, 1) := by decide +kernel
theorem dX12_keeps_32 : decode cX12_keeps 32 = .ok (.iinc 1 1, 3) := by decide +kernel
theorem dX12_keeps_35 : decode cX12_keeps 35 = .ok (.goto (-33), 3) := by decide +kernel
theorem dX12_keeps_38 : decode cX12_keeps 38 = .ok (.aload_n 0, 1) := by decide +kernel
theorem dX12_keeps_39 : decode cX12_keeps 39 = .ok (.getfield 9, 3) := by decide +kernel
theorem dX12_keeps_42 : decode cX12_keeps 42 = .ok (.iconst 4, 1) := by decide +kernel
theorem dX12_keeps_43 : decode cX12_keeps 43 = .ok (.dup2, 1) := by decide +kernel
theorem dX12_keeps_44 : decode cX12_keeps 44 = .ok (.iaload, 1) := by decide +kernel
theorem dX12_keeps_45 : decode cX12_keeps 45 = .ok (.iconst 1, 1) := by decide +kernel
theorem dX12_keeps_46 : decode cX12_keeps 46 = .ok (.iadd, 1) := by decide +kernel
theorem dX12_keeps_47 : decode cX12_keeps 47 = .ok (.iastore, 1) := by decide +kernel
theorem dX12_keeps_48 : decode cX12_keeps 48 = .ok (.return_, 1) := by decide +kernel
theorem dX12_goesBack_0 : decode cX12_goesBack 0 = .ok (.aload_n 0, 1) := by decide +kernel
theorem dX12_goesBack_1 : decode cX12_goesBack 1 = .ok (.getfield 9, 3) := by decide +kernel
theorem dX12_goesBack_4 : decode cX12_goesBack 4 = .ok (.iconst 4, 1) := by decide +kernel
theorem dX12_goesBack_5 : decode cX12_goesBack 5 = .ok (.iload_n 1, 1) := by decide +kernel
theorem dX12_goesBack_6 : decode cX12_goesBack 6 = .ok (.iastore, 1) := by decide +kernel
theorem dX12_goesBack_7 : decode cX12_goesBack 7 = .ok (.iconst 0, 1) := by decide +kernel
theorem dX12_goesBack_8 : decode cX12_goesBack 8 = .ok (.istore_n 2, 1) := by decide +kernel
theorem dX12_goesBack_9 : decode cX12_goesBack 9 = .ok (.iload_n 2, 1) := by decide +kernel
theorem dX12_goesBack_10 : decode cX12_goesBack 10 = .ok (.bipush 16, 2) := by decide +kernel
theorem dX12_goesBack_12 : decode cX12_goesBack 12 = .ok (.if_icmp .ge 28, 3) := by decide +kernel
theorem dX12_goesBack_15 : decode cX12_goesBack 15 = .ok (.aload_n 0, 1) := by decide +kernel
theorem dX12_goesBack_16 : decode cX12_goesBack 16 = .ok (.getfield 9, 3) := by decide +kernel
theorem dX12_goesBack_19 : decode cX12_goesBack 19 = .ok (.iconst 5, 1) := by decide +kernel
theorem dX12_goesBack_20 : decode cX12_goesBack 20 = .ok (.iload_n 2, 1) := by decide +kernel
theorem dX12_goesBack_21 : decode cX12_goesBack 21 = .ok (.iadd, 1) := by decide +kernel
theorem dX12_goesBack_22 : decode cX12_goesBack 22 = .ok (.aload_n 0, 1) := by decide +kernel
theorem dX12_goesBack_23 : decode cX12_goesBack 23 = .ok (.getfield 16, 3) := by decide +kernel
theorem dX12_goesBack_26 : decode cX12_goesBack 26 = .ok (.bipush 16, 2) := by decide +kernel
theorem dX12_goesBack_28 : decode cX12_goesBack 28 = .ok (.iload_n 1, 1) := by decide +kernel
theorem dX12_goesBack_29 : decode cX12_goesBack 29 = .ok (.imul, 1) := by decide +kernel
theorem dX12_goesBack_30 : decode cX12_goesBack 30 = .ok (.iload_n 2, 1) := by decide +kernel
theorem dX12_goesBack_31 : decode cX12_goesBack 31 = .ok (.iadd, 1) := by decide +kernel
theorem dX12_goesBack_32 : decode cX12_goesBack 32 = .ok (.iaload, 1) := by decide +kernel
theorem dX12_goesBack_33 : decode cX12_goesBack 33 = .ok (.iastore, 1) := by decide +kernel
theorem dX12_goesBack_34 : decode cX12_goesBack 34 = .ok (.iinc 2 1, 3) := by decide +kernel
theorem dX12_goesBack_37 : decode cX12_goesBack 37 = .ok (.goto (-28), 3) := by decide +kernel
theorem dX12_goesBack_40 : decode cX12_goesBack 40 = .ok (.return_, 1) := by decide +kernel
theorem dX12_swap_0 : decode cX12_swap 0 = .ok (.aload_n 0, 1) := by decide +kernel
theorem dX12_swap_1 : decode cX12_swap 1 = .ok (.iload_n 1, 1) := by decide +kernel
theorem dX12_swap_2 : decode cX12_swap 2 = .ok (.iload_n 3, 1) := by decide +kernel
theorem dX12_swap_3 : decode cX12_swap 3 = .ok (.invokevirtual 160, 3) := by decide +kernel
theorem dX12_swap_6 : decode cX12_swap 6 = .ok (.ifCond .eq 24, 3) := by decide +kernel
theorem dX12_swap_9 : decode cX12_swap 9 = .ok (.aload_n 0, 1) := by decide +kernel
theorem dX12_swap_10 : decode cX12_swap 10 = .ok (.iload_n 2, 1) := by decide +kernel
theorem dX12_swap_11 : decode cX12_swap 11 = .ok (.iload 4, 2) := by decide +kernel
theorem dX12_swap_13 : decode cX12_swap 13 = .ok (.invokevirtual 160, 3) := by decide +kernel
theorem dX12_swap_16 : decode cX12_swap 16 = .ok (.ifCond .eq 14, 3) := by decide +kernel
theorem dX12_swap_19 : decode cX12_swap 19 = .ok (.iload_n 1, 1) := by decide +kernel
theorem dX12_swap_20 : decode cX12_swap 20 = .ok (.iload_n 2, 1) := by decide +kernel
theorem dX12_swap_21 : decode cX12_swap 21 = .ok (.if_icmp .eq 9, 3) := by decide +kernel
theorem dX12_swap_24 : decode cX12_swap 24 = .ok (.iload_n 3, 1) := by decide +kernel
theorem dX12_swap_25 : decode cX12_swap 25 = .ok (.iload 4, 2) := by decide +kernel
theorem dX12_swap_27 : decode cX12_swap 27 = .ok (.if_icmp .ne 6, 3) := by decide +kernel
theorem dX12_swap_30 : decode cX12_swap 30 = .ok (.bipush (-2), 2) := by decide +kernel
theorem dX12_swap_32 : decode cX12_swap 32 = .ok (.ireturn, 1) := by decide +kernel
theorem dX12_swap_33 : decode cX12_swap 33 = .ok (.aload_n 0, 1) := by decide +kernel
theorem dX12_swap_34 : decode cX12_swap 34 = .ok (.iload_n 1, 1) := by decide +kernel
theorem dX12_swap_35 : decode cX12_swap 35 = .ok (.iload_n 3, 1) := by decide +kernel
theorem dX12_swap_36 : decode cX12_swap 36 = .ok (.iload_n 2, 1) := by decide +kernel
theorem dX12_swap_37 : decode cX12_swap 37 = .ok (.iload 4, 2) := by decide +kernel
theorem dX12_swap_39 : decode cX12_swap 39 = .ok (.invokevirtual 320, 3) := by decide +kernel
theorem dX12_swap_42 : decode cX12_swap 42 = .ok (.istore 5, 2) := by decide +kernel
theorem dX12_swap_44 : decode cX12_swap 44 = .ok (.aload_n 0, 1) := by decide +kernel
theorem dX12_swap_45 : decode cX12_swap 45 = .ok (.iload_n 1, 1) := by decide +kernel
theorem dX12_swap_46 : decode cX12_swap 46 = .ok (.iload 4, 2) := by decide +kernel
theorem dX12_swap_48 : decode cX12_swap 48 = .ok (.iload_n 2, 1) := by decide +kernel
theorem dX12_swap_49 : decode cX12_swap 49 = .ok (.iload_n 3, 1) := by decide +kernel
theorem dX12_swap_50 : decode cX12_swap 50 = .ok (.invokevirtual 320, 3) := by decide +kernel
theorem dX12_swap_53 : decode cX12_swap 53 = .ok (.istore 6, 2) := by decide +kernel
theorem dX12_swap_55 : decode cX12_swap 55 = .ok (.aload_n 0, 1) := by decide +kernel
theorem dX12_swap_56 : decode cX12_swap 56 = .ok (.getfield 9, 3) := by decide +kernel
theorem dX12_swap_59 : decode cX12_swap 59 = .ok (.iconst 4, 1) := by decide +kernel
theorem dX12_swap_60 : decode cX12_swap 60 = .ok (.iaload, 1) := by decide +kernel
theorem dX12_swap_61 : decode cX12_swap 61 = .ok (.bipush 20, 2) := by decide +kernel
theorem dX12_swap_63 : decode cX12_swap 63 = .ok (.if_icmp .eq 19, 3) := by decide +kernel
theorem dX12_swap_66 : decode cX12_swap 66 = .ok (.aload_n 0, 1) := by decide +kernel
theorem dX12_swap_67 : decode cX12_swap 67 = .ok (.aload_n 0, 1) := by decide +kernel
theorem dX12_swap_68 : decode cX12_swap 68 = .ok (.getfield 9, 3) := by decide +kernel
theorem dX12_swap_71 : decode cX12_swap 71 = .ok (.iconst 5, 1) := by decide +kernel
theorem dX12_swap_72 : decode cX12_swap 72 = .ok (.iload 5, 2) := by decide +kernel
theorem dX12_swap_74 : decode cX12_swap 74 = .ok (.iload 6, 2) := by decide +kernel
theorem dX12_swap_76 : decode cX12_swap 76 = .ok (.invokevirtual 324, 3) := by decide +kernel
theorem dX12_swap_79 : decode cX12_swap 79 = .ok (.ifCond .ne 6, 3) := by decide +kernel
theorem dX12_swap_82 : decode cX12_swap 82 = .ok (.bipush (-5), 2) := by decide +kernel
theorem dX12_swap_84 : decode cX12_swap 84 = .ok (.ireturn, 1) := by decide +kernel
theorem dX12_swap_85 : decode cX12_swap 85 = .ok (.aload_n 0, 1) := by decide +kernel
theorem dX12_swap_86 : decode cX12_swap 86 = .ok (.invokevirtual 407, 3) := by decide +kernel
theorem dX12_swap_89 : decode cX12_swap 89 = .ok (.aload_n 0, 1) := by decide +kernel
theorem dX12_swap_90 : decode cX12_swap 90 = .ok (.aload_n 0, 1) := by decide +kernel
theorem dX12_swap_91 : decode cX12_swap 91 = .ok (.getfield 9, 3) := by decide +kernel
theorem dX12_swap_94 : decode cX12_swap 94 = .ok (.iconst 5, 1) := by decide +kernel
theorem dX12_swap_95 : decode cX12_swap 95 = .ok (.iload 5, 2) := by decide +kernel
theorem dX12_swap_97 : decode cX12_swap 97 = .ok (.iload 6, 2) := by decide +kernel
theorem dX12_swap_99 : decode cX12_swap 99 = .ok (.invokevirtual 335, 3) := by decide +kernel
theorem dX12_swap_102 : decode cX12_swap 102 = .ok (.iconst 0, 1) := by decide +kernel
theorem dX12_swap_103 : decode cX12_swap 103 = .ok (.ireturn, 1) := by decide +kernel
theorem dX12_draw_0 : decode cX12_draw 0 = .ok (.aload_n 0, 1) := by decide +kernel
theorem dX12_draw_1 : decode cX12_draw 1 = .ok (.ldc2_w 410, 3) := by decide +kernel
theorem dX12_draw_4 : decode cX12_draw 4 = .ok (.aload_n 0, 1) := by decide +kernel
theorem dX12_draw_5 : decode cX12_draw 5 = .ok (.getfield 412, 3) := by decide +kernel
theorem dX12_draw_8 : decode cX12_draw 8 = .ok (.lmul, 1) := by decide +kernel
theorem dX12_draw_9 : decode cX12_draw 9 = .ok (.ldc2_w 415, 3) := by decide +kernel
theorem dX12_draw_12 : decode cX12_draw 12 = .ok (.ladd, 1) := by decide +kernel
theorem dX12_draw_13 : decode cX12_draw 13 = .ok (.ldc2_w 417, 3) := by decide +kernel
theorem dX12_draw_16 : decode cX12_draw 16 = .ok (.lrem, 1) := by decide +kernel
theorem dX12_draw_17 : decode cX12_draw 17 = .ok (.putfield 412, 3) := by decide +kernel
theorem dX12_draw_20 : decode cX12_draw 20 = .ok (.aload_n 0, 1) := by decide +kernel
theorem dX12_draw_21 : decode cX12_draw 21 = .ok (.getfield 412, 3) := by decide +kernel
theorem dX12_draw_24 : decode cX12_draw 24 = .ok (.ldc2_w 419, 3) := by decide +kernel
theorem dX12_draw_27 : decode cX12_draw 27 = .ok (.ldiv, 1) := by decide +kernel
theorem dX12_draw_28 : decode cX12_draw 28 = .ok (.iload_n 1, 1) := by decide +kernel
theorem dX12_draw_29 : decode cX12_draw 29 = .ok (.i2l, 1) := by decide +kernel
theorem dX12_draw_30 : decode cX12_draw 30 = .ok (.lrem, 1) := by decide +kernel
theorem dX12_draw_31 : decode cX12_draw 31 = .ok (.l2i, 1) := by decide +kernel
theorem dX12_draw_32 : decode cX12_draw 32 = .ok (.ireturn, 1) := by decide +kernel
theorem dX12_drawOther_0 : decode cX12_drawOther 0 = .ok (.aload_n 0, 1) := by decide +kernel
theorem dX12_drawOther_1 : decode cX12_drawOther 1 = .ok (.iload_n 1, 1) := by decide +kernel
theorem dX12_drawOther_2 : decode cX12_drawOther 2 = .ok (.iconst 1, 1) := by decide +kernel
theorem dX12_drawOther_3 : decode cX12_drawOther 3 = .ok (.isub, 1) := by decide +kernel
theorem dX12_drawOther_4 : decode cX12_drawOther 4 = .ok (.invokevirtual 421, 3) := by decide +kernel
theorem dX12_drawOther_7 : decode cX12_drawOther 7 = .ok (.istore_n 3, 1) := by decide +kernel
theorem dX12_drawOther_8 : decode cX12_drawOther 8 = .ok (.iload_n 3, 1) := by decide +kernel
theorem dX12_drawOther_9 : decode cX12_drawOther 9 = .ok (.iload_n 2, 1) := by decide +kernel
theorem dX12_drawOther_10 : decode cX12_drawOther 10 = .ok (.if_icmp .ge 7, 3) := by decide +kernel
theorem dX12_drawOther_13 : decode cX12_drawOther 13 = .ok (.iload_n 3, 1) := by decide +kernel
theorem dX12_drawOther_14 : decode cX12_drawOther 14 = .ok (.goto 6, 3) := by decide +kernel
theorem dX12_drawOther_17 : decode cX12_drawOther 17 = .ok (.iload_n 3, 1) := by decide +kernel
theorem dX12_drawOther_18 : decode cX12_drawOther 18 = .ok (.iconst 1, 1) := by decide +kernel
theorem dX12_drawOther_19 : decode cX12_drawOther 19 = .ok (.iadd, 1) := by decide +kernel
theorem dX12_drawOther_20 : decode cX12_drawOther 20 = .ok (.ireturn, 1) := by decide +kernel
theorem dX12_walk_0 : decode cX12_walk 0 = .ok (.aload_n 0, 1) := by decide +kernel
theorem dX12_walk_1 : decode cX12_walk 1 = .ok (.invokevirtual 265, 3) := by decide +kernel
theorem dX12_walk_4 : decode cX12_walk 4 = .ok (.ifCond .eq 27, 3) := by decide +kernel
theorem dX12_walk_7 : decode cX12_walk 7 = .ok (.iload_n 1, 1) := by decide +kernel
theorem dX12_walk_8 : decode cX12_walk 8 = .ok (.i2l, 1) := by decide +kernel
theorem dX12_walk_9 : decode cX12_walk 9 = .ok (.lconst 1, 1) := by decide +kernel
theorem dX12_walk_10 : decode cX12_walk 10 = .ok (.ldc2_w 247, 3) := by decide +kernel
theorem dX12_walk_13 : decode cX12_walk 13 = .ok (.invokestatic 60, 3) := by decide +kernel
theorem dX12_walk_16 : decode cX12_walk 16 = .ok (.ifCond .eq 15, 3) := by decide +kernel
theorem dX12_walk_19 : decode cX12_walk 19 = .ok (.iload_n 2, 1) := by decide +kernel
theorem dX12_walk_20 : decode cX12_walk 20 = .ok (.i2l, 1) := by decide +kernel
theorem dX12_walk_21 : decode cX12_walk 21 = .ok (.lconst 0, 1) := by decide +kernel
theorem dX12_walk_22 : decode cX12_walk 22 = .ok (.ldc2_w 424, 3) := by decide +kernel
theorem dX12_walk_25 : decode cX12_walk 25 = .ok (.invokestatic 60, 3) := by decide +kernel
theorem dX12_walk_28 : decode cX12_walk 28 = .ok (.ifCond .ne 6, 3) := by decide +kernel
theorem dX12_walk_31 : decode cX12_walk 31 = .ok (.bipush (-2), 2) := by decide +kernel
theorem dX12_walk_33 : decode cX12_walk 33 = .ok (.ireturn, 1) := by decide +kernel
theorem dX12_walk_34 : decode cX12_walk 34 = .ok (.aload_n 0, 1) := by decide +kernel
theorem dX12_walk_35 : decode cX12_walk 35 = .ok (.getfield 9, 3) := by decide +kernel
theorem dX12_walk_38 : decode cX12_walk 38 = .ok (.iconst 4, 1) := by decide +kernel
theorem dX12_walk_39 : decode cX12_walk 39 = .ok (.iaload, 1) := by decide +kernel
theorem dX12_walk_40 : decode cX12_walk 40 = .ok (.bipush 20, 2) := by decide +kernel
theorem dX12_walk_42 : decode cX12_walk 42 = .ok (.if_icmp .ne 6, 3) := by decide +kernel
theorem dX12_walk_45 : decode cX12_walk 45 = .ok (.bipush (-5), 2) := by decide +kernel
theorem dX12_walk_47 : decode cX12_walk 47 = .ok (.ireturn, 1) := by decide +kernel
theorem dX12_walk_48 : decode cX12_walk 48 = .ok (.aload_n 0, 1) := by decide +kernel
theorem dX12_walk_49 : decode cX12_walk 49 = .ok (.invokevirtual 407, 3) := by decide +kernel
theorem dX12_walk_52 : decode cX12_walk 52 = .ok (.aload_n 0, 1) := by decide +kernel
theorem dX12_walk_53 : decode cX12_walk 53 = .ok (.iload_n 2, 1) := by decide +kernel
theorem dX12_walk_54 : decode cX12_walk 54 = .ok (.i2l, 1) := by decide +kernel
theorem dX12_walk_55 : decode cX12_walk 55 = .ok (.putfield 412, 3) := by decide +kernel
theorem dX12_walk_58 : decode cX12_walk 58 = .ok (.iconst 0, 1) := by decide +kernel
theorem dX12_walk_59 : decode cX12_walk 59 = .ok (.istore_n 3, 1) := by decide +kernel
theorem dX12_walk_60 : decode cX12_walk 60 = .ok (.iconst 0, 1) := by decide +kernel
theorem dX12_walk_61 : decode cX12_walk 61 = .ok (.istore 4, 2) := by decide +kernel
theorem dX12_walk_63 : decode cX12_walk 63 = .ok (.iload 4, 2) := by decide +kernel
theorem dX12_walk_65 : decode cX12_walk 65 = .ok (.iload_n 1, 1) := by decide +kernel
theorem dX12_walk_66 : decode cX12_walk 66 = .ok (.if_icmp .ge 133, 3) := by decide +kernel
theorem dX12_walk_69 : decode cX12_walk 69 = .ok (.aload_n 0, 1) := by decide +kernel
theorem dX12_walk_70 : decode cX12_walk 70 = .ok (.aload_n 0, 1) := by decide +kernel
theorem dX12_walk_71 : decode cX12_walk 71 = .ok (.getfield 9, 3) := by decide +kernel
theorem dX12_walk_74 : decode cX12_walk 74 = .ok (.iconst 0, 1) := by decide +kernel
theorem dX12_walk_75 : decode cX12_walk 75 = .ok (.iaload, 1) := by decide +kernel
theorem dX12_walk_76 : decode cX12_walk 76 = .ok (.invokevirtual 421, 3) := by decide +kernel
theorem dX12_walk_79 : decode cX12_walk 79 = .ok (.istore 5, 2) := by decide +kernel
theorem dX12_walk_81 : decode cX12_walk 81 = .ok (.aload_n 0, 1) := by decide +kernel
theorem dX12_walk_82 : decode cX12_walk 82 = .ok (.aload_n 0, 1) := by decide +kernel
theorem dX12_walk_83 : decode cX12_walk 83 = .ok (.getfield 9, 3) := by decide +kernel
theorem dX12_walk_86 : decode cX12_walk 86 = .ok (.iconst 0, 1) := by decide +kernel
theorem dX12_walk_87 : decode cX12_walk 87 = .ok (.iaload, 1) := by decide +kernel
theorem dX12_walk_88 : decode cX12_walk 88 = .ok (.iload 5, 2) := by decide +kernel
theorem dX12_walk_90 : decode cX12_walk 90 = .ok (.invokevirtual 426, 3) := by decide +kernel
theorem dX12_walk_93 : decode cX12_walk 93 = .ok (.istore 6, 2) := by decide +kernel
theorem dX12_walk_95 : decode cX12_walk 95 = .ok (.aload_n 0, 1) := by decide +kernel
theorem dX12_walk_96 : decode cX12_walk 96 = .ok (.aload_n 0, 1) := by decide +kernel
theorem dX12_walk_97 : decode cX12_walk 97 = .ok (.getfield 9, 3) := by decide +kernel
theorem dX12_walk_100 : decode cX12_walk 100 = .ok (.iconst 1, 1) := by decide +kernel
theorem dX12_walk_101 : decode cX12_walk 101 = .ok (.iaload, 1) := by decide +kernel
theorem dX12_walk_102 : decode cX12_walk 102 = .ok (.invokevirtual 421, 3) := by decide +kernel
theorem dX12_walk_105 : decode cX12_walk 105 = .ok (.istore 7, 2) := by decide +kernel
theorem dX12_walk_107 : decode cX12_walk 107 = .ok (.aload_n 0, 1) := by decide +kernel
theorem dX12_walk_108 : decode cX12_walk 108 = .ok (.aload_n 0, 1) := by decide +kernel
theorem dX12_walk_109 : decode cX12_walk 109 = .ok (.getfield 9, 3) := by decide +kernel
theorem dX12_walk_112 : decode cX12_walk 112 = .ok (.iconst 1, 1) := by decide +kernel
theorem dX12_walk_113 : decode cX12_walk 113 = .ok (.iaload, 1) := by decide +kernel
theorem dX12_walk_114 : decode cX12_walk 114 = .ok (.iload 7, 2) := by decide +kernel
theorem dX12_walk_116 : decode cX12_walk 116 = .ok (.invokevirtual 426, 3) := by decide +kernel
theorem dX12_walk_119 : decode cX12_walk 119 = .ok (.istore 8, 2) := by decide +kernel
theorem dX12_walk_121 : decode cX12_walk 121 = .ok (.aload_n 0, 1) := by decide +kernel
theorem dX12_walk_122 : decode cX12_walk 122 = .ok (.aload_n 0, 1) := by decide +kernel
theorem dX12_walk_123 : decode cX12_walk 123 = .ok (.getfield 9, 3) := by decide +kernel
theorem dX12_walk_126 : decode cX12_walk 126 = .ok (.iconst 5, 1) := by decide +kernel
theorem dX12_walk_127 : decode cX12_walk 127 = .ok (.aload_n 0, 1) := by decide +kernel
theorem dX12_walk_128 : decode cX12_walk 128 = .ok (.iload 5, 2) := by decide +kernel
theorem dX12_walk_130 : decode cX12_walk 130 = .ok (.iload 7, 2) := by decide +kernel
theorem dX12_walk_132 : decode cX12_walk 132 = .ok (.iload 6, 2) := by decide +kernel
theorem dX12_walk_134 : decode cX12_walk 134 = .ok (.iload 8, 2) := by decide +kernel
theorem dX12_walk_136 : decode cX12_walk 136 = .ok (.invokevirtual 320, 3) := by decide +kernel
theorem dX12_walk_139 : decode cX12_walk 139 = .ok (.aload_n 0, 1) := by decide +kernel
theorem dX12_walk_140 : decode cX12_walk 140 = .ok (.iload 5, 2) := by decide +kernel
theorem dX12_walk_142 : decode cX12_walk 142 = .ok (.iload 8, 2) := by decide +kernel
theorem dX12_walk_144 : decode cX12_walk 144 = .ok (.iload 6, 2) := by decide +kernel
theorem dX12_walk_146 : decode cX12_walk 146 = .ok (.iload 7, 2) := by decide +kernel
theorem dX12_walk_148 : decode cX12_walk 148 = .ok (.invokevirtual 320, 3) := by decide +kernel
theorem dX12_walk_151 : decode cX12_walk 151 = .ok (.invokevirtual 324, 3) := by decide +kernel
theorem dX12_walk_154 : decode cX12_walk 154 = .ok (.ifCond .eq 39, 3) := by decide +kernel
theorem dX12_walk_157 : decode cX12_walk 157 = .ok (.aload_n 0, 1) := by decide +kernel
theorem dX12_walk_158 : decode cX12_walk 158 = .ok (.aload_n 0, 1) := by decide +kernel
theorem dX12_walk_159 : decode cX12_walk 159 = .ok (.getfield 9, 3) := by decide +kernel
theorem dX12_walk_162 : decode cX12_walk 162 = .ok (.iconst 5, 1) := by decide +kernel
theorem dX12_walk_163 : decode cX12_walk 163 = .ok (.aload_n 0, 1) := by decide +kernel
theorem dX12_walk_164 : decode cX12_walk 164 = .ok (.iload 5, 2) := by decide +kernel
theorem dX12_walk_166 : decode cX12_walk 166 = .ok (.iload 7, 2) := by decide +kernel
theorem dX12_walk_168 : decode cX12_walk 168 = .ok (.iload 6, 2) := by decide +kernel
theorem dX12_walk_170 : decode cX12_walk 170 = .ok (.iload 8, 2) := by decide +kernel
theorem dX12_walk_172 : decode cX12_walk 172 = .ok (.invokevirtual 320, 3) := by decide +kernel
theorem dX12_walk_175 : decode cX12_walk 175 = .ok (.aload_n 0, 1) := by decide +kernel
theorem dX12_walk_176 : decode cX12_walk 176 = .ok (.iload 5, 2) := by decide +kernel
theorem dX12_walk_178 : decode cX12_walk 178 = .ok (.iload 8, 2) := by decide +kernel
theorem dX12_walk_180 : decode cX12_walk 180 = .ok (.iload 6, 2) := by decide +kernel
theorem dX12_walk_182 : decode cX12_walk 182 = .ok (.iload 7, 2) := by decide +kernel
theorem dX12_walk_184 : decode cX12_walk 184 = .ok (.invokevirtual 320, 3) := by decide +kernel
theorem dX12_walk_187 : decode cX12_walk 187 = .ok (.invokevirtual 335, 3) := by decide +kernel
theorem dX12_walk_190 : decode cX12_walk 190 = .ok (.iinc 3 1, 3) := by decide +kernel
theorem dX12_walk_193 : decode cX12_walk 193 = .ok (.iinc 4 1, 3) := by decide +kernel
theorem dX12_walk_196 : decode cX12_walk 196 = .ok (.goto (-133), 3) := by decide +kernel
theorem dX12_walk_199 : decode cX12_walk 199 = .ok (.iload_n 3, 1) := by decide +kernel
theorem dX12_walk_200 : decode cX12_walk 200 = .ok (.ireturn, 1) := by decide +kernel
theorem dX12_undo_0 : decode cX12_undo 0 = .ok (.aload_n 0, 1) := by decide +kernel
theorem dX12_undo_1 : decode cX12_undo 1 = .ok (.invokevirtual 265, 3) := by decide +kernel
theorem dX12_undo_4 : decode cX12_undo 4 = .ok (.ifCond .ne 6, 3) := by decide +kernel
theorem dX12_undo_7 : decode cX12_undo 7 = .ok (.bipush (-2), 2) := by decide +kernel
theorem dX12_undo_9 : decode cX12_undo 9 = .ok (.ireturn, 1) := by decide +kernel
theorem dX12_undo_10 : decode cX12_undo 10 = .ok (.aload_n 0, 1) := by decide +kernel
theorem dX12_undo_11 : decode cX12_undo 11 = .ok (.getfield 9, 3) := by decide +kernel
theorem dX12_undo_14 : decode cX12_undo 14 = .ok (.iconst 4, 1) := by decide +kernel
theorem dX12_undo_15 : decode cX12_undo 15 = .ok (.iaload, 1) := by decide +kernel
theorem dX12_undo_16 : decode cX12_undo 16 = .ok (.ifCond .ne 6, 3) := by decide +kernel
theorem dX12_undo_19 : decode cX12_undo 19 = .ok (.bipush (-5), 2) := by decide +kernel
theorem dX12_undo_21 : decode cX12_undo 21 = .ok (.ireturn, 1) := by decide +kernel
theorem dX12_undo_22 : decode cX12_undo 22 = .ok (.aload_n 0, 1) := by decide +kernel
theorem dX12_undo_23 : decode cX12_undo 23 = .ok (.aload_n 0, 1) := by decide +kernel
theorem dX12_undo_24 : decode cX12_undo 24 = .ok (.getfield 9, 3) := by decide +kernel
theorem dX12_undo_27 : decode cX12_undo 27 = .ok (.iconst 4, 1) := by decide +kernel
theorem dX12_undo_28 : decode cX12_undo 28 = .ok (.iaload, 1) := by decide +kernel
theorem dX12_undo_29 : decode cX12_undo 29 = .ok (.iconst 1, 1) := by decide +kernel
theorem dX12_undo_30 : decode cX12_undo 30 = .ok (.isub, 1) := by decide +kernel
theorem dX12_undo_31 : decode cX12_undo 31 = .ok (.invokevirtual 429, 3) := by decide +kernel
theorem dX12_undo_34 : decode cX12_undo 34 = .ok (.aload_n 0, 1) := by decide +kernel
theorem dX12_undo_35 : decode cX12_undo 35 = .ok (.getfield 9, 3) := by decide +kernel
theorem dX12_undo_38 : decode cX12_undo 38 = .ok (.iconst 4, 1) := by decide +kernel
theorem dX12_undo_39 : decode cX12_undo 39 = .ok (.iaload, 1) := by decide +kernel
theorem dX12_undo_40 : decode cX12_undo 40 = .ok (.ireturn, 1) := by decide +kernel
theorem dX12_anew_0 : decode cX12_anew 0 = .ok (.aload_n 0, 1) := by decide +kernel
theorem dX12_anew_1 : decode cX12_anew 1 = .ok (.invokevirtual 265, 3) := by decide +kernel
theorem dX12_anew_4 : decode cX12_anew 4 = .ok (.ifCond .ne 6, 3) := by decide +kernel
theorem dX12_anew_7 : decode cX12_anew 7 = .ok (.bipush (-2), 2) := by decide +kernel
theorem dX12_anew_9 : decode cX12_anew 9 = .ok (.ireturn, 1) := by decide +kernel
theorem dX12_anew_10 : decode cX12_anew 10 = .ok (.aload_n 0, 1) := by decide +kernel
theorem dX12_anew_11 : decode cX12_anew 11 = .ok (.getfield 9, 3) := by decide +kernel
theorem dX12_anew_14 : decode cX12_anew 14 = .ok (.iconst 4, 1) := by decide +kernel
theorem dX12_anew_15 : decode cX12_anew 15 = .ok (.iaload, 1) := by decide +kernel
theorem dX12_anew_16 : decode cX12_anew 16 = .ok (.istore_n 1, 1) := by decide +kernel
theorem dX12_anew_17 : decode cX12_anew 17 = .ok (.iload_n 1, 1) := by decide +kernel
theorem dX12_anew_18 : decode cX12_anew 18 = .ok (.ifCond .le 8, 3) := by decide +kernel
theorem dX12_anew_21 : decode cX12_anew 21 = .ok (.aload_n 0, 1) := by decide +kernel
theorem dX12_anew_22 : decode cX12_anew 22 = .ok (.iconst 0, 1) := by decide +kernel
theorem dX12_anew_23 : decode cX12_anew 23 = .ok (.invokevirtual 429, 3) := by decide +kernel
theorem dX12_anew_26 : decode cX12_anew 26 = .ok (.iload_n 1, 1) := by decide +kernel
theorem dX12_anew_27 : decode cX12_anew 27 = .ok (.ireturn, 1) := by decide +kernel
theorem dJ6_bitCount_0f7a4_0 : decode cJ6_bitCount_0f7a4 0 = .ok (.iload_n 0, 1) := by decide +kernel
theorem dJ6_bitCount_0f7a4_1 : decode cJ6_bitCount_0f7a4 1 = .ok (.iload_n 0, 1) := by decide +kernel
theorem dJ6_bitCount_0f7a4_2 : decode cJ6_bitCount_0f7a4 2 = .ok (.iconst 1, 1) := by decide +kernel
theorem dJ6_bitCount_0f7a4_3 : decode cJ6_bitCount_0f7a4 3 = .ok (.iushr, 1) := by decide +kernel
theorem dJ6_bitCount_0f7a4_4 : decode cJ6_bitCount_0f7a4 4 = .ok (.ldc_w 265, 3) := by decide +kernel
theorem dJ6_bitCount_0f7a4_7 : decode cJ6_bitCount_0f7a4 7 = .ok (.iand, 1) := by decide +kernel
theorem dJ6_bitCount_0f7a4_8 : decode cJ6_bitCount_0f7a4 8 = .ok (.isub, 1) := by decide +kernel
theorem dJ6_bitCount_0f7a4_9 : decode cJ6_bitCount_0f7a4 9 = .ok (.istore_n 0, 1) := by decide +kernel
theorem dJ6_bitCount_0f7a4_10 : decode cJ6_bitCount_0f7a4 10 = .ok (.iload_n 0, 1) := by decide +kernel
theorem dJ6_bitCount_0f7a4_11 : decode cJ6_bitCount_0f7a4 11 = .ok (.ldc_w 266, 3) := by decide +kernel
theorem dJ6_bitCount_0f7a4_14 : decode cJ6_bitCount_0f7a4 14 = .ok (.iand, 1) := by decide +kernel
theorem dJ6_bitCount_0f7a4_15 : decode cJ6_bitCount_0f7a4 15 = .ok (.iload_n 0, 1) := by decide +kernel
theorem dJ6_bitCount_0f7a4_16 : decode cJ6_bitCount_0f7a4 16 = .ok (.iconst 2, 1) := by decide +kernel
theorem dJ6_bitCount_0f7a4_17 : decode cJ6_bitCount_0f7a4 17 = .ok (.iushr, 1) := by decide +kernel
theorem dJ6_bitCount_0f7a4_18 : decode cJ6_bitCount_0f7a4 18 = .ok (.ldc_w 266, 3) := by decide +kernel
theorem dJ6_bitCount_0f7a4_21 : decode cJ6_bitCount_0f7a4 21 = .ok (.iand, 1) := by decide +kernel
theorem dJ6_bitCount_0f7a4_22 : decode cJ6_bitCount_0f7a4 22 = .ok (.iadd, 1) := by decide +kernel
theorem dJ6_bitCount_0f7a4_23 : decode cJ6_bitCount_0f7a4 23 = .ok (.istore_n 0, 1) := by decide +kernel
theorem dJ6_bitCount_0f7a4_24 : decode cJ6_bitCount_0f7a4 24 = .ok (.iload_n 0, 1) := by decide +kernel
theorem dJ6_bitCount_0f7a4_25 : decode cJ6_bitCount_0f7a4 25 = .ok (.iload_n 0, 1) := by decide +kernel
theorem dJ6_bitCount_0f7a4_26 : decode cJ6_bitCount_0f7a4 26 = .ok (.iconst 4, 1) := by decide +kernel
theorem dJ6_bitCount_0f7a4_27 : decode cJ6_bitCount_0f7a4 27 = .ok (.iushr, 1) := by decide +kernel
theorem dJ6_bitCount_0f7a4_28 : decode cJ6_bitCount_0f7a4 28 = .ok (.iadd, 1) := by decide +kernel
theorem dJ6_bitCount_0f7a4_29 : decode cJ6_bitCount_0f7a4 29 = .ok (.ldc_w 267, 3) := by decide +kernel
theorem dJ6_bitCount_0f7a4_32 : decode cJ6_bitCount_0f7a4 32 = .ok (.iand, 1) := by decide +kernel
theorem dJ6_bitCount_0f7a4_33 : decode cJ6_bitCount_0f7a4 33 = .ok (.istore_n 0, 1) := by decide +kernel
theorem dJ6_bitCount_0f7a4_34 : decode cJ6_bitCount_0f7a4 34 = .ok (.iload_n 0, 1) := by decide +kernel
theorem dJ6_bitCount_0f7a4_35 : decode cJ6_bitCount_0f7a4 35 = .ok (.iload_n 0, 1) := by decide +kernel
theorem dJ6_bitCount_0f7a4_36 : decode cJ6_bitCount_0f7a4 36 = .ok (.bipush 8, 2) := by decide +kernel
theorem dJ6_bitCount_0f7a4_38 : decode cJ6_bitCount_0f7a4 38 = .ok (.iushr, 1) := by decide +kernel
theorem dJ6_bitCount_0f7a4_39 : decode cJ6_bitCount_0f7a4 39 = .ok (.iadd, 1) := by decide +kernel
theorem dJ6_bitCount_0f7a4_40 : decode cJ6_bitCount_0f7a4 40 = .ok (.istore_n 0, 1) := by decide +kernel
theorem dJ6_bitCount_0f7a4_41 : decode cJ6_bitCount_0f7a4 41 = .ok (.iload_n 0, 1) := by decide +kernel
theorem dJ6_bitCount_0f7a4_42 : decode cJ6_bitCount_0f7a4 42 = .ok (.iload_n 0, 1) := by decide +kernel
theorem dJ6_bitCount_0f7a4_43 : decode cJ6_bitCount_0f7a4 43 = .ok (.bipush 16, 2) := by decide +kernel
theorem dJ6_bitCount_0f7a4_45 : decode cJ6_bitCount_0f7a4 45 = .ok (.iushr, 1) := by decide +kernel
theorem dJ6_bitCount_0f7a4_46 : decode cJ6_bitCount_0f7a4 46 = .ok (.iadd, 1) := by decide +kernel
theorem dJ6_bitCount_0f7a4_47 : decode cJ6_bitCount_0f7a4 47 = .ok (.istore_n 0, 1) := by decide +kernel
theorem dJ6_bitCount_0f7a4_48 : decode cJ6_bitCount_0f7a4 48 = .ok (.iload_n 0, 1) := by decide +kernel
theorem dJ6_bitCount_0f7a4_49 : decode cJ6_bitCount_0f7a4 49 = .ok (.bipush 63, 2) := by decide +kernel
theorem dJ6_bitCount_0f7a4_51 : decode cJ6_bitCount_0f7a4 51 = .ok (.iand, 1) := by decide +kernel
theorem dJ6_bitCount_0f7a4_52 : decode cJ6_bitCount_0f7a4 52 = .ok (.ireturn, 1) := by decide +kernel
theorem dJ9_max_7cf53_0 : decode cJ9_max_7cf53 0 = .ok (.iload_n 0, 1) := by decide +kernel
theorem dJ9_max_7cf53_1 : decode cJ9_max_7cf53 1 = .ok (.iload_n 1, 1) := by decide +kernel
theorem dJ9_max_7cf53_2 : decode cJ9_max_7cf53 2 = .ok (.if_icmp .lt 7, 3) := by decide +kernel
theorem dJ9_max_7cf53_5 : decode cJ9_max_7cf53 5 = .ok (.iload_n 0, 1) := by decide +kernel
theorem dJ9_max_7cf53_6 : decode cJ9_max_7cf53 6 = .ok (.goto 4, 3) := by decide +kernel
theorem dJ9_max_7cf53_9 : decode cJ9_max_7cf53 9 = .ok (.iload_n 1, 1) := by decide +kernel
theorem dJ9_max_7cf53_10 : decode cJ9_max_7cf53 10 = .ok (.ireturn, 1) := by decide +kernel
theorem dJ9_max_f86c9_0 : decode cJ9_max_f86c9 0 = .ok (.lload_n 0, 1) := by decide +kernel
theorem dJ9_max_f86c9_1 : decode cJ9_max_f86c9 1 = .ok (.lload_n 2, 1) := by decide +kernel
theorem dJ9_max_f86c9_2 : decode cJ9_max_f86c9 2 = .ok (.lcmp, 1) := by decide +kernel
theorem dJ9_max_f86c9_3 : decode cJ9_max_f86c9 3 = .ok (.ifCond .lt 7, 3) := by decide +kernel
theorem dJ9_max_f86c9_6 : decode cJ9_max_f86c9 6 = .ok (.lload_n 0, 1) := by decide +kernel
theorem dJ9_max_f86c9_7 : decode cJ9_max_f86c9 7 = .ok (.goto 4, 3) := by decide +kernel
theorem dJ9_max_f86c9_10 : decode cJ9_max_f86c9 10 = .ok (.lload_n 2, 1) := by decide +kernel
theorem dJ9_max_f86c9_11 : decode cJ9_max_f86c9 11 = .ok (.lreturn, 1) := by decide +kernel
theorem dJ9_min_7cf53_0 : decode cJ9_min_7cf53 0 = .ok (.iload_n 0, 1) := by decide +kernel
theorem dJ9_min_7cf53_1 : decode cJ9_min_7cf53 1 = .ok (.iload_n 1, 1) := by decide +kernel
theorem dJ9_min_7cf53_2 : decode cJ9_min_7cf53 2 = .ok (.if_icmp .gt 7, 3) := by decide +kernel
theorem dJ9_min_7cf53_5 : decode cJ9_min_7cf53 5 = .ok (.iload_n 0, 1) := by decide +kernel
theorem dJ9_min_7cf53_6 : decode cJ9_min_7cf53 6 = .ok (.goto 4, 3) := by decide +kernel
theorem dJ9_min_7cf53_9 : decode cJ9_min_7cf53 9 = .ok (.iload_n 1, 1) := by decide +kernel
theorem dJ9_min_7cf53_10 : decode cJ9_min_7cf53 10 = .ok (.ireturn, 1) := by decide +kernel
theorem dJ9_min_f86c9_0 : decode cJ9_min_f86c9 0 = .ok (.lload_n 0, 1) := by decide +kernel
theorem dJ9_min_f86c9_1 : decode cJ9_min_f86c9 1 = .ok (.lload_n 2, 1) := by decide +kernel
theorem dJ9_min_f86c9_2 : decode cJ9_min_f86c9 2 = .ok (.lcmp, 1) := by decide +kernel
theorem dJ9_min_f86c9_3 : decode cJ9_min_f86c9 3 = .ok (.ifCond .gt 7, 3) := by decide +kernel
theorem dJ9_min_f86c9_6 : decode cJ9_min_f86c9 6 = .ok (.lload_n 0, 1) := by decide +kernel
theorem dJ9_min_f86c9_7 : decode cJ9_min_f86c9 7 = .ok (.goto 4, 3) := by decide +kernel
theorem dJ9_min_f86c9_10 : decode cJ9_min_f86c9 10 = .ok (.lload_n 2, 1) := by decide +kernel
theorem dJ9_min_f86c9_11 : decode cJ9_min_f86c9 11 = .ok (.lreturn, 1) := by decide +kernel
theorem dJ0_length_8abf5_0 : decode cJ0_length_8abf5 0 = .ok (.aload_n 0, 1) := by decide +kernel
theorem dJ0_length_8abf5_1 : decode cJ0_length_8abf5 1 = .ok (.getfield 9, 3) := by decide +kernel
theorem dJ0_length_8abf5_4 : decode cJ0_length_8abf5 4 = .ok (.arraylength, 1) := by decide +kernel
theorem dJ0_length_8abf5_5 : decode cJ0_length_8abf5 5 = .ok (.aload_n 0, 1) := by decide +kernel
theorem dJ0_length_8abf5_6 : decode cJ0_length_8abf5 6 = .ok (.invokevirtual 335, 3) := by decide +kernel
theorem dJ0_length_8abf5_9 : decode cJ0_length_8abf5 9 = .ok (.ishr, 1) := by decide +kernel
theorem dJ0_length_8abf5_10 : decode cJ0_length_8abf5 10 = .ok (.ireturn, 1) := by decide +kernel
theorem dJ0_charAt_5068e_0 : decode cJ0_charAt_5068e 0 = .ok (.aload_n 0, 1) := by decide +kernel
theorem dJ0_charAt_5068e_1 : decode cJ0_charAt_5068e 1 = .ok (.invokevirtual 492, 3) := by decide +kernel
theorem dJ0_charAt_5068e_4 : decode cJ0_charAt_5068e 4 = .ok (.ifCond .eq 12, 3) := by decide +kernel
theorem dJ0_charAt_5068e_7 : decode cJ0_charAt_5068e 7 = .ok (.aload_n 0, 1) := by decide +kernel
theorem dJ0_charAt_5068e_8 : decode cJ0_charAt_5068e 8 = .ok (.getfield 9, 3) := by decide +kernel
theorem dJ0_charAt_5068e_11 : decode cJ0_charAt_5068e 11 = .ok (.iload_n 1, 1) := by decide +kernel
theorem dJ0_charAt_5068e_12 : decode cJ0_charAt_5068e 12 = .ok (.invokestatic 495, 3) := by decide +kernel
theorem dJ0_charAt_5068e_15 : decode cJ0_charAt_5068e 15 = .ok (.ireturn, 1) := by decide +kernel
theorem dJ0_charAt_5068e_16 : decode cJ0_charAt_5068e 16 = .ok (.aload_n 0, 1) := by decide +kernel
theorem dJ0_charAt_5068e_17 : decode cJ0_charAt_5068e 17 = .ok (.getfield 9, 3) := by decide +kernel
theorem dJ0_charAt_5068e_20 : decode cJ0_charAt_5068e 20 = .ok (.iload_n 1, 1) := by decide +kernel
theorem dJ0_charAt_5068e_21 : decode cJ0_charAt_5068e 21 = .ok (.invokestatic 498, 3) := by decide +kernel
theorem dJ0_charAt_5068e_24 : decode cJ0_charAt_5068e 24 = .ok (.ireturn, 1) := by decide +kernel
theorem dJ0_coder_7d493_0 : decode cJ0_coder_7d493 0 = .ok (.getstatic 38, 3) := by decide +kernel
theorem dJ0_coder_7d493_3 : decode cJ0_coder_7d493 3 = .ok (.ifCond .eq 10, 3) := by decide +kernel
theorem dJ0_coder_7d493_6 : decode cJ0_coder_7d493 6 = .ok (.aload_n 0, 1) := by decide +kernel
theorem dJ0_coder_7d493_7 : decode cJ0_coder_7d493 7 = .ok (.getfield 15, 3) := by decide +kernel
theorem dJ0_coder_7d493_10 : decode cJ0_coder_7d493 10 = .ok (.goto 4, 3) := by decide +kernel
theorem dJ0_coder_7d493_13 : decode cJ0_coder_7d493 13 = .ok (.iconst 1, 1) := by decide +kernel
theorem dJ0_coder_7d493_14 : decode cJ0_coder_7d493 14 = .ok (.ireturn, 1) := by decide +kernel
theorem dJ0_isLatin1_aae02_0 : decode cJ0_isLatin1_aae02 0 = .ok (.getstatic 38, 3) := by decide +kernel
theorem dJ0_isLatin1_aae02_3 : decode cJ0_isLatin1_aae02 3 = .ok (.ifCond .eq 14, 3) := by decide +kernel
theorem dJ0_isLatin1_aae02_6 : decode cJ0_isLatin1_aae02 6 = .ok (.aload_n 0, 1) := by decide +kernel
theorem dJ0_isLatin1_aae02_7 : decode cJ0_isLatin1_aae02 7 = .ok (.getfield 15, 3) := by decide +kernel
theorem dJ0_isLatin1_aae02_10 : decode cJ0_isLatin1_aae02 10 = .ok (.ifCond .ne 7, 3) := by decide +kernel
theorem dJ0_isLatin1_aae02_13 : decode cJ0_isLatin1_aae02 13 = .ok (.iconst 1, 1) := by decide +kernel
theorem dJ0_isLatin1_aae02_14 : decode cJ0_isLatin1_aae02 14 = .ok (.goto 4, 3) := by decide +kernel
theorem dJ0_isLatin1_aae02_17 : decode cJ0_isLatin1_aae02 17 = .ok (.iconst 0, 1) := by decide +kernel
theorem dJ0_isLatin1_aae02_18 : decode cJ0_isLatin1_aae02 18 = .ok (.ireturn, 1) := by decide +kernel
theorem dJ0_checkIndex_df160_0 : decode cJ0_checkIndex_df160 0 = .ok (.iload_n 0, 1) := by decide +kernel
theorem dJ0_checkIndex_df160_1 : decode cJ0_checkIndex_df160 1 = .ok (.iload_n 1, 1) := by decide +kernel
theorem dJ0_checkIndex_df160_2 : decode cJ0_checkIndex_df160 2 = .ok (.getstatic 1053, 3) := by decide +kernel
theorem dJ0_checkIndex_df160_5 : decode cJ0_checkIndex_df160 5 = .ok (.invokestatic 1059, 3) := by decide +kernel
theorem dJ0_checkIndex_df160_8 : decode cJ0_checkIndex_df160 8 = .ok (.pop, 1) := by decide +kernel
theorem dJ0_checkIndex_df160_9 : decode cJ0_checkIndex_df160 9 = .ok (.return_, 1) := by decide +kernel
theorem dJ1_charAt_3b067_0 : decode cJ1_charAt_3b067 0 = .ok (.iload_n 1, 1) := by decide +kernel
theorem dJ1_charAt_3b067_1 : decode cJ1_charAt_3b067 1 = .ok (.aload_n 0, 1) := by decide +kernel
theorem dJ1_charAt_3b067_2 : decode cJ1_charAt_3b067 2 = .ok (.arraylength, 1) := by decide +kernel
theorem dJ1_charAt_3b067_3 : decode cJ1_charAt_3b067 3 = .ok (.invokestatic 9, 3) := by decide +kernel
theorem dJ1_charAt_3b067_6 : decode cJ1_charAt_3b067 6 = .ok (.aload_n 0, 1) := by decide +kernel
theorem dJ1_charAt_3b067_7 : decode cJ1_charAt_3b067 7 = .ok (.iload_n 1, 1) := by decide +kernel
theorem dJ1_charAt_3b067_8 : decode cJ1_charAt_3b067 8 = .ok (.baload, 1) := by decide +kernel
theorem dJ1_charAt_3b067_9 : decode cJ1_charAt_3b067 9 = .ok (.sipush 255, 3) := by decide +kernel
theorem dJ1_charAt_3b067_12 : decode cJ1_charAt_3b067 12 = .ok (.iand, 1) := by decide +kernel
theorem dJ1_charAt_3b067_13 : decode cJ1_charAt_3b067 13 = .ok (.i2c, 1) := by decide +kernel
theorem dJ1_charAt_3b067_14 : decode cJ1_charAt_3b067 14 = .ok (.ireturn, 1) := by decide +kernel
theorem dJ2_getChar_3b067_0 : decode cJ2_getChar_3b067 0 = .ok (.getstatic 44, 3) := by decide +kernel
theorem dJ2_getChar_3b067_3 : decode cJ2_getChar_3b067 3 = .ok (.ifCond .ne 25, 3) := by decide +kernel
theorem dJ2_getChar_3b067_6 : decode cJ2_getChar_3b067 6 = .ok (.iload_n 1, 1) := by decide +kernel
theorem dJ2_getChar_3b067_7 : decode cJ2_getChar_3b067 7 = .ok (.ifCond .lt 11, 3) := by decide +kernel
theorem dJ2_getChar_3b067_10 : decode cJ2_getChar_3b067 10 = .ok (.iload_n 1, 1) := by decide +kernel
theorem dJ2_getChar_3b067_11 : decode cJ2_getChar_3b067 11 = .ok (.aload_n 0, 1) := by decide +kernel
theorem dJ2_getChar_3b067_12 : decode cJ2_getChar_3b067 12 = .ok (.invokestatic 48, 3) := by decide +kernel
theorem dJ2_getChar_3b067_15 : decode cJ2_getChar_3b067 15 = .ok (.if_icmp .lt 13, 3) := by decide +kernel
theorem dJ2_getChar_3b067_18 : decode cJ2_getChar_3b067 18 = .ok (.new 52, 3) := by decide +kernel
theorem dJ2_getChar_3b067_21 : decode cJ2_getChar_3b067 21 = .ok (.dup, 1) := by decide +kernel
theorem dJ2_getChar_3b067_22 : decode cJ2_getChar_3b067 22 = .ok (.ldc 54, 2) := by decide +kernel
theorem dJ2_getChar_3b067_24 : decode cJ2_getChar_3b067 24 = .ok (.invokespecial 56, 3) := by decide +kernel
theorem dJ2_getChar_3b067_27 : decode cJ2_getChar_3b067 27 = .ok (.athrow, 1) := by decide +kernel
theorem dJ2_getChar_3b067_28 : decode cJ2_getChar_3b067 28 = .ok (.iload_n 1, 1) := by decide +kernel
theorem dJ2_getChar_3b067_29 : decode cJ2_getChar_3b067 29 = .ok (.iconst 1, 1) := by decide +kernel
theorem dJ2_getChar_3b067_30 : decode cJ2_getChar_3b067 30 = .ok (.ishl, 1) := by decide +kernel
theorem dJ2_getChar_3b067_31 : decode cJ2_getChar_3b067 31 = .ok (.istore_n 1, 1) := by decide +kernel
theorem dJ2_getChar_3b067_32 : decode cJ2_getChar_3b067 32 = .ok (.aload_n 0, 1) := by decide +kernel
theorem dJ2_getChar_3b067_33 : decode cJ2_getChar_3b067 33 = .ok (.iload_n 1, 1) := by decide +kernel
theorem dJ2_getChar_3b067_34 : decode cJ2_getChar_3b067 34 = .ok (.iinc 1 1, 3) := by decide +kernel
theorem dJ2_getChar_3b067_37 : decode cJ2_getChar_3b067 37 = .ok (.baload, 1) := by decide +kernel
theorem dJ2_getChar_3b067_38 : decode cJ2_getChar_3b067 38 = .ok (.sipush 255, 3) := by decide +kernel
theorem dJ2_getChar_3b067_41 : decode cJ2_getChar_3b067 41 = .ok (.iand, 1) := by decide +kernel
theorem dJ2_getChar_3b067_42 : decode cJ2_getChar_3b067 42 = .ok (.getstatic 59, 3) := by decide +kernel
theorem dJ2_getChar_3b067_45 : decode cJ2_getChar_3b067 45 = .ok (.ishl, 1) := by decide +kernel
theorem dJ2_getChar_3b067_46 : decode cJ2_getChar_3b067 46 = .ok (.aload_n 0, 1) := by decide +kernel
theorem dJ2_getChar_3b067_47 : decode cJ2_getChar_3b067 47 = .ok (.iload_n 1, 1) := by decide +kernel
theorem dJ2_getChar_3b067_48 : decode cJ2_getChar_3b067 48 = .ok (.baload, 1) := by decide +kernel
theorem dJ2_getChar_3b067_49 : decode cJ2_getChar_3b067 49 = .ok (.sipush 255, 3) := by decide +kernel
theorem dJ2_getChar_3b067_52 : decode cJ2_getChar_3b067 52 = .ok (.iand, 1) := by decide +kernel
theorem dJ2_getChar_3b067_53 : decode cJ2_getChar_3b067 53 = .ok (.getstatic 63, 3) := by decide +kernel
theorem dJ2_getChar_3b067_56 : decode cJ2_getChar_3b067 56 = .ok (.ishl, 1) := by decide +kernel
theorem dJ2_getChar_3b067_57 : decode cJ2_getChar_3b067 57 = .ok (.ior, 1) := by decide +kernel
theorem dJ2_getChar_3b067_58 : decode cJ2_getChar_3b067 58 = .ok (.i2c, 1) := by decide +kernel
theorem dJ2_getChar_3b067_59 : decode cJ2_getChar_3b067 59 = .ok (.ireturn, 1) := by decide +kernel
theorem dJ2_length_9d52b_0 : decode cJ2_length_9d52b 0 = .ok (.aload_n 0, 1) := by decide +kernel
theorem dJ2_length_9d52b_1 : decode cJ2_length_9d52b 1 = .ok (.arraylength, 1) := by decide +kernel
theorem dJ2_length_9d52b_2 : decode cJ2_length_9d52b 2 = .ok (.iconst 1, 1) := by decide +kernel
theorem dJ2_length_9d52b_3 : decode cJ2_length_9d52b 3 = .ok (.ishr, 1) := by decide +kernel
theorem dJ2_length_9d52b_4 : decode cJ2_length_9d52b 4 = .ok (.ireturn, 1) := by decide +kernel
theorem dJ2_charAt_3b067_0 : decode cJ2_charAt_3b067 0 = .ok (.iload_n 1, 1) := by decide +kernel
theorem dJ2_charAt_3b067_1 : decode cJ2_charAt_3b067 1 = .ok (.aload_n 0, 1) := by decide +kernel
theorem dJ2_charAt_3b067_2 : decode cJ2_charAt_3b067 2 = .ok (.invokestatic 67, 3) := by decide +kernel
theorem dJ2_charAt_3b067_5 : decode cJ2_charAt_3b067 5 = .ok (.aload_n 0, 1) := by decide +kernel
theorem dJ2_charAt_3b067_6 : decode cJ2_charAt_3b067 6 = .ok (.iload_n 1, 1) := by decide +kernel
theorem dJ2_charAt_3b067_7 : decode cJ2_charAt_3b067 7 = .ok (.invokestatic 71, 3) := by decide +kernel
theorem dJ2_charAt_3b067_10 : decode cJ2_charAt_3b067 10 = .ok (.ireturn, 1) := by decide +kernel
theorem dJ2_checkIndex_2214a_0 : decode cJ2_checkIndex_2214a 0 = .ok (.iload_n 0, 1) := by decide +kernel
theorem dJ2_checkIndex_2214a_1 : decode cJ2_checkIndex_2214a 1 = .ok (.aload_n 1, 1) := by decide +kernel
theorem dJ2_checkIndex_2214a_2 : decode cJ2_checkIndex_2214a 2 = .ok (.invokestatic 48, 3) := by decide +kernel
theorem dJ2_checkIndex_2214a_5 : decode cJ2_checkIndex_2214a 5 = .ok (.invokestatic 414, 3) := by decide +kernel
theorem dJ2_checkIndex_2214a_8 : decode cJ2_checkIndex_2214a 8 = .ok (.return_, 1) := by decide +kernel
theorem dJ7_fill_d0a16_0 : decode cJ7_fill_d0a16 0 = .ok (.iconst 0, 1) := by decide +kernel
theorem dJ7_fill_d0a16_1 : decode cJ7_fill_d0a16 1 = .ok (.istore_n 3, 1) := by decide +kernel
theorem dJ7_fill_d0a16_2 : decode cJ7_fill_d0a16 2 = .ok (.aload_n 0, 1) := by decide +kernel
theorem dJ7_fill_d0a16_3 : decode cJ7_fill_d0a16 3 = .ok (.arraylength, 1) := by decide +kernel
theorem dJ7_fill_d0a16_4 : decode cJ7_fill_d0a16 4 = .ok (.istore 4, 2) := by decide +kernel
theorem dJ7_fill_d0a16_6 : decode cJ7_fill_d0a16 6 = .ok (.iload_n 3, 1) := by decide +kernel
theorem dJ7_fill_d0a16_7 : decode cJ7_fill_d0a16 7 = .ok (.iload 4, 2) := by decide +kernel
theorem dJ7_fill_d0a16_9 : decode cJ7_fill_d0a16 9 = .ok (.if_icmp .ge 13, 3) := by decide +kernel
theorem dJ7_fill_d0a16_12 : decode cJ7_fill_d0a16 12 = .ok (.aload_n 0, 1) := by decide +kernel
theorem dJ7_fill_d0a16_13 : decode cJ7_fill_d0a16 13 = .ok (.iload_n 3, 1) := by decide +kernel
theorem dJ7_fill_d0a16_14 : decode cJ7_fill_d0a16 14 = .ok (.lload_n 1, 1) := by decide +kernel
theorem dJ7_fill_d0a16_15 : decode cJ7_fill_d0a16 15 = .ok (.lastore, 1) := by decide +kernel
theorem dJ7_fill_d0a16_16 : decode cJ7_fill_d0a16 16 = .ok (.iinc 3 1, 3) := by decide +kernel
theorem dJ7_fill_d0a16_19 : decode cJ7_fill_d0a16 19 = .ok (.goto (-13), 3) := by decide +kernel
theorem dJ7_fill_d0a16_22 : decode cJ7_fill_d0a16 22 = .ok (.return_, 1) := by decide +kernel
theorem dJ7_fill_53178_0 : decode cJ7_fill_53178 0 = .ok (.iconst 0, 1) := by decide +kernel
theorem dJ7_fill_53178_1 : decode cJ7_fill_53178 1 = .ok (.istore_n 2, 1) := by decide +kernel
theorem dJ7_fill_53178_2 : decode cJ7_fill_53178 2 = .ok (.aload_n 0, 1) := by decide +kernel
theorem dJ7_fill_53178_3 : decode cJ7_fill_53178 3 = .ok (.arraylength, 1) := by decide +kernel
theorem dJ7_fill_53178_4 : decode cJ7_fill_53178 4 = .ok (.istore_n 3, 1) := by decide +kernel
theorem dJ7_fill_53178_5 : decode cJ7_fill_53178 5 = .ok (.iload_n 2, 1) := by decide +kernel
theorem dJ7_fill_53178_6 : decode cJ7_fill_53178 6 = .ok (.iload_n 3, 1) := by decide +kernel
theorem dJ7_fill_53178_7 : decode cJ7_fill_53178 7 = .ok (.if_icmp .ge 13, 3) := by decide +kernel
theorem dJ7_fill_53178_10 : decode cJ7_fill_53178 10 = .ok (.aload_n 0, 1) := by decide +kernel
theorem dJ7_fill_53178_11 : decode cJ7_fill_53178 11 = .ok (.iload_n 2, 1) := by decide +kernel
theorem dJ7_fill_53178_12 : decode cJ7_fill_53178 12 = .ok (.iload_n 1, 1) := by decide +kernel
theorem dJ7_fill_53178_13 : decode cJ7_fill_53178 13 = .ok (.iastore, 1) := by decide +kernel
theorem dJ7_fill_53178_14 : decode cJ7_fill_53178 14 = .ok (.iinc 2 1, 3) := by decide +kernel
theorem dJ7_fill_53178_17 : decode cJ7_fill_53178 17 = .ok (.goto (-12), 3) := by decide +kernel
theorem dJ7_fill_53178_20 : decode cJ7_fill_53178 20 = .ok (.return_, 1) := by decide +kernel
theorem dJ7_copyOf_59c91_0 : decode cJ7_copyOf_59c91 0 = .ok (.iload_n 1, 1) := by decide +kernel
theorem dJ7_copyOf_59c91_1 : decode cJ7_copyOf_59c91 1 = .ok (.aload_n 0, 1) := by decide +kernel
theorem dJ7_copyOf_59c91_2 : decode cJ7_copyOf_59c91 2 = .ok (.arraylength, 1) := by decide +kernel
theorem dJ7_copyOf_59c91_3 : decode cJ7_copyOf_59c91 3 = .ok (.if_icmp .ne 11, 3) := by decide +kernel
theorem dJ7_copyOf_59c91_6 : decode cJ7_copyOf_59c91 6 = .ok (.aload_n 0, 1) := by decide +kernel
theorem dJ7_copyOf_59c91_7 : decode cJ7_copyOf_59c91 7 = .ok (.invokevirtual 316, 3) := by decide +kernel
theorem dJ7_copyOf_59c91_10 : decode cJ7_copyOf_59c91 10 = .ok (.checkcast 317, 3) := by decide +kernel
theorem dJ7_copyOf_59c91_13 : decode cJ7_copyOf_59c91 13 = .ok (.areturn, 1) := by decide +kernel
theorem dJ7_copyOf_59c91_14 : decode cJ7_copyOf_59c91 14 = .ok (.iload_n 1, 1) := by decide +kernel
theorem dJ7_copyOf_59c91_15 : decode cJ7_copyOf_59c91 15 = .ok (.newarray .int, 2) := by decide +kernel
theorem dJ7_copyOf_59c91_17 : decode cJ7_copyOf_59c91 17 = .ok (.astore_n 2, 1) := by decide +kernel
theorem dJ7_copyOf_59c91_18 : decode cJ7_copyOf_59c91 18 = .ok (.aload_n 0, 1) := by decide +kernel
theorem dJ7_copyOf_59c91_19 : decode cJ7_copyOf_59c91 19 = .ok (.iconst 0, 1) := by decide +kernel
theorem dJ7_copyOf_59c91_20 : decode cJ7_copyOf_59c91 20 = .ok (.aload_n 2, 1) := by decide +kernel
theorem dJ7_copyOf_59c91_21 : decode cJ7_copyOf_59c91 21 = .ok (.iconst 0, 1) := by decide +kernel
theorem dJ7_copyOf_59c91_22 : decode cJ7_copyOf_59c91 22 = .ok (.aload_n 0, 1) := by decide +kernel
theorem dJ7_copyOf_59c91_23 : decode cJ7_copyOf_59c91 23 = .ok (.arraylength, 1) := by decide +kernel
theorem dJ7_copyOf_59c91_24 : decode cJ7_copyOf_59c91 24 = .ok (.iload_n 1, 1) := by decide +kernel
theorem dJ7_copyOf_59c91_25 : decode cJ7_copyOf_59c91 25 = .ok (.invokestatic 304, 3) := by decide +kernel
theorem dJ7_copyOf_59c91_28 : decode cJ7_copyOf_59c91 28 = .ok (.invokestatic 150, 3) := by decide +kernel
theorem dJ7_copyOf_59c91_31 : decode cJ7_copyOf_59c91 31 = .ok (.aload_n 2, 1) := by decide +kernel
theorem dJ7_copyOf_59c91_32 : decode cJ7_copyOf_59c91 32 = .ok (.areturn, 1) := by decide +kernel
theorem dJ3_checkIndex_8e157_0 : decode cJ3_checkIndex_8e157 0 = .ok (.iload_n 0, 1) := by decide +kernel
theorem dJ3_checkIndex_8e157_1 : decode cJ3_checkIndex_8e157 1 = .ok (.ifCond .lt 8, 3) := by decide +kernel
theorem dJ3_checkIndex_8e157_4 : decode cJ3_checkIndex_8e157 4 = .ok (.iload_n 0, 1) := by decide +kernel
theorem dJ3_checkIndex_8e157_5 : decode cJ3_checkIndex_8e157 5 = .ok (.iload_n 1, 1) := by decide +kernel
theorem dJ3_checkIndex_8e157_6 : decode cJ3_checkIndex_8e157 6 = .ok (.if_icmp .lt 10, 3) := by decide +kernel
theorem dJ3_checkIndex_8e157_9 : decode cJ3_checkIndex_8e157 9 = .ok (.aload_n 2, 1) := by decide +kernel
theorem dJ3_checkIndex_8e157_10 : decode cJ3_checkIndex_8e157 10 = .ok (.iload_n 0, 1) := by decide +kernel
theorem dJ3_checkIndex_8e157_11 : decode cJ3_checkIndex_8e157 11 = .ok (.iload_n 1, 1) := by decide +kernel
theorem dJ3_checkIndex_8e157_12 : decode cJ3_checkIndex_8e157 12 = .ok (.invokestatic 95, 3) := by decide +kernel
theorem dJ3_checkIndex_8e157_15 : decode cJ3_checkIndex_8e157 15 = .ok (.athrow, 1) := by decide +kernel
theorem dJ3_checkIndex_8e157_16 : decode cJ3_checkIndex_8e157 16 = .ok (.iload_n 0, 1) := by decide +kernel
theorem dJ3_checkIndex_8e157_17 : decode cJ3_checkIndex_8e157 17 = .ok (.ireturn, 1) := by decide +kernel
theorem dL_law_0 : decode cL_law 0 = .ok (.new 7, 3) := by decide +kernel
theorem dL_law_3 : decode cL_law 3 = .ok (.dup, 1) := by decide +kernel
theorem dL_law_4 : decode cL_law 4 = .ok (.invokespecial 9, 3) := by decide +kernel
theorem dL_law_7 : decode cL_law 7 = .ok (.astore_n 1, 1) := by decide +kernel
theorem dL_law_8 : decode cL_law 8 = .ok (.new 10, 3) := by decide +kernel
theorem dL_law_11 : decode cL_law 11 = .ok (.dup, 1) := by decide +kernel
theorem dL_law_12 : decode cL_law 12 = .ok (.invokespecial 12, 3) := by decide +kernel
theorem dL_law_15 : decode cL_law 15 = .ok (.astore_n 2, 1) := by decide +kernel
theorem dL_law_16 : decode cL_law 16 = .ok (.iconst 0, 1) := by decide +kernel
theorem dL_law_17 : decode cL_law 17 = .ok (.istore_n 3, 1) := by decide +kernel
theorem dL_law_18 : decode cL_law 18 = .ok (.iload_n 3, 1) := by decide +kernel
theorem dL_law_19 : decode cL_law 19 = .ok (.aload_n 0, 1) := by decide +kernel
theorem dL_law_20 : decode cL_law 20 = .ok (.arraylength, 1) := by decide +kernel
theorem dL_law_21 : decode cL_law 21 = .ok (.bipush 6, 2) := by decide +kernel
theorem dL_law_23 : decode cL_law 23 = .ok (.isub, 1) := by decide +kernel
theorem dL_law_24 : decode cL_law 24 = .ok (.if_icmp .gt 1258, 3) := by decide +kernel
theorem dL_law_27 : decode cL_law 27 = .ok (.aload_n 0, 1) := by decide +kernel
theorem dL_law_28 : decode cL_law 28 = .ok (.iload_n 3, 1) := by decide +kernel
theorem dL_law_29 : decode cL_law 29 = .ok (.iaload, 1) := by decide +kernel
theorem dL_law_30 : decode cL_law 30 = .ok (.bipush 63, 2) := by decide +kernel
theorem dL_law_32 : decode cL_law 32 = .ok (.iand, 1) := by decide +kernel
theorem dL_law_33 : decode cL_law 33 = .ok (.tableswitch 1243 0 41 #[183, 246, 269, 282, 305, 328, 361, 394, 417, 440, 454, 468, 541, 574, 607, 620, 664, 708, 722, 736, 750, 764, 788, 812, 846, 860, 893, 906, 919, 932, 955, 978, 1011, 1024, 1037, 1060, 1094, 1118, 1131, 1184, 1217, 1230], 183) := by decide +kernel
theorem dL_law_216 : decode cL_law 216 = .ok (.aload_n 1, 1) := by decide +kernel
theorem dL_law_217 : decode cL_law 217 = .ok (.aload_n 0, 1) := by decide +kernel
theorem dL_law_218 : decode cL_law 218 = .ok (.iload_n 3, 1) := by decide +kernel
theorem dL_law_219 : decode cL_law 219 = .ok (.iconst 1, 1) := by decide +kernel
theorem dL_law_220 : decode cL_law 220 = .ok (.iadd, 1) := by decide +kernel
theorem dL_law_221 : decode cL_law 221 = .ok (.iaload, 1) := by decide +kernel
theorem dL_law_222 : decode cL_law 222 = .ok (.aload_n 0, 1) := by decide +kernel
theorem dL_law_223 : decode cL_law 223 = .ok (.iload_n 3, 1) := by decide +kernel
theorem dL_law_224 : decode cL_law 224 = .ok (.iconst 2, 1) := by decide +kernel
theorem dL_law_225 : decode cL_law 225 = .ok (.iadd, 1) := by decide +kernel
theorem dL_law_226 : decode cL_law 226 = .ok (.iaload, 1) := by decide +kernel
theorem dL_law_227 : decode cL_law 227 = .ok (.aload_n 0, 1) := by decide +kernel
theorem dL_law_228 : decode cL_law 228 = .ok (.iload_n 3, 1) := by decide +kernel
theorem dL_law_229 : decode cL_law 229 = .ok (.iconst 3, 1) := by decide +kernel
theorem dL_law_230 : decode cL_law 230 = .ok (.iadd, 1) := by decide +kernel
theorem dL_law_231 : decode cL_law 231 = .ok (.iaload, 1) := by decide +kernel
theorem dL_law_232 : decode cL_law 232 = .ok (.aload_n 0, 1) := by decide +kernel
theorem dL_law_233 : decode cL_law 233 = .ok (.iload_n 3, 1) := by decide +kernel
theorem dL_law_234 : decode cL_law 234 = .ok (.iconst 4, 1) := by decide +kernel
theorem dL_law_235 : decode cL_law 235 = .ok (.iadd, 1) := by decide +kernel
theorem dL_law_236 : decode cL_law 236 = .ok (.iaload, 1) := by decide +kernel
theorem dL_law_237 : decode cL_law 237 = .ok (.aload_n 0, 1) := by decide +kernel
theorem dL_law_238 : decode cL_law 238 = .ok (.iload_n 3, 1) := by decide +kernel
theorem dL_law_239 : decode cL_law 239 = .ok (.iconst 5, 1) := by decide +kernel
theorem dL_law_240 : decode cL_law 240 = .ok (.iadd, 1) := by decide +kernel
theorem dL_law_241 : decode cL_law 241 = .ok (.iaload, 1) := by decide +kernel
theorem dL_law_242 : decode cL_law 242 = .ok (.invokevirtual 13, 3) := by decide +kernel
theorem dL_law_245 : decode cL_law 245 = .ok (.aload_n 2, 1) := by decide +kernel
theorem dL_law_246 : decode cL_law 246 = .ok (.aload_n 0, 1) := by decide +kernel
theorem dL_law_247 : decode cL_law 247 = .ok (.iload_n 3, 1) := by decide +kernel
theorem dL_law_248 : decode cL_law 248 = .ok (.iconst 1, 1) := by decide +kernel
theorem dL_law_249 : decode cL_law 249 = .ok (.iadd, 1) := by decide +kernel
theorem dL_law_250 : decode cL_law 250 = .ok (.iaload, 1) := by decide +kernel
theorem dL_law_251 : decode cL_law 251 = .ok (.aload_n 0, 1) := by decide +kernel
theorem dL_law_252 : decode cL_law 252 = .ok (.iload_n 3, 1) := by decide +kernel
theorem dL_law_253 : decode cL_law 253 = .ok (.iconst 2, 1) := by decide +kernel
theorem dL_law_254 : decode cL_law 254 = .ok (.iadd, 1) := by decide +kernel
theorem dL_law_255 : decode cL_law 255 = .ok (.iaload, 1) := by decide +kernel
theorem dL_law_256 : decode cL_law 256 = .ok (.aload_n 0, 1) := by decide +kernel
theorem dL_law_257 : decode cL_law 257 = .ok (.iload_n 3, 1) := by decide +kernel
theorem dL_law_258 : decode cL_law 258 = .ok (.iconst 3, 1) := by decide +kernel
theorem dL_law_259 : decode cL_law 259 = .ok (.iadd, 1) := by decide +kernel
theorem dL_law_260 : decode cL_law 260 = .ok (.iaload, 1) := by decide +kernel
theorem dL_law_261 : decode cL_law 261 = .ok (.aload_n 0, 1) := by decide +kernel
theorem dL_law_262 : decode cL_law 262 = .ok (.iload_n 3, 1) := by decide +kernel
theorem dL_law_263 : decode cL_law 263 = .ok (.iconst 4, 1) := by decide +kernel
theorem dL_law_264 : decode cL_law 264 = .ok (.iadd, 1) := by decide +kernel
theorem dL_law_265 : decode cL_law 265 = .ok (.iaload, 1) := by decide +kernel
theorem dL_law_266 : decode cL_law 266 = .ok (.aload_n 0, 1) := by decide +kernel
theorem dL_law_267 : decode cL_law 267 = .ok (.iload_n 3, 1) := by decide +kernel
theorem dL_law_268 : decode cL_law 268 = .ok (.iconst 5, 1) := by decide +kernel
theorem dL_law_269 : decode cL_law 269 = .ok (.iadd, 1) := by decide +kernel
theorem dL_law_270 : decode cL_law 270 = .ok (.iaload, 1) := by decide +kernel
theorem dL_law_271 : decode cL_law 271 = .ok (.invokevirtual 17, 3) := by decide +kernel
theorem dL_law_274 : decode cL_law 274 = .ok (.if_icmp .eq 1002, 3) := by decide +kernel
theorem dL_law_277 : decode cL_law 277 = .ok (.iconst 0, 1) := by decide +kernel
theorem dL_law_278 : decode cL_law 278 = .ok (.ireturn, 1) := by decide +kernel
theorem dL_law_279 : decode cL_law 279 = .ok (.aload_n 1, 1) := by decide +kernel
theorem dL_law_280 : decode cL_law 280 = .ok (.aload_n 0, 1) := by decide +kernel
theorem dL_law_281 : decode cL_law 281 = .ok (.iload_n 3, 1) := by decide +kernel
theorem dL_law_282 : decode cL_law 282 = .ok (.iconst 1, 1) := by decide +kernel
theorem dL_law_283 : decode cL_law 283 = .ok (.iadd, 1) := by decide +kernel
theorem dL_law_284 : decode cL_law 284 = .ok (.iaload, 1) := by decide +kernel
theorem dL_law_285 : decode cL_law 285 = .ok (.invokevirtual 18, 3) := by decide +kernel
theorem dL_law_288 : decode cL_law 288 = .ok (.aload_n 2, 1) := by decide +kernel
theorem dL_law_289 : decode cL_law 289 = .ok (.aload_n 0, 1) := by decide +kernel
theorem dL_law_290 : decode cL_law 290 = .ok (.iload_n 3, 1) := by decide +kernel
theorem dL_law_291 : decode cL_law 291 = .ok (.iconst 1, 1) := by decide +kernel
theorem dL_law_292 : decode cL_law 292 = .ok (.iadd, 1) := by decide +kernel
theorem dL_law_293 : decode cL_law 293 = .ok (.iaload, 1) := by decide +kernel
theorem dL_law_294 : decode cL_law 294 = .ok (.invokevirtual 22, 3) := by decide +kernel
theorem dL_law_297 : decode cL_law 297 = .ok (.if_icmp .eq 979, 3) := by decide +kernel
theorem dL_law_300 : decode cL_law 300 = .ok (.iconst 0, 1) := by decide +kernel
theorem dL_law_301 : decode cL_law 301 = .ok (.ireturn, 1) := by decide +kernel
theorem dL_law_302 : decode cL_law 302 = .ok (.aload_n 1, 1) := by decide +kernel
theorem dL_law_303 : decode cL_law 303 = .ok (.invokevirtual 23, 3) := by decide +kernel
theorem dL_law_306 : decode cL_law 306 = .ok (.aload_n 2, 1) := by decide +kernel
theorem dL_law_307 : decode cL_law 307 = .ok (.invokevirtual 27, 3) := by decide +kernel
theorem dL_law_310 : decode cL_law 310 = .ok (.if_icmp .eq 966, 3) := by decide +kernel
theorem dL_law_313 : decode cL_law 313 = .ok (.iconst 0, 1) := by decide +kernel
theorem dL_law_314 : decode cL_law 314 = .ok (.ireturn, 1) := by decide +kernel
theorem dL_law_315 : decode cL_law 315 = .ok (.aload_n 1, 1) := by decide +kernel
theorem dL_law_316 : decode cL_law 316 = .ok (.aload_n 0, 1) := by decide +kernel
theorem dL_law_317 : decode cL_law 317 = .ok (.iload_n 3, 1) := by decide +kernel
theorem dL_law_318 : decode cL_law 318 = .ok (.iconst 1, 1) := by decide +kernel
theorem dL_law_319 : decode cL_law 319 = .ok (.iadd, 1) := by decide +kernel
theorem dL_law_320 : decode cL_law 320 = .ok (.iaload, 1) := by decide +kernel
theorem dL_law_321 : decode cL_law 321 = .ok (.invokevirtual 28, 3) := by decide +kernel
theorem dL_law_324 : decode cL_law 324 = .ok (.aload_n 2, 1) := by decide +kernel
theorem dL_law_325 : decode cL_law 325 = .ok (.aload_n 0, 1) := by decide +kernel
theorem dL_law_326 : decode cL_law 326 = .ok (.iload_n 3, 1) := by decide +kernel
theorem dL_law_327 : decode cL_law 327 = .ok (.iconst 1, 1) := by decide +kernel
theorem dL_law_328 : decode cL_law 328 = .ok (.iadd, 1) := by decide +kernel
theorem dL_law_329 : decode cL_law 329 = .ok (.iaload, 1) := by decide +kernel
theorem dL_law_330 : decode cL_law 330 = .ok (.invokevirtual 31, 3) := by decide +kernel
theorem dL_law_333 : decode cL_law 333 = .ok (.if_icmp .eq 943, 3) := by decide +kernel
theorem dL_law_336 : decode cL_law 336 = .ok (.iconst 0, 1) := by decide +kernel
theorem dL_law_337 : decode cL_law 337 = .ok (.ireturn, 1) := by decide +kernel
theorem dL_law_338 : decode cL_law 338 = .ok (.aload_n 1, 1) := by decide +kernel
theorem dL_law_339 : decode cL_law 339 = .ok (.aload_n 0, 1) := by decide +kernel
theorem dL_law_340 : decode cL_law 340 = .ok (.iload_n 3, 1) := by decide +kernel
theorem dL_law_341 : decode cL_law 341 = .ok (.iconst 1, 1) := by decide +kernel
theorem dL_law_342 : decode cL_law 342 = .ok (.iadd, 1) := by decide +kernel
theorem dL_law_343 : decode cL_law 343 = .ok (.iaload, 1) := by decide +kernel
theorem dL_law_344 : decode cL_law 344 = .ok (.invokevirtual 32, 3) := by decide +kernel
theorem dL_law_347 : decode cL_law 347 = .ok (.aload_n 2, 1) := by decide +kernel
theorem dL_law_348 : decode cL_law 348 = .ok (.aload_n 0, 1) := by decide +kernel
theorem dL_law_349 : decode cL_law 349 = .ok (.iload_n 3, 1) := by decide +kernel
theorem dL_law_350 : decode cL_law 350 = .ok (.iconst 1, 1) := by decide +kernel
theorem dL_law_351 : decode cL_law 351 = .ok (.iadd, 1) := by decide +kernel
theorem dL_law_352 : decode cL_law 352 = .ok (.iaload, 1) := by decide +kernel
theorem dL_law_353 : decode cL_law 353 = .ok (.invokevirtual 35, 3) := by decide +kernel
theorem dL_law_356 : decode cL_law 356 = .ok (.if_icmp .eq 920, 3) := by decide +kernel
theorem dL_law_359 : decode cL_law 359 = .ok (.iconst 0, 1) := by decide +kernel
theorem dL_law_360 : decode cL_law 360 = .ok (.ireturn, 1) := by decide +kernel
theorem dL_law_361 : decode cL_law 361 = .ok (.aload_n 1, 1) := by decide +kernel
theorem dL_law_362 : decode cL_law 362 = .ok (.aload_n 0, 1) := by decide +kernel
theorem dL_law_363 : decode cL_law 363 = .ok (.iload_n 3, 1) := by decide +kernel
theorem dL_law_364 : decode cL_law 364 = .ok (.iconst 1, 1) := by decide +kernel
theorem dL_law_365 : decode cL_law 365 = .ok (.iadd, 1) := by decide +kernel
theorem dL_law_366 : decode cL_law 366 = .ok (.iaload, 1) := by decide +kernel
theorem dL_law_367 : decode cL_law 367 = .ok (.aload_n 0, 1) := by decide +kernel
theorem dL_law_368 : decode cL_law 368 = .ok (.iload_n 3, 1) := by decide +kernel
theorem dL_law_369 : decode cL_law 369 = .ok (.iconst 2, 1) := by decide +kernel
theorem dL_law_370 : decode cL_law 370 = .ok (.iadd, 1) := by decide +kernel
theorem dL_law_371 : decode cL_law 371 = .ok (.iaload, 1) := by decide +kernel
theorem dL_law_372 : decode cL_law 372 = .ok (.invokevirtual 36, 3) := by decide +kernel
theorem dL_law_375 : decode cL_law 375 = .ok (.aload_n 2, 1) := by decide +kernel
theorem dL_law_376 : decode cL_law 376 = .ok (.aload_n 0, 1) := by decide +kernel
theorem dL_law_377 : decode cL_law 377 = .ok (.iload_n 3, 1) := by decide +kernel
theorem dL_law_378 : decode cL_law 378 = .ok (.iconst 1, 1) := by decide +kernel
theorem dL_law_379 : decode cL_law 379 = .ok (.iadd, 1) := by decide +kernel
theorem dL_law_380 : decode cL_law 380 = .ok (.iaload, 1) := by decide +kernel
theorem dL_law_381 : decode cL_law 381 = .ok (.aload_n 0, 1) := by decide +kernel
theorem dL_law_382 : decode cL_law 382 = .ok (.iload_n 3, 1) := by decide +kernel
theorem dL_law_383 : decode cL_law 383 = .ok (.iconst 2, 1) := by decide +kernel
theorem dL_law_384 : decode cL_law 384 = .ok (.iadd, 1) := by decide +kernel
theorem dL_law_385 : decode cL_law 385 = .ok (.iaload, 1) := by decide +kernel
theorem dL_law_386 : decode cL_law 386 = .ok (.invokevirtual 40, 3) := by decide +kernel
theorem dL_law_389 : decode cL_law 389 = .ok (.if_icmp .eq 887, 3) := by decide +kernel
theorem dL_law_392 : decode cL_law 392 = .ok (.iconst 0, 1) := by decide +kernel
theorem dL_law_393 : decode cL_law 393 = .ok (.ireturn, 1) := by decide +kernel
theorem dL_law_394 : decode cL_law 394 = .ok (.aload_n 1, 1) := by decide +kernel
theorem dL_law_395 : decode cL_law 395 = .ok (.aload_n 0, 1) := by decide +kernel
theorem dL_law_396 : decode cL_law 396 = .ok (.iload_n 3, 1) := by decide +kernel
theorem dL_law_397 : decode cL_law 397 = .ok (.iconst 1, 1) := by decide +kernel
theorem dL_law_398 : decode cL_law 398 = .ok (.iadd, 1) := by decide +kernel
theorem dL_law_399 : decode cL_law 399 = .ok (.iaload, 1) := by decide +kernel
theorem dL_law_400 : decode cL_law 400 = .ok (.aload_n 0, 1) := by decide +kernel
theorem dL_law_401 : decode cL_law 401 = .ok (.iload_n 3, 1) := by decide +kernel
theorem dL_law_402 : decode cL_law 402 = .ok (.iconst 2, 1) := by decide +kernel
theorem dL_law_403 : decode cL_law 403 = .ok (.iadd, 1) := by decide +kernel
theorem dL_law_404 : decode cL_law 404 = .ok (.iaload, 1) := by decide +kernel
theorem dL_law_405 : decode cL_law 405 = .ok (.invokevirtual 41, 3) := by decide +kernel
theorem dL_law_408 : decode cL_law 408 = .ok (.aload_n 2, 1) := by decide +kernel
theorem dL_law_409 : decode cL_law 409 = .ok (.aload_n 0, 1) := by decide +kernel
theorem dL_law_410 : decode cL_law 410 = .ok (.iload_n 3, 1) := by decide +kernel
theorem dL_law_411 : decode cL_law 411 = .ok (.iconst 1, 1) := by decide +kernel
theorem dL_law_412 : decode cL_law 412 = .ok (.iadd, 1) := by decide +kernel
theorem dL_law_413 : decode cL_law 413 = .ok (.iaload, 1) := by decide +kernel
theorem dL_law_414 : decode cL_law 414 = .ok (.aload_n 0, 1) := by decide +kernel
theorem dL_law_415 : decode cL_law 415 = .ok (.iload_n 3, 1) := by decide +kernel
theorem dL_law_416 : decode cL_law 416 = .ok (.iconst 2, 1) := by decide +kernel
theorem dL_law_417 : decode cL_law 417 = .ok (.iadd, 1) := by decide +kernel
theorem dL_law_418 : decode cL_law 418 = .ok (.iaload, 1) := by decide +kernel
theorem dL_law_419 : decode cL_law 419 = .ok (.invokevirtual 44, 3) := by decide +kernel
theorem dL_law_422 : decode cL_law 422 = .ok (.if_icmp .eq 854, 3) := by decide +kernel
theorem dL_law_425 : decode cL_law 425 = .ok (.iconst 0, 1) := by decide +kernel
theorem dL_law_426 : decode cL_law 426 = .ok (.ireturn, 1) := by decide +kernel
theorem dL_law_427 : decode cL_law 427 = .ok (.aload_n 1, 1) := by decide +kernel
theorem dL_law_428 : decode cL_law 428 = .ok (.aload_n 0, 1) := by decide +kernel
theorem dL_law_429 : decode cL_law 429 = .ok (.iload_n 3, 1) := by decide +kernel
theorem dL_law_430 : decode cL_law 430 = .ok (.iconst 1, 1) := by decide +kernel
theorem dL_law_431 : decode cL_law 431 = .ok (.iadd, 1) := by decide +kernel
theorem dL_law_432 : decode cL_law 432 = .ok (.iaload, 1) := by decide +kernel
theorem dL_law_433 : decode cL_law 433 = .ok (.invokevirtual 45, 3) := by decide +kernel
theorem dL_law_436 : decode cL_law 436 = .ok (.aload_n 2, 1) := by decide +kernel
theorem dL_law_437 : decode cL_law 437 = .ok (.aload_n 0, 1) := by decide +kernel
theorem dL_law_438 : decode cL_law 438 = .ok (.iload_n 3, 1) := by decide +kernel
theorem dL_law_439 : decode cL_law 439 = .ok (.iconst 1, 1) := by decide +kernel
theorem dL_law_440 : decode cL_law 440 = .ok (.iadd, 1) := by decide +kernel
theorem dL_law_441 : decode cL_law 441 = .ok (.iaload, 1) := by decide +kernel
theorem dL_law_442 : decode cL_law 442 = .ok (.invokevirtual 48, 3) := by decide +kernel
theorem dL_law_445 : decode cL_law 445 = .ok (.if_icmp .eq 831, 3) := by decide +kernel
theorem dL_law_448 : decode cL_law 448 = .ok (.iconst 0, 1) := by decide +kernel
theorem dL_law_449 : decode cL_law 449 = .ok (.ireturn, 1) := by decide +kernel
theorem dL_law_450 : decode cL_law 450 = .ok (.aload_n 1, 1) := by decide +kernel
theorem dL_law_451 : decode cL_law 451 = .ok (.aload_n 0, 1) := by decide +kernel
theorem dL_law_452 : decode cL_law 452 = .ok (.iload_n 3, 1) := by decide +kernel
theorem dL_law_453 : decode cL_law 453 = .ok (.iconst 1, 1) := by decide +kernel
theorem dL_law_454 : decode cL_law 454 = .ok (.iadd, 1) := by decide +kernel
theorem dL_law_455 : decode cL_law 455 = .ok (.iaload, 1) := by decide +kernel
theorem dL_law_456 : decode cL_law 456 = .ok (.invokevirtual 49, 3) := by decide +kernel
theorem dL_law_459 : decode cL_law 459 = .ok (.aload_n 2, 1) := by decide +kernel
theorem dL_law_460 : decode cL_law 460 = .ok (.aload_n 0, 1) := by decide +kernel
theorem dL_law_461 : decode cL_law 461 = .ok (.iload_n 3, 1) := by decide +kernel
theorem dL_law_462 : decode cL_law 462 = .ok (.iconst 1, 1) := by decide +kernel
theorem dL_law_463 : decode cL_law 463 = .ok (.iadd, 1) := by decide +kernel
theorem dL_law_464 : decode cL_law 464 = .ok (.iaload, 1) := by decide +kernel
theorem dL_law_465 : decode cL_law 465 = .ok (.invokevirtual 52, 3) := by decide +kernel
theorem dL_law_468 : decode cL_law 468 = .ok (.if_icmp .eq 808, 3) := by decide +kernel
theorem dL_law_471 : decode cL_law 471 = .ok (.iconst 0, 1) := by decide +kernel
theorem dL_law_472 : decode cL_law 472 = .ok (.ireturn, 1) := by decide +kernel
theorem dL_law_473 : decode cL_law 473 = .ok (.aload_n 1, 1) := by decide +kernel
theorem dL_law_474 : decode cL_law 474 = .ok (.invokevirtual 53, 3) := by decide +kernel
theorem dL_law_477 : decode cL_law 477 = .ok (.aload_n 2, 1) := by decide +kernel
theorem dL_law_478 : decode cL_law 478 = .ok (.invokevirtual 57, 3) := by decide +kernel
theorem dL_law_481 : decode cL_law 481 = .ok (.lcmp, 1) := by decide +kernel
theorem dL_law_482 : decode cL_law 482 = .ok (.ifCond .eq 794, 3) := by decide +kernel
theorem dL_law_485 : decode cL_law 485 = .ok (.iconst 0, 1) := by decide +kernel
theorem dL_law_486 : decode cL_law 486 = .ok (.ireturn, 1) := by decide +kernel
theorem dL_law_487 : decode cL_law 487 = .ok (.aload_n 1, 1) := by decide +kernel
theorem dL_law_488 : decode cL_law 488 = .ok (.invokevirtual 58, 3) := by decide +kernel
theorem dL_law_491 : decode cL_law 491 = .ok (.aload_n 2, 1) := by decide +kernel
theorem dL_law_492 : decode cL_law 492 = .ok (.invokevirtual 61, 3) := by decide +kernel
theorem dL_law_495 : decode cL_law 495 = .ok (.lcmp, 1) := by decide +kernel
theorem dL_law_496 : decode cL_law 496 = .ok (.ifCond .eq 780, 3) := by decide +kernel
theorem dL_law_499 : decode cL_law 499 = .ok (.iconst 0, 1) := by decide +kernel
theorem dL_law_500 : decode cL_law 500 = .ok (.ireturn, 1) := by decide +kernel
theorem dL_law_501 : decode cL_law 501 = .ok (.aload_n 1, 1) := by decide +kernel
theorem dL_law_502 : decode cL_law 502 = .ok (.aload_n 0, 1) := by decide +kernel
theorem dL_law_503 : decode cL_law 503 = .ok (.iload_n 3, 1) := by decide +kernel
theorem dL_law_504 : decode cL_law 504 = .ok (.iconst 1, 1) := by decide +kernel
theorem dL_law_505 : decode cL_law 505 = .ok (.iadd, 1) := by decide +kernel
theorem dL_law_506 : decode cL_law 506 = .ok (.iaload, 1) := by decide +kernel
theorem dL_law_507 : decode cL_law 507 = .ok (.i2l, 1) := by decide +kernel
theorem dL_law_508 : decode cL_law 508 = .ok (.bipush 32, 2) := by decide +kernel
theorem dL_law_510 : decode cL_law 510 = .ok (.lshl, 1) := by decide +kernel
theorem dL_law_511 : decode cL_law 511 = .ok (.aload_n 0, 1) := by decide +kernel
theorem dL_law_512 : decode cL_law 512 = .ok (.iload_n 3, 1) := by decide +kernel
theorem dL_law_513 : decode cL_law 513 = .ok (.iconst 2, 1) := by decide +kernel
theorem dL_law_514 : decode cL_law 514 = .ok (.iadd, 1) := by decide +kernel
theorem dL_law_515 : decode cL_law 515 = .ok (.iaload, 1) := by decide +kernel
theorem dL_law_516 : decode cL_law 516 = .ok (.i2l, 1) := by decide +kernel
theorem dL_law_517 : decode cL_law 517 = .ok (.ldc2_w 62, 3) := by decide +kernel
theorem dL_law_520 : decode cL_law 520 = .ok (.land, 1) := by decide +kernel
theorem dL_law_521 : decode cL_law 521 = .ok (.lor, 1) := by decide +kernel
theorem dL_law_522 : decode cL_law 522 = .ok (.aload_n 0, 1) := by decide +kernel
theorem dL_law_523 : decode cL_law 523 = .ok (.iload_n 3, 1) := by decide +kernel
theorem dL_law_524 : decode cL_law 524 = .ok (.iconst 3, 1) := by decide +kernel
theorem dL_law_525 : decode cL_law 525 = .ok (.iadd, 1) := by decide +kernel
theorem dL_law_526 : decode cL_law 526 = .ok (.iaload, 1) := by decide +kernel
theorem dL_law_527 : decode cL_law 527 = .ok (.aload_n 0, 1) := by decide +kernel
theorem dL_law_528 : decode cL_law 528 = .ok (.iload_n 3, 1) := by decide +kernel
theorem dL_law_529 : decode cL_law 529 = .ok (.iconst 4, 1) := by decide +kernel
theorem dL_law_530 : decode cL_law 530 = .ok (.iadd, 1) := by decide +kernel
theorem dL_law_531 : decode cL_law 531 = .ok (.iaload, 1) := by decide +kernel
theorem dL_law_532 : decode cL_law 532 = .ok (.invokevirtual 64, 3) := by decide +kernel
theorem dL_law_535 : decode cL_law 535 = .ok (.aload_n 2, 1) := by decide +kernel
theorem dL_law_536 : decode cL_law 536 = .ok (.aload_n 0, 1) := by decide +kernel
theorem dL_law_537 : decode cL_law 537 = .ok (.iload_n 3, 1) := by decide +kernel
theorem dL_law_538 : decode cL_law 538 = .ok (.iconst 1, 1) := by decide +kernel
theorem dL_law_539 : decode cL_law 539 = .ok (.iadd, 1) := by decide +kernel
theorem dL_law_540 : decode cL_law 540 = .ok (.iaload, 1) := by decide +kernel
theorem dL_law_541 : decode cL_law 541 = .ok (.i2l, 1) := by decide +kernel
theorem dL_law_542 : decode cL_law 542 = .ok (.bipush 32, 2) := by decide +kernel
theorem dL_law_544 : decode cL_law 544 = .ok (.lshl, 1) := by decide +kernel
theorem dL_law_545 : decode cL_law 545 = .ok (.aload_n 0, 1) := by decide +kernel
theorem dL_law_546 : decode cL_law 546 = .ok (.iload_n 3, 1) := by decide +kernel
theorem dL_law_547 : decode cL_law 547 = .ok (.iconst 2, 1) := by decide +kernel
theorem dL_law_548 : decode cL_law 548 = .ok (.iadd, 1) := by decide +kernel
theorem dL_law_549 : decode cL_law 549 = .ok (.iaload, 1) := by decide +kernel
theorem dL_law_550 : decode cL_law 550 = .ok (.i2l, 1) := by decide +kernel
theorem dL_law_551 : decode cL_law 551 = .ok (.ldc2_w 62, 3) := by decide +kernel
theorem dL_law_554 : decode cL_law 554 = .ok (.land, 1) := by decide +kernel
theorem dL_law_555 : decode cL_law 555 = .ok (.lor, 1) := by decide +kernel
theorem dL_law_556 : decode cL_law 556 = .ok (.aload_n 0, 1) := by decide +kernel
theorem dL_law_557 : decode cL_law 557 = .ok (.iload_n 3, 1) := by decide +kernel
theorem dL_law_558 : decode cL_law 558 = .ok (.iconst 3, 1) := by decide +kernel
theorem dL_law_559 : decode cL_law 559 = .ok (.iadd, 1) := by decide +kernel
theorem dL_law_560 : decode cL_law 560 = .ok (.iaload, 1) := by decide +kernel
theorem dL_law_561 : decode cL_law 561 = .ok (.aload_n 0, 1) := by decide +kernel
theorem dL_law_562 : decode cL_law 562 = .ok (.iload_n 3, 1) := by decide +kernel
theorem dL_law_563 : decode cL_law 563 = .ok (.iconst 4, 1) := by decide +kernel
theorem dL_law_564 : decode cL_law 564 = .ok (.iadd, 1) := by decide +kernel
theorem dL_law_565 : decode cL_law 565 = .ok (.iaload, 1) := by decide +kernel
theorem dL_law_566 : decode cL_law 566 = .ok (.invokevirtual 68, 3) := by decide +kernel
theorem dL_law_569 : decode cL_law 569 = .ok (.if_icmp .eq 707, 3) := by decide +kernel
theorem dL_law_572 : decode cL_law 572 = .ok (.iconst 0, 1) := by decide +kernel
theorem dL_law_573 : decode cL_law 573 = .ok (.ireturn, 1) := by decide +kernel
theorem dL_law_574 : decode cL_law 574 = .ok (.aload_n 1, 1) := by decide +kernel
theorem dL_law_575 : decode cL_law 575 = .ok (.aload_n 0, 1) := by decide +kernel
theorem dL_law_576 : decode cL_law 576 = .ok (.iload_n 3, 1) := by decide +kernel
theorem dL_law_577 : decode cL_law 577 = .ok (.iconst 1, 1) := by decide +kernel
theorem dL_law_578 : decode cL_law 578 = .ok (.iadd, 1) := by decide +kernel
theorem dL_law_579 : decode cL_law 579 = .ok (.iaload, 1) := by decide +kernel
theorem dL_law_580 : decode cL_law 580 = .ok (.aload_n 0, 1) := by decide +kernel
theorem dL_law_581 : decode cL_law 581 = .ok (.iload_n 3, 1) := by decide +kernel
theorem dL_law_582 : decode cL_law 582 = .ok (.iconst 2, 1) := by decide +kernel
theorem dL_law_583 : decode cL_law 583 = .ok (.iadd, 1) := by decide +kernel
theorem dL_law_584 : decode cL_law 584 = .ok (.iaload, 1) := by decide +kernel
theorem dL_law_585 : decode cL_law 585 = .ok (.invokevirtual 69, 3) := by decide +kernel
theorem dL_law_588 : decode cL_law 588 = .ok (.aload_n 2, 1) := by decide +kernel
theorem dL_law_589 : decode cL_law 589 = .ok (.aload_n 0, 1) := by decide +kernel
theorem dL_law_590 : decode cL_law 590 = .ok (.iload_n 3, 1) := by decide +kernel
theorem dL_law_591 : decode cL_law 591 = .ok (.iconst 1, 1) := by decide +kernel
theorem dL_law_592 : decode cL_law 592 = .ok (.iadd, 1) := by decide +kernel
theorem dL_law_593 : decode cL_law 593 = .ok (.iaload, 1) := by decide +kernel
theorem dL_law_594 : decode cL_law 594 = .ok (.aload_n 0, 1) := by decide +kernel
theorem dL_law_595 : decode cL_law 595 = .ok (.iload_n 3, 1) := by decide +kernel
theorem dL_law_596 : decode cL_law 596 = .ok (.iconst 2, 1) := by decide +kernel
theorem dL_law_597 : decode cL_law 597 = .ok (.iadd, 1) := by decide +kernel
theorem dL_law_598 : decode cL_law 598 = .ok (.iaload, 1) := by decide +kernel
theorem dL_law_599 : decode cL_law 599 = .ok (.invokevirtual 72, 3) := by decide +kernel
theorem dL_law_602 : decode cL_law 602 = .ok (.if_icmp .eq 674, 3) := by decide +kernel
theorem dL_law_605 : decode cL_law 605 = .ok (.iconst 0, 1) := by decide +kernel
theorem dL_law_606 : decode cL_law 606 = .ok (.ireturn, 1) := by decide +kernel
theorem dL_law_607 : decode cL_law 607 = .ok (.aload_n 1, 1) := by decide +kernel
theorem dL_law_608 : decode cL_law 608 = .ok (.aload_n 0, 1) := by decide +kernel
theorem dL_law_609 : decode cL_law 609 = .ok (.iload_n 3, 1) := by decide +kernel
theorem dL_law_610 : decode cL_law 610 = .ok (.iconst 1, 1) := by decide +kernel
theorem dL_law_611 : decode cL_law 611 = .ok (.iadd, 1) := by decide +kernel
theorem dL_law_612 : decode cL_law 612 = .ok (.iaload, 1) := by decide +kernel
theorem dL_law_613 : decode cL_law 613 = .ok (.aload_n 0, 1) := by decide +kernel
theorem dL_law_614 : decode cL_law 614 = .ok (.iload_n 3, 1) := by decide +kernel
theorem dL_law_615 : decode cL_law 615 = .ok (.iconst 2, 1) := by decide +kernel
theorem dL_law_616 : decode cL_law 616 = .ok (.iadd, 1) := by decide +kernel
theorem dL_law_617 : decode cL_law 617 = .ok (.iaload, 1) := by decide +kernel
theorem dL_law_618 : decode cL_law 618 = .ok (.invokevirtual 73, 3) := by decide +kernel
theorem dL_law_621 : decode cL_law 621 = .ok (.aload_n 2, 1) := by decide +kernel
theorem dL_law_622 : decode cL_law 622 = .ok (.aload_n 0, 1) := by decide +kernel
theorem dL_law_623 : decode cL_law 623 = .ok (.iload_n 3, 1) := by decide +kernel
theorem dL_law_624 : decode cL_law 624 = .ok (.iconst 1, 1) := by decide +kernel
theorem dL_law_625 : decode cL_law 625 = .ok (.iadd, 1) := by decide +kernel
theorem dL_law_626 : decode cL_law 626 = .ok (.iaload, 1) := by decide +kernel
theorem dL_law_627 : decode cL_law 627 = .ok (.aload_n 0, 1) := by decide +kernel
theorem dL_law_628 : decode cL_law 628 = .ok (.iload_n 3, 1) := by decide +kernel
theorem dL_law_629 : decode cL_law 629 = .ok (.iconst 2, 1) := by decide +kernel
theorem dL_law_630 : decode cL_law 630 = .ok (.iadd, 1) := by decide +kernel
theorem dL_law_631 : decode cL_law 631 = .ok (.iaload, 1) := by decide +kernel
theorem dL_law_632 : decode cL_law 632 = .ok (.invokevirtual 76, 3) := by decide +kernel
theorem dL_law_635 : decode cL_law 635 = .ok (.if_icmp .eq 641, 3) := by decide +kernel
theorem dL_law_638 : decode cL_law 638 = .ok (.iconst 0, 1) := by decide +kernel
theorem dL_law_639 : decode cL_law 639 = .ok (.ireturn, 1) := by decide +kernel
theorem dL_law_640 : decode cL_law 640 = .ok (.aload_n 1, 1) := by decide +kernel
theorem dL_law_641 : decode cL_law 641 = .ok (.invokevirtual 77, 3) := by decide +kernel
theorem dL_law_644 : decode cL_law 644 = .ok (.aload_n 2, 1) := by decide +kernel
theorem dL_law_645 : decode cL_law 645 = .ok (.invokevirtual 80, 3) := by decide +kernel
theorem dL_law_648 : decode cL_law 648 = .ok (.if_icmp .eq 628, 3) := by decide +kernel
theorem dL_law_651 : decode cL_law 651 = .ok (.iconst 0, 1) := by decide +kernel
theorem dL_law_652 : decode cL_law 652 = .ok (.ireturn, 1) := by decide +kernel
theorem dL_law_653 : decode cL_law 653 = .ok (.aload_n 1, 1) := by decide +kernel
theorem dL_law_654 : decode cL_law 654 = .ok (.aload_n 0, 1) := by decide +kernel
theorem dL_law_655 : decode cL_law 655 = .ok (.iload_n 3, 1) := by decide +kernel
theorem dL_law_656 : decode cL_law 656 = .ok (.iconst 1, 1) := by decide +kernel
theorem dL_law_657 : decode cL_law 657 = .ok (.iadd, 1) := by decide +kernel
theorem dL_law_658 : decode cL_law 658 = .ok (.iaload, 1) := by decide +kernel
theorem dL_law_659 : decode cL_law 659 = .ok (.aload_n 0, 1) := by decide +kernel
theorem dL_law_660 : decode cL_law 660 = .ok (.iload_n 3, 1) := by decide +kernel
theorem dL_law_661 : decode cL_law 661 = .ok (.iconst 2, 1) := by decide +kernel
theorem dL_law_662 : decode cL_law 662 = .ok (.iadd, 1) := by decide +kernel
theorem dL_law_663 : decode cL_law 663 = .ok (.iaload, 1) := by decide +kernel
theorem dL_law_664 : decode cL_law 664 = .ok (.aload_n 0, 1) := by decide +kernel
theorem dL_law_665 : decode cL_law 665 = .ok (.iload_n 3, 1) := by decide +kernel
theorem dL_law_666 : decode cL_law 666 = .ok (.iconst 3, 1) := by decide +kernel
theorem dL_law_667 : decode cL_law 667 = .ok (.iadd, 1) := by decide +kernel
theorem dL_law_668 : decode cL_law 668 = .ok (.iaload, 1) := by decide +kernel
theorem dL_law_669 : decode cL_law 669 = .ok (.invokevirtual 81, 3) := by decide +kernel
theorem dL_law_672 : decode cL_law 672 = .ok (.aload_n 2, 1) := by decide +kernel
theorem dL_law_673 : decode cL_law 673 = .ok (.aload_n 0, 1) := by decide +kernel
theorem dL_law_674 : decode cL_law 674 = .ok (.iload_n 3, 1) := by decide +kernel
theorem dL_law_675 : decode cL_law 675 = .ok (.iconst 1, 1) := by decide +kernel
theorem dL_law_676 : decode cL_law 676 = .ok (.iadd, 1) := by decide +kernel
theorem dL_law_677 : decode cL_law 677 = .ok (.iaload, 1) := by decide +kernel
theorem dL_law_678 : decode cL_law 678 = .ok (.aload_n 0, 1) := by decide +kernel
theorem dL_law_679 : decode cL_law 679 = .ok (.iload_n 3, 1) := by decide +kernel
theorem dL_law_680 : decode cL_law 680 = .ok (.iconst 2, 1) := by decide +kernel
theorem dL_law_681 : decode cL_law 681 = .ok (.iadd, 1) := by decide +kernel
theorem dL_law_682 : decode cL_law 682 = .ok (.iaload, 1) := by decide +kernel
theorem dL_law_683 : decode cL_law 683 = .ok (.aload_n 0, 1) := by decide +kernel
theorem dL_law_684 : decode cL_law 684 = .ok (.iload_n 3, 1) := by decide +kernel
theorem dL_law_685 : decode cL_law 685 = .ok (.iconst 3, 1) := by decide +kernel
theorem dL_law_686 : decode cL_law 686 = .ok (.iadd, 1) := by decide +kernel
theorem dL_law_687 : decode cL_law 687 = .ok (.iaload, 1) := by decide +kernel
theorem dL_law_688 : decode cL_law 688 = .ok (.invokevirtual 85, 3) := by decide +kernel
theorem dL_law_691 : decode cL_law 691 = .ok (.lcmp, 1) := by decide +kernel
theorem dL_law_692 : decode cL_law 692 = .ok (.ifCond .eq 584, 3) := by decide +kernel
theorem dL_law_695 : decode cL_law 695 = .ok (.iconst 0, 1) := by decide +kernel
theorem dL_law_696 : decode cL_law 696 = .ok (.ireturn, 1) := by decide +kernel
theorem dL_law_697 : decode cL_law 697 = .ok (.aload_n 1, 1) := by decide +kernel
theorem dL_law_698 : decode cL_law 698 = .ok (.aload_n 0, 1) := by decide +kernel
theorem dL_law_699 : decode cL_law 699 = .ok (.iload_n 3, 1) := by decide +kernel
theorem dL_law_700 : decode cL_law 700 = .ok (.iconst 1, 1) := by decide +kernel
theorem dL_law_701 : decode cL_law 701 = .ok (.iadd, 1) := by decide +kernel
theorem dL_law_702 : decode cL_law 702 = .ok (.iaload, 1) := by decide +kernel
theorem dL_law_703 : decode cL_law 703 = .ok (.aload_n 0, 1) := by decide +kernel
theorem dL_law_704 : decode cL_law 704 = .ok (.iload_n 3, 1) := by decide +kernel
theorem dL_law_705 : decode cL_law 705 = .ok (.iconst 2, 1) := by decide +kernel
theorem dL_law_706 : decode cL_law 706 = .ok (.iadd, 1) := by decide +kernel
theorem dL_law_707 : decode cL_law 707 = .ok (.iaload, 1) := by decide +kernel
theorem dL_law_708 : decode cL_law 708 = .ok (.aload_n 0, 1) := by decide +kernel
theorem dL_law_709 : decode cL_law 709 = .ok (.iload_n 3, 1) := by decide +kernel
theorem dL_law_710 : decode cL_law 710 = .ok (.iconst 3, 1) := by decide +kernel
theorem dL_law_711 : decode cL_law 711 = .ok (.iadd, 1) := by decide +kernel
theorem dL_law_712 : decode cL_law 712 = .ok (.iaload, 1) := by decide +kernel
theorem dL_law_713 : decode cL_law 713 = .ok (.invokevirtual 86, 3) := by decide +kernel
theorem dL_law_716 : decode cL_law 716 = .ok (.aload_n 2, 1) := by decide +kernel
theorem dL_law_717 : decode cL_law 717 = .ok (.aload_n 0, 1) := by decide +kernel
theorem dL_law_718 : decode cL_law 718 = .ok (.iload_n 3, 1) := by decide +kernel
theorem dL_law_719 : decode cL_law 719 = .ok (.iconst 1, 1) := by decide +kernel
theorem dL_law_720 : decode cL_law 720 = .ok (.iadd, 1) := by decide +kernel
theorem dL_law_721 : decode cL_law 721 = .ok (.iaload, 1) := by decide +kernel
theorem dL_law_722 : decode cL_law 722 = .ok (.aload_n 0, 1) := by decide +kernel
theorem dL_law_723 : decode cL_law 723 = .ok (.iload_n 3, 1) := by decide +kernel
theorem dL_law_724 : decode cL_law 724 = .ok (.iconst 2, 1) := by decide +kernel
theorem dL_law_725 : decode cL_law 725 = .ok (.iadd, 1) := by decide +kernel
theorem dL_law_726 : decode cL_law 726 = .ok (.iaload, 1) := by decide +kernel
theorem dL_law_727 : decode cL_law 727 = .ok (.aload_n 0, 1) := by decide +kernel
theorem dL_law_728 : decode cL_law 728 = .ok (.iload_n 3, 1) := by decide +kernel
theorem dL_law_729 : decode cL_law 729 = .ok (.iconst 3, 1) := by decide +kernel
theorem dL_law_730 : decode cL_law 730 = .ok (.iadd, 1) := by decide +kernel
theorem dL_law_731 : decode cL_law 731 = .ok (.iaload, 1) := by decide +kernel
theorem dL_law_732 : decode cL_law 732 = .ok (.invokevirtual 89, 3) := by decide +kernel
theorem dL_law_735 : decode cL_law 735 = .ok (.lcmp, 1) := by decide +kernel
theorem dL_law_736 : decode cL_law 736 = .ok (.ifCond .eq 540, 3) := by decide +kernel
theorem dL_law_739 : decode cL_law 739 = .ok (.iconst 0, 1) := by decide +kernel
theorem dL_law_740 : decode cL_law 740 = .ok (.ireturn, 1) := by decide +kernel
theorem dL_law_741 : decode cL_law 741 = .ok (.aload_n 1, 1) := by decide +kernel
theorem dL_law_742 : decode cL_law 742 = .ok (.invokevirtual 90, 3) := by decide +kernel
theorem dL_law_745 : decode cL_law 745 = .ok (.aload_n 2, 1) := by decide +kernel
theorem dL_law_746 : decode cL_law 746 = .ok (.invokevirtual 93, 3) := by decide +kernel
theorem dL_law_749 : decode cL_law 749 = .ok (.lcmp, 1) := by decide +kernel
theorem dL_law_750 : decode cL_law 750 = .ok (.ifCond .eq 526, 3) := by decide +kernel
theorem dL_law_753 : decode cL_law 753 = .ok (.iconst 0, 1) := by decide +kernel
theorem dL_law_754 : decode cL_law 754 = .ok (.ireturn, 1) := by decide +kernel
theorem dL_law_755 : decode cL_law 755 = .ok (.aload_n 1, 1) := by decide +kernel
theorem dL_law_756 : decode cL_law 756 = .ok (.invokevirtual 94, 3) := by decide +kernel
theorem dL_law_759 : decode cL_law 759 = .ok (.aload_n 2, 1) := by decide +kernel
theorem dL_law_760 : decode cL_law 760 = .ok (.invokevirtual 97, 3) := by decide +kernel
theorem dL_law_763 : decode cL_law 763 = .ok (.lcmp, 1) := by decide +kernel
theorem dL_law_764 : decode cL_law 764 = .ok (.ifCond .eq 512, 3) := by decide +kernel
theorem dL_law_767 : decode cL_law 767 = .ok (.iconst 0, 1) := by decide +kernel
theorem dL_law_768 : decode cL_law 768 = .ok (.ireturn, 1) := by decide +kernel
theorem dL_law_769 : decode cL_law 769 = .ok (.aload_n 1, 1) := by decide +kernel
theorem dL_law_770 : decode cL_law 770 = .ok (.invokevirtual 98, 3) := by decide +kernel
theorem dL_law_773 : decode cL_law 773 = .ok (.aload_n 2, 1) := by decide +kernel
theorem dL_law_774 : decode cL_law 774 = .ok (.invokevirtual 101, 3) := by decide +kernel
theorem dL_law_777 : decode cL_law 777 = .ok (.lcmp, 1) := by decide +kernel
theorem dL_law_778 : decode cL_law 778 = .ok (.ifCond .eq 498, 3) := by decide +kernel
theorem dL_law_781 : decode cL_law 781 = .ok (.iconst 0, 1) := by decide +kernel
theorem dL_law_782 : decode cL_law 782 = .ok (.ireturn, 1) := by decide +kernel
theorem dL_law_783 : decode cL_law 783 = .ok (.aload_n 1, 1) := by decide +kernel
theorem dL_law_784 : decode cL_law 784 = .ok (.invokevirtual 102, 3) := by decide +kernel
theorem dL_law_787 : decode cL_law 787 = .ok (.aload_n 2, 1) := by decide +kernel
theorem dL_law_788 : decode cL_law 788 = .ok (.invokevirtual 105, 3) := by decide +kernel
theorem dL_law_791 : decode cL_law 791 = .ok (.lcmp, 1) := by decide +kernel
theorem dL_law_792 : decode cL_law 792 = .ok (.ifCond .eq 484, 3) := by decide +kernel
theorem dL_law_795 : decode cL_law 795 = .ok (.iconst 0, 1) := by decide +kernel
theorem dL_law_796 : decode cL_law 796 = .ok (.ireturn, 1) := by decide +kernel
theorem dL_law_797 : decode cL_law 797 = .ok (.aload_n 1, 1) := by decide +kernel
theorem dL_law_798 : decode cL_law 798 = .ok (.aload_n 0, 1) := by decide +kernel
theorem dL_law_799 : decode cL_law 799 = .ok (.iload_n 3, 1) := by decide +kernel
theorem dL_law_800 : decode cL_law 800 = .ok (.iconst 1, 1) := by decide +kernel
theorem dL_law_801 : decode cL_law 801 = .ok (.iadd, 1) := by decide +kernel
theorem dL_law_802 : decode cL_law 802 = .ok (.iaload, 1) := by decide +kernel
theorem dL_law_803 : decode cL_law 803 = .ok (.invokevirtual 106, 3) := by decide +kernel
theorem dL_law_806 : decode cL_law 806 = .ok (.aload_n 2, 1) := by decide +kernel
theorem dL_law_807 : decode cL_law 807 = .ok (.aload_n 0, 1) := by decide +kernel
theorem dL_law_808 : decode cL_law 808 = .ok (.iload_n 3, 1) := by decide +kernel
theorem dL_law_809 : decode cL_law 809 = .ok (.iconst 1, 1) := by decide +kernel
theorem dL_law_810 : decode cL_law 810 = .ok (.iadd, 1) := by decide +kernel
theorem dL_law_811 : decode cL_law 811 = .ok (.iaload, 1) := by decide +kernel
theorem dL_law_812 : decode cL_law 812 = .ok (.invokevirtual 110, 3) := by decide +kernel
theorem dL_law_815 : decode cL_law 815 = .ok (.lcmp, 1) := by decide +kernel
theorem dL_law_816 : decode cL_law 816 = .ok (.ifCond .eq 460, 3) := by decide +kernel
theorem dL_law_819 : decode cL_law 819 = .ok (.iconst 0, 1) := by decide +kernel
theorem dL_law_820 : decode cL_law 820 = .ok (.ireturn, 1) := by decide +kernel
theorem dL_law_821 : decode cL_law 821 = .ok (.aload_n 1, 1) := by decide +kernel
theorem dL_law_822 : decode cL_law 822 = .ok (.aload_n 0, 1) := by decide +kernel
theorem dL_law_823 : decode cL_law 823 = .ok (.iload_n 3, 1) := by decide +kernel
theorem dL_law_824 : decode cL_law 824 = .ok (.iconst 1, 1) := by decide +kernel
theorem dL_law_825 : decode cL_law 825 = .ok (.iadd, 1) := by decide +kernel
theorem dL_law_826 : decode cL_law 826 = .ok (.iaload, 1) := by decide +kernel
theorem dL_law_827 : decode cL_law 827 = .ok (.invokevirtual 111, 3) := by decide +kernel
theorem dL_law_830 : decode cL_law 830 = .ok (.aload_n 2, 1) := by decide +kernel
theorem dL_law_831 : decode cL_law 831 = .ok (.aload_n 0, 1) := by decide +kernel
theorem dL_law_832 : decode cL_law 832 = .ok (.iload_n 3, 1) := by decide +kernel
theorem dL_law_833 : decode cL_law 833 = .ok (.iconst 1, 1) := by decide +kernel
theorem dL_law_834 : decode cL_law 834 = .ok (.iadd, 1) := by decide +kernel
theorem dL_law_835 : decode cL_law 835 = .ok (.iaload, 1) := by decide +kernel
theorem dL_law_836 : decode cL_law 836 = .ok (.invokevirtual 114, 3) := by decide +kernel
theorem dL_law_839 : decode cL_law 839 = .ok (.lcmp, 1) := by decide +kernel
theorem dL_law_840 : decode cL_law 840 = .ok (.ifCond .eq 436, 3) := by decide +kernel
theorem dL_law_843 : decode cL_law 843 = .ok (.iconst 0, 1) := by decide +kernel
theorem dL_law_844 : decode cL_law 844 = .ok (.ireturn, 1) := by decide +kernel
theorem dL_law_845 : decode cL_law 845 = .ok (.aload_n 1, 1) := by decide +kernel
theorem dL_law_846 : decode cL_law 846 = .ok (.aload_n 0, 1) := by decide +kernel
theorem dL_law_847 : decode cL_law 847 = .ok (.iload_n 3, 1) := by decide +kernel
theorem dL_law_848 : decode cL_law 848 = .ok (.iconst 1, 1) := by decide +kernel
theorem dL_law_849 : decode cL_law 849 = .ok (.iadd, 1) := by decide +kernel
theorem dL_law_850 : decode cL_law 850 = .ok (.iaload, 1) := by decide +kernel
theorem dL_law_851 : decode cL_law 851 = .ok (.aload_n 0, 1) := by decide +kernel
theorem dL_law_852 : decode cL_law 852 = .ok (.iload_n 3, 1) := by decide +kernel
theorem dL_law_853 : decode cL_law 853 = .ok (.iconst 2, 1) := by decide +kernel
theorem dL_law_854 : decode cL_law 854 = .ok (.iadd, 1) := by decide +kernel
theorem dL_law_855 : decode cL_law 855 = .ok (.iaload, 1) := by decide +kernel
theorem dL_law_856 : decode cL_law 856 = .ok (.invokevirtual 115, 3) := by decide +kernel
theorem dL_law_859 : decode cL_law 859 = .ok (.aload_n 2, 1) := by decide +kernel
theorem dL_law_860 : decode cL_law 860 = .ok (.aload_n 0, 1) := by decide +kernel
theorem dL_law_861 : decode cL_law 861 = .ok (.iload_n 3, 1) := by decide +kernel
theorem dL_law_862 : decode cL_law 862 = .ok (.iconst 1, 1) := by decide +kernel
theorem dL_law_863 : decode cL_law 863 = .ok (.iadd, 1) := by decide +kernel
theorem dL_law_864 : decode cL_law 864 = .ok (.iaload, 1) := by decide +kernel
theorem dL_law_865 : decode cL_law 865 = .ok (.aload_n 0, 1) := by decide +kernel
theorem dL_law_866 : decode cL_law 866 = .ok (.iload_n 3, 1) := by decide +kernel
theorem dL_law_867 : decode cL_law 867 = .ok (.iconst 2, 1) := by decide +kernel
theorem dL_law_868 : decode cL_law 868 = .ok (.iadd, 1) := by decide +kernel
theorem dL_law_869 : decode cL_law 869 = .ok (.iaload, 1) := by decide +kernel
theorem dL_law_870 : decode cL_law 870 = .ok (.invokevirtual 119, 3) := by decide +kernel
theorem dL_law_873 : decode cL_law 873 = .ok (.lcmp, 1) := by decide +kernel
theorem dL_law_874 : decode cL_law 874 = .ok (.ifCond .eq 402, 3) := by decide +kernel
theorem dL_law_877 : decode cL_law 877 = .ok (.iconst 0, 1) := by decide +kernel
theorem dL_law_878 : decode cL_law 878 = .ok (.ireturn, 1) := by decide +kernel
theorem dL_law_879 : decode cL_law 879 = .ok (.aload_n 1, 1) := by decide +kernel
theorem dL_law_880 : decode cL_law 880 = .ok (.invokevirtual 120, 3) := by decide +kernel
theorem dL_law_883 : decode cL_law 883 = .ok (.aload_n 2, 1) := by decide +kernel
theorem dL_law_884 : decode cL_law 884 = .ok (.invokevirtual 123, 3) := by decide +kernel
theorem dL_law_887 : decode cL_law 887 = .ok (.lcmp, 1) := by decide +kernel
theorem dL_law_888 : decode cL_law 888 = .ok (.ifCond .eq 388, 3) := by decide +kernel
theorem dL_law_891 : decode cL_law 891 = .ok (.iconst 0, 1) := by decide +kernel
theorem dL_law_892 : decode cL_law 892 = .ok (.ireturn, 1) := by decide +kernel
theorem dL_law_893 : decode cL_law 893 = .ok (.aload_n 1, 1) := by decide +kernel
theorem dL_law_894 : decode cL_law 894 = .ok (.aload_n 0, 1) := by decide +kernel
theorem dL_law_895 : decode cL_law 895 = .ok (.iload_n 3, 1) := by decide +kernel
theorem dL_law_896 : decode cL_law 896 = .ok (.iconst 1, 1) := by decide +kernel
theorem dL_law_897 : decode cL_law 897 = .ok (.iadd, 1) := by decide +kernel
theorem dL_law_898 : decode cL_law 898 = .ok (.iaload, 1) := by decide +kernel
theorem dL_law_899 : decode cL_law 899 = .ok (.aload_n 0, 1) := by decide +kernel
theorem dL_law_900 : decode cL_law 900 = .ok (.iload_n 3, 1) := by decide +kernel
theorem dL_law_901 : decode cL_law 901 = .ok (.iconst 2, 1) := by decide +kernel
theorem dL_law_902 : decode cL_law 902 = .ok (.iadd, 1) := by decide +kernel
theorem dL_law_903 : decode cL_law 903 = .ok (.iaload, 1) := by decide +kernel
theorem dL_law_904 : decode cL_law 904 = .ok (.invokevirtual 124, 3) := by decide +kernel
theorem dL_law_907 : decode cL_law 907 = .ok (.aload_n 2, 1) := by decide +kernel
theorem dL_law_908 : decode cL_law 908 = .ok (.aload_n 0, 1) := by decide +kernel
theorem dL_law_909 : decode cL_law 909 = .ok (.iload_n 3, 1) := by decide +kernel
theorem dL_law_910 : decode cL_law 910 = .ok (.iconst 1, 1) := by decide +kernel
theorem dL_law_911 : decode cL_law 911 = .ok (.iadd, 1) := by decide +kernel
theorem dL_law_912 : decode cL_law 912 = .ok (.iaload, 1) := by decide +kernel
theorem dL_law_913 : decode cL_law 913 = .ok (.aload_n 0, 1) := by decide +kernel
theorem dL_law_914 : decode cL_law 914 = .ok (.iload_n 3, 1) := by decide +kernel
theorem dL_law_915 : decode cL_law 915 = .ok (.iconst 2, 1) := by decide +kernel
theorem dL_law_916 : decode cL_law 916 = .ok (.iadd, 1) := by decide +kernel
theorem dL_law_917 : decode cL_law 917 = .ok (.iaload, 1) := by decide +kernel
theorem dL_law_918 : decode cL_law 918 = .ok (.invokevirtual 127, 3) := by decide +kernel
theorem dL_law_921 : decode cL_law 921 = .ok (.if_icmp .eq 355, 3) := by decide +kernel
theorem dL_law_924 : decode cL_law 924 = .ok (.iconst 0, 1) := by decide +kernel
theorem dL_law_925 : decode cL_law 925 = .ok (.ireturn, 1) := by decide +kernel
theorem dL_law_926 : decode cL_law 926 = .ok (.aload_n 1, 1) := by decide +kernel
theorem dL_law_927 : decode cL_law 927 = .ok (.invokevirtual 128, 3) := by decide +kernel
theorem dL_law_930 : decode cL_law 930 = .ok (.aload_n 2, 1) := by decide +kernel
theorem dL_law_931 : decode cL_law 931 = .ok (.invokevirtual 131, 3) := by decide +kernel
theorem dL_law_934 : decode cL_law 934 = .ok (.if_icmp .eq 342, 3) := by decide +kernel
theorem dL_law_937 : decode cL_law 937 = .ok (.iconst 0, 1) := by decide +kernel
theorem dL_law_938 : decode cL_law 938 = .ok (.ireturn, 1) := by decide +kernel
theorem dL_law_939 : decode cL_law 939 = .ok (.aload_n 1, 1) := by decide +kernel
theorem dL_law_940 : decode cL_law 940 = .ok (.invokevirtual 132, 3) := by decide +kernel
theorem dL_law_943 : decode cL_law 943 = .ok (.aload_n 2, 1) := by decide +kernel
theorem dL_law_944 : decode cL_law 944 = .ok (.invokevirtual 135, 3) := by decide +kernel
theorem dL_law_947 : decode cL_law 947 = .ok (.if_icmp .eq 329, 3) := by decide +kernel
theorem dL_law_950 : decode cL_law 950 = .ok (.iconst 0, 1) := by decide +kernel
theorem dL_law_951 : decode cL_law 951 = .ok (.ireturn, 1) := by decide +kernel
theorem dL_law_952 : decode cL_law 952 = .ok (.aload_n 1, 1) := by decide +kernel
theorem dL_law_953 : decode cL_law 953 = .ok (.invokevirtual 136, 3) := by decide +kernel
theorem dL_law_956 : decode cL_law 956 = .ok (.aload_n 2, 1) := by decide +kernel
theorem dL_law_957 : decode cL_law 957 = .ok (.invokevirtual 139, 3) := by decide +kernel
theorem dL_law_960 : decode cL_law 960 = .ok (.if_icmp .eq 316, 3) := by decide +kernel
theorem dL_law_963 : decode cL_law 963 = .ok (.iconst 0, 1) := by decide +kernel
theorem dL_law_964 : decode cL_law 964 = .ok (.ireturn, 1) := by decide +kernel
theorem dL_law_965 : decode cL_law 965 = .ok (.aload_n 1, 1) := by decide +kernel
theorem dL_law_966 : decode cL_law 966 = .ok (.aload_n 0, 1) := by decide +kernel
theorem dL_law_967 : decode cL_law 967 = .ok (.iload_n 3, 1) := by decide +kernel
theorem dL_law_968 : decode cL_law 968 = .ok (.iconst 1, 1) := by decide +kernel
theorem dL_law_969 : decode cL_law 969 = .ok (.iadd, 1) := by decide +kernel
theorem dL_law_970 : decode cL_law 970 = .ok (.iaload, 1) := by decide +kernel
theorem dL_law_971 : decode cL_law 971 = .ok (.invokevirtual 140, 3) := by decide +kernel
theorem dL_law_974 : decode cL_law 974 = .ok (.aload_n 2, 1) := by decide +kernel
theorem dL_law_975 : decode cL_law 975 = .ok (.aload_n 0, 1) := by decide +kernel
theorem dL_law_976 : decode cL_law 976 = .ok (.iload_n 3, 1) := by decide +kernel
theorem dL_law_977 : decode cL_law 977 = .ok (.iconst 1, 1) := by decide +kernel
theorem dL_law_978 : decode cL_law 978 = .ok (.iadd, 1) := by decide +kernel
theorem dL_law_979 : decode cL_law 979 = .ok (.iaload, 1) := by decide +kernel
theorem dL_law_980 : decode cL_law 980 = .ok (.invokevirtual 143, 3) := by decide +kernel
theorem dL_law_983 : decode cL_law 983 = .ok (.if_icmp .eq 293, 3) := by decide +kernel
theorem dL_law_986 : decode cL_law 986 = .ok (.iconst 0, 1) := by decide +kernel
theorem dL_law_987 : decode cL_law 987 = .ok (.ireturn, 1) := by decide +kernel
theorem dL_law_988 : decode cL_law 988 = .ok (.aload_n 1, 1) := by decide +kernel
theorem dL_law_989 : decode cL_law 989 = .ok (.aload_n 0, 1) := by decide +kernel
theorem dL_law_990 : decode cL_law 990 = .ok (.iload_n 3, 1) := by decide +kernel
theorem dL_law_991 : decode cL_law 991 = .ok (.iconst 1, 1) := by decide +kernel
theorem dL_law_992 : decode cL_law 992 = .ok (.iadd, 1) := by decide +kernel
theorem dL_law_993 : decode cL_law 993 = .ok (.iaload, 1) := by decide +kernel
theorem dL_law_994 : decode cL_law 994 = .ok (.invokevirtual 144, 3) := by decide +kernel
theorem dL_law_997 : decode cL_law 997 = .ok (.aload_n 2, 1) := by decide +kernel
theorem dL_law_998 : decode cL_law 998 = .ok (.aload_n 0, 1) := by decide +kernel
theorem dL_law_999 : decode cL_law 999 = .ok (.iload_n 3, 1) := by decide +kernel
theorem dL_law_1000 : decode cL_law 1000 = .ok (.iconst 1, 1) := by decide +kernel
theorem dL_law_1001 : decode cL_law 1001 = .ok (.iadd, 1) := by decide +kernel
theorem dL_law_1002 : decode cL_law 1002 = .ok (.iaload, 1) := by decide +kernel
theorem dL_law_1003 : decode cL_law 1003 = .ok (.invokevirtual 147, 3) := by decide +kernel
theorem dL_law_1006 : decode cL_law 1006 = .ok (.if_icmp .eq 270, 3) := by decide +kernel
theorem dL_law_1009 : decode cL_law 1009 = .ok (.iconst 0, 1) := by decide +kernel
theorem dL_law_1010 : decode cL_law 1010 = .ok (.ireturn, 1) := by decide +kernel
theorem dL_law_1011 : decode cL_law 1011 = .ok (.aload_n 1, 1) := by decide +kernel
theorem dL_law_1012 : decode cL_law 1012 = .ok (.aload_n 0, 1) := by decide +kernel
theorem dL_law_1013 : decode cL_law 1013 = .ok (.iload_n 3, 1) := by decide +kernel
theorem dL_law_1014 : decode cL_law 1014 = .ok (.iconst 1, 1) := by decide +kernel
theorem dL_law_1015 : decode cL_law 1015 = .ok (.iadd, 1) := by decide +kernel
theorem dL_law_1016 : decode cL_law 1016 = .ok (.iaload, 1) := by decide +kernel
theorem dL_law_1017 : decode cL_law 1017 = .ok (.aload_n 0, 1) := by decide +kernel
theorem dL_law_1018 : decode cL_law 1018 = .ok (.iload_n 3, 1) := by decide +kernel
theorem dL_law_1019 : decode cL_law 1019 = .ok (.iconst 2, 1) := by decide +kernel
theorem dL_law_1020 : decode cL_law 1020 = .ok (.iadd, 1) := by decide +kernel
theorem dL_law_1021 : decode cL_law 1021 = .ok (.iaload, 1) := by decide +kernel
theorem dL_law_1022 : decode cL_law 1022 = .ok (.invokevirtual 148, 3) := by decide +kernel
theorem dL_law_1025 : decode cL_law 1025 = .ok (.aload_n 2, 1) := by decide +kernel
theorem dL_law_1026 : decode cL_law 1026 = .ok (.aload_n 0, 1) := by decide +kernel
theorem dL_law_1027 : decode cL_law 1027 = .ok (.iload_n 3, 1) := by decide +kernel
theorem dL_law_1028 : decode cL_law 1028 = .ok (.iconst 1, 1) := by decide +kernel
theorem dL_law_1029 : decode cL_law 1029 = .ok (.iadd, 1) := by decide +kernel
theorem dL_law_1030 : decode cL_law 1030 = .ok (.iaload, 1) := by decide +kernel
theorem dL_law_1031 : decode cL_law 1031 = .ok (.aload_n 0, 1) := by decide +kernel
theorem dL_law_1032 : decode cL_law 1032 = .ok (.iload_n 3, 1) := by decide +kernel
theorem dL_law_1033 : decode cL_law 1033 = .ok (.iconst 2, 1) := by decide +kernel
theorem dL_law_1034 : decode cL_law 1034 = .ok (.iadd, 1) := by decide +kernel
theorem dL_law_1035 : decode cL_law 1035 = .ok (.iaload, 1) := by decide +kernel
theorem dL_law_1036 : decode cL_law 1036 = .ok (.invokevirtual 151, 3) := by decide +kernel
theorem dL_law_1039 : decode cL_law 1039 = .ok (.if_icmp .eq 237, 3) := by decide +kernel
theorem dL_law_1042 : decode cL_law 1042 = .ok (.iconst 0, 1) := by decide +kernel
theorem dL_law_1043 : decode cL_law 1043 = .ok (.ireturn, 1) := by decide +kernel
theorem dL_law_1044 : decode cL_law 1044 = .ok (.aload_n 1, 1) := by decide +kernel
theorem dL_law_1045 : decode cL_law 1045 = .ok (.invokevirtual 152, 3) := by decide +kernel
theorem dL_law_1048 : decode cL_law 1048 = .ok (.aload_n 2, 1) := by decide +kernel
theorem dL_law_1049 : decode cL_law 1049 = .ok (.invokevirtual 155, 3) := by decide +kernel
theorem dL_law_1052 : decode cL_law 1052 = .ok (.if_icmp .eq 224, 3) := by decide +kernel
theorem dL_law_1055 : decode cL_law 1055 = .ok (.iconst 0, 1) := by decide +kernel
theorem dL_law_1056 : decode cL_law 1056 = .ok (.ireturn, 1) := by decide +kernel
theorem dL_law_1057 : decode cL_law 1057 = .ok (.aload_n 1, 1) := by decide +kernel
theorem dL_law_1058 : decode cL_law 1058 = .ok (.invokevirtual 156, 3) := by decide +kernel
theorem dL_law_1061 : decode cL_law 1061 = .ok (.aload_n 2, 1) := by decide +kernel
theorem dL_law_1062 : decode cL_law 1062 = .ok (.invokevirtual 159, 3) := by decide +kernel
theorem dL_law_1065 : decode cL_law 1065 = .ok (.if_icmp .eq 211, 3) := by decide +kernel
theorem dL_law_1068 : decode cL_law 1068 = .ok (.iconst 0, 1) := by decide +kernel
theorem dL_law_1069 : decode cL_law 1069 = .ok (.ireturn, 1) := by decide +kernel
theorem dL_law_1070 : decode cL_law 1070 = .ok (.aload_n 1, 1) := by decide +kernel
theorem dL_law_1071 : decode cL_law 1071 = .ok (.aload_n 0, 1) := by decide +kernel
theorem dL_law_1072 : decode cL_law 1072 = .ok (.iload_n 3, 1) := by decide +kernel
theorem dL_law_1073 : decode cL_law 1073 = .ok (.iconst 1, 1) := by decide +kernel
theorem dL_law_1074 : decode cL_law 1074 = .ok (.iadd, 1) := by decide +kernel
theorem dL_law_1075 : decode cL_law 1075 = .ok (.iaload, 1) := by decide +kernel
theorem dL_law_1076 : decode cL_law 1076 = .ok (.invokevirtual 160, 3) := by decide +kernel
theorem dL_law_1079 : decode cL_law 1079 = .ok (.aload_n 2, 1) := by decide +kernel
theorem dL_law_1080 : decode cL_law 1080 = .ok (.aload_n 0, 1) := by decide +kernel
theorem dL_law_1081 : decode cL_law 1081 = .ok (.iload_n 3, 1) := by decide +kernel
theorem dL_law_1082 : decode cL_law 1082 = .ok (.iconst 1, 1) := by decide +kernel
theorem dL_law_1083 : decode cL_law 1083 = .ok (.iadd, 1) := by decide +kernel
theorem dL_law_1084 : decode cL_law 1084 = .ok (.iaload, 1) := by decide +kernel
theorem dL_law_1085 : decode cL_law 1085 = .ok (.invokevirtual 163, 3) := by decide +kernel
theorem dL_law_1088 : decode cL_law 1088 = .ok (.if_icmp .eq 188, 3) := by decide +kernel
theorem dL_law_1091 : decode cL_law 1091 = .ok (.iconst 0, 1) := by decide +kernel
theorem dL_law_1092 : decode cL_law 1092 = .ok (.ireturn, 1) := by decide +kernel
theorem dL_law_1093 : decode cL_law 1093 = .ok (.aload_n 1, 1) := by decide +kernel
theorem dL_law_1094 : decode cL_law 1094 = .ok (.aload_n 0, 1) := by decide +kernel
theorem dL_law_1095 : decode cL_law 1095 = .ok (.iload_n 3, 1) := by decide +kernel
theorem dL_law_1096 : decode cL_law 1096 = .ok (.iconst 1, 1) := by decide +kernel
theorem dL_law_1097 : decode cL_law 1097 = .ok (.iadd, 1) := by decide +kernel
theorem dL_law_1098 : decode cL_law 1098 = .ok (.iaload, 1) := by decide +kernel
theorem dL_law_1099 : decode cL_law 1099 = .ok (.aload_n 0, 1) := by decide +kernel
theorem dL_law_1100 : decode cL_law 1100 = .ok (.iload_n 3, 1) := by decide +kernel
theorem dL_law_1101 : decode cL_law 1101 = .ok (.iconst 2, 1) := by decide +kernel
theorem dL_law_1102 : decode cL_law 1102 = .ok (.iadd, 1) := by decide +kernel
theorem dL_law_1103 : decode cL_law 1103 = .ok (.iaload, 1) := by decide +kernel
theorem dL_law_1104 : decode cL_law 1104 = .ok (.invokevirtual 164, 3) := by decide +kernel
theorem dL_law_1107 : decode cL_law 1107 = .ok (.aload_n 2, 1) := by decide +kernel
theorem dL_law_1108 : decode cL_law 1108 = .ok (.aload_n 0, 1) := by decide +kernel
theorem dL_law_1109 : decode cL_law 1109 = .ok (.iload_n 3, 1) := by decide +kernel
theorem dL_law_1110 : decode cL_law 1110 = .ok (.iconst 1, 1) := by decide +kernel
theorem dL_law_1111 : decode cL_law 1111 = .ok (.iadd, 1) := by decide +kernel
theorem dL_law_1112 : decode cL_law 1112 = .ok (.iaload, 1) := by decide +kernel
theorem dL_law_1113 : decode cL_law 1113 = .ok (.aload_n 0, 1) := by decide +kernel
theorem dL_law_1114 : decode cL_law 1114 = .ok (.iload_n 3, 1) := by decide +kernel
theorem dL_law_1115 : decode cL_law 1115 = .ok (.iconst 2, 1) := by decide +kernel
theorem dL_law_1116 : decode cL_law 1116 = .ok (.iadd, 1) := by decide +kernel
theorem dL_law_1117 : decode cL_law 1117 = .ok (.iaload, 1) := by decide +kernel
theorem dL_law_1118 : decode cL_law 1118 = .ok (.invokevirtual 167, 3) := by decide +kernel
theorem dL_law_1121 : decode cL_law 1121 = .ok (.lcmp, 1) := by decide +kernel
theorem dL_law_1122 : decode cL_law 1122 = .ok (.ifCond .eq 154, 3) := by decide +kernel
theorem dL_law_1125 : decode cL_law 1125 = .ok (.iconst 0, 1) := by decide +kernel
theorem dL_law_1126 : decode cL_law 1126 = .ok (.ireturn, 1) := by decide +kernel
theorem dL_law_1127 : decode cL_law 1127 = .ok (.aload_n 1, 1) := by decide +kernel
theorem dL_law_1128 : decode cL_law 1128 = .ok (.aload_n 0, 1) := by decide +kernel
theorem dL_law_1129 : decode cL_law 1129 = .ok (.iload_n 3, 1) := by decide +kernel
theorem dL_law_1130 : decode cL_law 1130 = .ok (.iconst 1, 1) := by decide +kernel
theorem dL_law_1131 : decode cL_law 1131 = .ok (.iadd, 1) := by decide +kernel
theorem dL_law_1132 : decode cL_law 1132 = .ok (.iaload, 1) := by decide +kernel
theorem dL_law_1133 : decode cL_law 1133 = .ok (.invokevirtual 168, 3) := by decide +kernel
theorem dL_law_1136 : decode cL_law 1136 = .ok (.aload_n 2, 1) := by decide +kernel
theorem dL_law_1137 : decode cL_law 1137 = .ok (.aload_n 0, 1) := by decide +kernel
theorem dL_law_1138 : decode cL_law 1138 = .ok (.iload_n 3, 1) := by decide +kernel
theorem dL_law_1139 : decode cL_law 1139 = .ok (.iconst 1, 1) := by decide +kernel
theorem dL_law_1140 : decode cL_law 1140 = .ok (.iadd, 1) := by decide +kernel
theorem dL_law_1141 : decode cL_law 1141 = .ok (.iaload, 1) := by decide +kernel
theorem dL_law_1142 : decode cL_law 1142 = .ok (.invokevirtual 171, 3) := by decide +kernel
theorem dL_law_1145 : decode cL_law 1145 = .ok (.lcmp, 1) := by decide +kernel
theorem dL_law_1146 : decode cL_law 1146 = .ok (.ifCond .eq 130, 3) := by decide +kernel
theorem dL_law_1149 : decode cL_law 1149 = .ok (.iconst 0, 1) := by decide +kernel
theorem dL_law_1150 : decode cL_law 1150 = .ok (.ireturn, 1) := by decide +kernel
theorem dL_law_1151 : decode cL_law 1151 = .ok (.aload_n 1, 1) := by decide +kernel
theorem dL_law_1152 : decode cL_law 1152 = .ok (.invokevirtual 172, 3) := by decide +kernel
theorem dL_law_1155 : decode cL_law 1155 = .ok (.aload_n 2, 1) := by decide +kernel
theorem dL_law_1156 : decode cL_law 1156 = .ok (.invokevirtual 175, 3) := by decide +kernel
theorem dL_law_1159 : decode cL_law 1159 = .ok (.if_icmp .eq 117, 3) := by decide +kernel
theorem dL_law_1162 : decode cL_law 1162 = .ok (.iconst 0, 1) := by decide +kernel
theorem dL_law_1163 : decode cL_law 1163 = .ok (.ireturn, 1) := by decide +kernel
theorem dL_law_1164 : decode cL_law 1164 = .ok (.aload_n 1, 1) := by decide +kernel
theorem dL_law_1165 : decode cL_law 1165 = .ok (.aload_n 0, 1) := by decide +kernel
theorem dL_law_1166 : decode cL_law 1166 = .ok (.iload_n 3, 1) := by decide +kernel
theorem dL_law_1167 : decode cL_law 1167 = .ok (.iconst 1, 1) := by decide +kernel
theorem dL_law_1168 : decode cL_law 1168 = .ok (.iadd, 1) := by decide +kernel
theorem dL_law_1169 : decode cL_law 1169 = .ok (.iaload, 1) := by decide +kernel
theorem dL_law_1170 : decode cL_law 1170 = .ok (.aload_n 0, 1) := by decide +kernel
theorem dL_law_1171 : decode cL_law 1171 = .ok (.iload_n 3, 1) := by decide +kernel
theorem dL_law_1172 : decode cL_law 1172 = .ok (.iconst 2, 1) := by decide +kernel
theorem dL_law_1173 : decode cL_law 1173 = .ok (.iadd, 1) := by decide +kernel
theorem dL_law_1174 : decode cL_law 1174 = .ok (.iaload, 1) := by decide +kernel
theorem dL_law_1175 : decode cL_law 1175 = .ok (.aload_n 0, 1) := by decide +kernel
theorem dL_law_1176 : decode cL_law 1176 = .ok (.iload_n 3, 1) := by decide +kernel
theorem dL_law_1177 : decode cL_law 1177 = .ok (.iconst 3, 1) := by decide +kernel
theorem dL_law_1178 : decode cL_law 1178 = .ok (.iadd, 1) := by decide +kernel
theorem dL_law_1179 : decode cL_law 1179 = .ok (.iaload, 1) := by decide +kernel
theorem dL_law_1180 : decode cL_law 1180 = .ok (.aload_n 0, 1) := by decide +kernel
theorem dL_law_1181 : decode cL_law 1181 = .ok (.iload_n 3, 1) := by decide +kernel
theorem dL_law_1182 : decode cL_law 1182 = .ok (.iconst 4, 1) := by decide +kernel
theorem dL_law_1183 : decode cL_law 1183 = .ok (.iadd, 1) := by decide +kernel
theorem dL_law_1184 : decode cL_law 1184 = .ok (.iaload, 1) := by decide +kernel
theorem dL_law_1185 : decode cL_law 1185 = .ok (.invokevirtual 176, 3) := by decide +kernel
theorem dL_law_1188 : decode cL_law 1188 = .ok (.aload_n 2, 1) := by decide +kernel
theorem dL_law_1189 : decode cL_law 1189 = .ok (.aload_n 0, 1) := by decide +kernel
theorem dL_law_1190 : decode cL_law 1190 = .ok (.iload_n 3, 1) := by decide +kernel
theorem dL_law_1191 : decode cL_law 1191 = .ok (.iconst 1, 1) := by decide +kernel
theorem dL_law_1192 : decode cL_law 1192 = .ok (.iadd, 1) := by decide +kernel
theorem dL_law_1193 : decode cL_law 1193 = .ok (.iaload, 1) := by decide +kernel
theorem dL_law_1194 : decode cL_law 1194 = .ok (.aload_n 0, 1) := by decide +kernel
theorem dL_law_1195 : decode cL_law 1195 = .ok (.iload_n 3, 1) := by decide +kernel
theorem dL_law_1196 : decode cL_law 1196 = .ok (.iconst 2, 1) := by decide +kernel
theorem dL_law_1197 : decode cL_law 1197 = .ok (.iadd, 1) := by decide +kernel
theorem dL_law_1198 : decode cL_law 1198 = .ok (.iaload, 1) := by decide +kernel
theorem dL_law_1199 : decode cL_law 1199 = .ok (.aload_n 0, 1) := by decide +kernel
theorem dL_law_1200 : decode cL_law 1200 = .ok (.iload_n 3, 1) := by decide +kernel
theorem dL_law_1201 : decode cL_law 1201 = .ok (.iconst 3, 1) := by decide +kernel
theorem dL_law_1202 : decode cL_law 1202 = .ok (.iadd, 1) := by decide +kernel
theorem dL_law_1203 : decode cL_law 1203 = .ok (.iaload, 1) := by decide +kernel
theorem dL_law_1204 : decode cL_law 1204 = .ok (.aload_n 0, 1) := by decide +kernel
theorem dL_law_1205 : decode cL_law 1205 = .ok (.iload_n 3, 1) := by decide +kernel
theorem dL_law_1206 : decode cL_law 1206 = .ok (.iconst 4, 1) := by decide +kernel
theorem dL_law_1207 : decode cL_law 1207 = .ok (.iadd, 1) := by decide +kernel
theorem dL_law_1208 : decode cL_law 1208 = .ok (.iaload, 1) := by decide +kernel
theorem dL_law_1209 : decode cL_law 1209 = .ok (.invokevirtual 180, 3) := by decide +kernel
theorem dL_law_1212 : decode cL_law 1212 = .ok (.if_icmp .eq 64, 3) := by decide +kernel
theorem dL_law_1215 : decode cL_law 1215 = .ok (.iconst 0, 1) := by decide +kernel
theorem dL_law_1216 : decode cL_law 1216 = .ok (.ireturn, 1) := by decide +kernel
theorem dL_law_1217 : decode cL_law 1217 = .ok (.aload_n 1, 1) := by decide +kernel
theorem dL_law_1218 : decode cL_law 1218 = .ok (.aload_n 0, 1) := by decide +kernel
theorem dL_law_1219 : decode cL_law 1219 = .ok (.iload_n 3, 1) := by decide +kernel
theorem dL_law_1220 : decode cL_law 1220 = .ok (.iconst 1, 1) := by decide +kernel
theorem dL_law_1221 : decode cL_law 1221 = .ok (.iadd, 1) := by decide +kernel
theorem dL_law_1222 : decode cL_law 1222 = .ok (.iaload, 1) := by decide +kernel
theorem dL_law_1223 : decode cL_law 1223 = .ok (.aload_n 0, 1) := by decide +kernel
theorem dL_law_1224 : decode cL_law 1224 = .ok (.iload_n 3, 1) := by decide +kernel
theorem dL_law_1225 : decode cL_law 1225 = .ok (.iconst 2, 1) := by decide +kernel
theorem dL_law_1226 : decode cL_law 1226 = .ok (.iadd, 1) := by decide +kernel
theorem dL_law_1227 : decode cL_law 1227 = .ok (.iaload, 1) := by decide +kernel
theorem dL_law_1228 : decode cL_law 1228 = .ok (.invokevirtual 181, 3) := by decide +kernel
theorem dL_law_1231 : decode cL_law 1231 = .ok (.aload_n 2, 1) := by decide +kernel
theorem dL_law_1232 : decode cL_law 1232 = .ok (.aload_n 0, 1) := by decide +kernel
theorem dL_law_1233 : decode cL_law 1233 = .ok (.iload_n 3, 1) := by decide +kernel
theorem dL_law_1234 : decode cL_law 1234 = .ok (.iconst 1, 1) := by decide +kernel
theorem dL_law_1235 : decode cL_law 1235 = .ok (.iadd, 1) := by decide +kernel
theorem dL_law_1236 : decode cL_law 1236 = .ok (.iaload, 1) := by decide +kernel
theorem dL_law_1237 : decode cL_law 1237 = .ok (.aload_n 0, 1) := by decide +kernel
theorem dL_law_1238 : decode cL_law 1238 = .ok (.iload_n 3, 1) := by decide +kernel
theorem dL_law_1239 : decode cL_law 1239 = .ok (.iconst 2, 1) := by decide +kernel
theorem dL_law_1240 : decode cL_law 1240 = .ok (.iadd, 1) := by decide +kernel
theorem dL_law_1241 : decode cL_law 1241 = .ok (.iaload, 1) := by decide +kernel
theorem dL_law_1242 : decode cL_law 1242 = .ok (.invokevirtual 184, 3) := by decide +kernel
theorem dL_law_1245 : decode cL_law 1245 = .ok (.if_icmp .eq 31, 3) := by decide +kernel
theorem dL_law_1248 : decode cL_law 1248 = .ok (.iconst 0, 1) := by decide +kernel
theorem dL_law_1249 : decode cL_law 1249 = .ok (.ireturn, 1) := by decide +kernel
theorem dL_law_1250 : decode cL_law 1250 = .ok (.aload_n 1, 1) := by decide +kernel
theorem dL_law_1251 : decode cL_law 1251 = .ok (.invokevirtual 185, 3) := by decide +kernel
theorem dL_law_1254 : decode cL_law 1254 = .ok (.aload_n 2, 1) := by decide +kernel
theorem dL_law_1255 : decode cL_law 1255 = .ok (.invokevirtual 188, 3) := by decide +kernel
theorem dL_law_1258 : decode cL_law 1258 = .ok (.if_icmp .eq 18, 3) := by decide +kernel
theorem dL_law_1261 : decode cL_law 1261 = .ok (.iconst 0, 1) := by decide +kernel
theorem dL_law_1262 : decode cL_law 1262 = .ok (.ireturn, 1) := by decide +kernel
theorem dL_law_1263 : decode cL_law 1263 = .ok (.aload_n 1, 1) := by decide +kernel
theorem dL_law_1264 : decode cL_law 1264 = .ok (.invokevirtual 189, 3) := by decide +kernel
theorem dL_law_1267 : decode cL_law 1267 = .ok (.aload_n 2, 1) := by decide +kernel
theorem dL_law_1268 : decode cL_law 1268 = .ok (.invokevirtual 192, 3) := by decide +kernel
theorem dL_law_1271 : decode cL_law 1271 = .ok (.if_icmp .eq 5, 3) := by decide +kernel
theorem dL_law_1274 : decode cL_law 1274 = .ok (.iconst 0, 1) := by decide +kernel
theorem dL_law_1275 : decode cL_law 1275 = .ok (.ireturn, 1) := by decide +kernel
theorem dL_law_1276 : decode cL_law 1276 = .ok (.iinc 3 6, 3) := by decide +kernel
theorem dL_law_1279 : decode cL_law 1279 = .ok (.goto (-1261), 3) := by decide +kernel
theorem dL_law_1282 : decode cL_law 1282 = .ok (.iconst 1, 1) := by decide +kernel
theorem dL_law_1283 : decode cL_law 1283 = .ok (.ireturn, 1) := by decide +kernel
